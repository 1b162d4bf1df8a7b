/-! THE CLASS: its questions, further (printed) -/
def x_N_bitCount (I : Nat → Nat → Int32) (x : Int32) : Option (Int32 × (Nat → Nat → Int32)) := some ((((((((x - ((((x : Int32).toUInt32 >>> ((1 : Int32).toUInt32 &&& Int32.toUInt32 31)).toInt32) &&& 1431655765)) &&& 858993459) + ((((x - ((((x : Int32).toUInt32 >>> ((1 : Int32).toUInt32 &&& Int32.toUInt32 31)).toInt32) &&& 1431655765) : Int32).toUInt32 >>> ((2 : Int32).toUInt32 &&& Int32.toUInt32 31)).toInt32) &&& 858993459)) + (((((x - ((((x : Int32).toUInt32 >>> ((1 : Int32).toUInt32 &&& Int32.toUInt32 31)).toInt32) &&& 1431655765)) &&& 858993459) + ((((x - ((((x : Int32).toUInt32 >>> ((1 : Int32).toUInt32 &&& Int32.toUInt32 31)).toInt32) &&& 1431655765) : Int32).toUInt32 >>> ((2 : Int32).toUInt32 &&& Int32.toUInt32 31)).toInt32) &&& 858993459) : Int32).toUInt32 >>> ((4 : Int32).toUInt32 &&& Int32.toUInt32 31)).toInt32)) &&& 252645135) + (((((((x - ((((x : Int32).toUInt32 >>> ((1 : Int32).toUInt32 &&& Int32.toUInt32 31)).toInt32) &&& 1431655765)) &&& 858993459) + ((((x - ((((x : Int32).toUInt32 >>> ((1 : Int32).toUInt32 &&& Int32.toUInt32 31)).toInt32) &&& 1431655765) : Int32).toUInt32 >>> ((2 : Int32).toUInt32 &&& Int32.toUInt32 31)).toInt32) &&& 858993459)) + (((((x - ((((x : Int32).toUInt32 >>> ((1 : Int32).toUInt32 &&& Int32.toUInt32 31)).toInt32) &&& 1431655765)) &&& 858993459) + ((((x - ((((x : Int32).toUInt32 >>> ((1 : Int32).toUInt32 &&& Int32.toUInt32 31)).toInt32) &&& 1431655765) : Int32).toUInt32 >>> ((2 : Int32).toUInt32 &&& Int32.toUInt32 31)).toInt32) &&& 858993459) : Int32).toUInt32 >>> ((4 : Int32).toUInt32 &&& Int32.toUInt32 31)).toInt32)) &&& 252645135 : Int32).toUInt32 >>> ((8 : Int32).toUInt32 &&& Int32.toUInt32 31)).toInt32)) + ((((((((x - ((((x : Int32).toUInt32 >>> ((1 : Int32).toUInt32 &&& Int32.toUInt32 31)).toInt32) &&& 1431655765)) &&& 858993459) + ((((x - ((((x : Int32).toUInt32 >>> ((1 : Int32).toUInt32 &&& Int32.toUInt32 31)).toInt32) &&& 1431655765) : Int32).toUInt32 >>> ((2 : Int32).toUInt32 &&& Int32.toUInt32 31)).toInt32) &&& 858993459)) + (((((x - ((((x : Int32).toUInt32 >>> ((1 : Int32).toUInt32 &&& Int32.toUInt32 31)).toInt32) &&& 1431655765)) &&& 858993459) + ((((x - ((((x : Int32).toUInt32 >>> ((1 : Int32).toUInt32 &&& Int32.toUInt32 31)).toInt32) &&& 1431655765) : Int32).toUInt32 >>> ((2 : Int32).toUInt32 &&& Int32.toUInt32 31)).toInt32) &&& 858993459) : Int32).toUInt32 >>> ((4 : Int32).toUInt32 &&& Int32.toUInt32 31)).toInt32)) &&& 252645135) + (((((((x - ((((x : Int32).toUInt32 >>> ((1 : Int32).toUInt32 &&& Int32.toUInt32 31)).toInt32) &&& 1431655765)) &&& 858993459) + ((((x - ((((x : Int32).toUInt32 >>> ((1 : Int32).toUInt32 &&& Int32.toUInt32 31)).toInt32) &&& 1431655765) : Int32).toUInt32 >>> ((2 : Int32).toUInt32 &&& Int32.toUInt32 31)).toInt32) &&& 858993459)) + (((((x - ((((x : Int32).toUInt32 >>> ((1 : Int32).toUInt32 &&& Int32.toUInt32 31)).toInt32) &&& 1431655765)) &&& 858993459) + ((((x - ((((x : Int32).toUInt32 >>> ((1 : Int32).toUInt32 &&& Int32.toUInt32 31)).toInt32) &&& 1431655765) : Int32).toUInt32 >>> ((2 : Int32).toUInt32 &&& Int32.toUInt32 31)).toInt32) &&& 858993459) : Int32).toUInt32 >>> ((4 : Int32).toUInt32 &&& Int32.toUInt32 31)).toInt32)) &&& 252645135 : Int32).toUInt32 >>> ((8 : Int32).toUInt32 &&& Int32.toUInt32 31)).toInt32) : Int32).toUInt32 >>> ((16 : Int32).toUInt32 &&& Int32.toUInt32 31)).toInt32)) &&& 63, I)
set_option maxRecDepth 100000 in
theorem xp_N_bitCount {X : Nat × (Nat → Int32)} (I : Nat → Nat → Int32) (P : Nat → Nat → Option Nat) (x : Int32) (r : Int32 × (Nat → Nat → Int32)) (hx : x_N_bitCount I x = some r) : Wf X 93 [some (.int x)] (zH I P) (some (.int r.1)) (zH r.2 P) := by
  unfold Wf
  unfold x_N_bitCount at hx
  refine wp_blk (pc' := 51) (L' := [some (.int (((((((x - ((((x : Int32).toUInt32 >>> ((1 : Int32).toUInt32 &&& Int32.toUInt32 31)).toInt32) &&& 1431655765)) &&& 858993459) + ((((x - ((((x : Int32).toUInt32 >>> ((1 : Int32).toUInt32 &&& Int32.toUInt32 31)).toInt32) &&& 1431655765) : Int32).toUInt32 >>> ((2 : Int32).toUInt32 &&& Int32.toUInt32 31)).toInt32) &&& 858993459)) + (((((x - ((((x : Int32).toUInt32 >>> ((1 : Int32).toUInt32 &&& Int32.toUInt32 31)).toInt32) &&& 1431655765)) &&& 858993459) + ((((x - ((((x : Int32).toUInt32 >>> ((1 : Int32).toUInt32 &&& Int32.toUInt32 31)).toInt32) &&& 1431655765) : Int32).toUInt32 >>> ((2 : Int32).toUInt32 &&& Int32.toUInt32 31)).toInt32) &&& 858993459) : Int32).toUInt32 >>> ((4 : Int32).toUInt32 &&& Int32.toUInt32 31)).toInt32)) &&& 252645135) + (((((((x - ((((x : Int32).toUInt32 >>> ((1 : Int32).toUInt32 &&& Int32.toUInt32 31)).toInt32) &&& 1431655765)) &&& 858993459) + ((((x - ((((x : Int32).toUInt32 >>> ((1 : Int32).toUInt32 &&& Int32.toUInt32 31)).toInt32) &&& 1431655765) : Int32).toUInt32 >>> ((2 : Int32).toUInt32 &&& Int32.toUInt32 31)).toInt32) &&& 858993459)) + (((((x - ((((x : Int32).toUInt32 >>> ((1 : Int32).toUInt32 &&& Int32.toUInt32 31)).toInt32) &&& 1431655765)) &&& 858993459) + ((((x - ((((x : Int32).toUInt32 >>> ((1 : Int32).toUInt32 &&& Int32.toUInt32 31)).toInt32) &&& 1431655765) : Int32).toUInt32 >>> ((2 : Int32).toUInt32 &&& Int32.toUInt32 31)).toInt32) &&& 858993459) : Int32).toUInt32 >>> ((4 : Int32).toUInt32 &&& Int32.toUInt32 31)).toInt32)) &&& 252645135 : Int32).toUInt32 >>> ((8 : Int32).toUInt32 &&& Int32.toUInt32 31)).toInt32)) + ((((((((x - ((((x : Int32).toUInt32 >>> ((1 : Int32).toUInt32 &&& Int32.toUInt32 31)).toInt32) &&& 1431655765)) &&& 858993459) + ((((x - ((((x : Int32).toUInt32 >>> ((1 : Int32).toUInt32 &&& Int32.toUInt32 31)).toInt32) &&& 1431655765) : Int32).toUInt32 >>> ((2 : Int32).toUInt32 &&& Int32.toUInt32 31)).toInt32) &&& 858993459)) + (((((x - ((((x : Int32).toUInt32 >>> ((1 : Int32).toUInt32 &&& Int32.toUInt32 31)).toInt32) &&& 1431655765)) &&& 858993459) + ((((x - ((((x : Int32).toUInt32 >>> ((1 : Int32).toUInt32 &&& Int32.toUInt32 31)).toInt32) &&& 1431655765) : Int32).toUInt32 >>> ((2 : Int32).toUInt32 &&& Int32.toUInt32 31)).toInt32) &&& 858993459) : Int32).toUInt32 >>> ((4 : Int32).toUInt32 &&& Int32.toUInt32 31)).toInt32)) &&& 252645135) + (((((((x - ((((x : Int32).toUInt32 >>> ((1 : Int32).toUInt32 &&& Int32.toUInt32 31)).toInt32) &&& 1431655765)) &&& 858993459) + ((((x - ((((x : Int32).toUInt32 >>> ((1 : Int32).toUInt32 &&& Int32.toUInt32 31)).toInt32) &&& 1431655765) : Int32).toUInt32 >>> ((2 : Int32).toUInt32 &&& Int32.toUInt32 31)).toInt32) &&& 858993459)) + (((((x - ((((x : Int32).toUInt32 >>> ((1 : Int32).toUInt32 &&& Int32.toUInt32 31)).toInt32) &&& 1431655765)) &&& 858993459) + ((((x - ((((x : Int32).toUInt32 >>> ((1 : Int32).toUInt32 &&& Int32.toUInt32 31)).toInt32) &&& 1431655765) : Int32).toUInt32 >>> ((2 : Int32).toUInt32 &&& Int32.toUInt32 31)).toInt32) &&& 858993459) : Int32).toUInt32 >>> ((4 : Int32).toUInt32 &&& Int32.toUInt32 31)).toInt32)) &&& 252645135 : Int32).toUInt32 >>> ((8 : Int32).toUInt32 &&& Int32.toUInt32 31)).toInt32) : Int32).toUInt32 >>> ((16 : Int32).toUInt32 &&& Int32.toUInt32 31)).toInt32)))]) (st' := [.int 63, .int (((((((x - ((((x : Int32).toUInt32 >>> ((1 : Int32).toUInt32 &&& Int32.toUInt32 31)).toInt32) &&& 1431655765)) &&& 858993459) + ((((x - ((((x : Int32).toUInt32 >>> ((1 : Int32).toUInt32 &&& Int32.toUInt32 31)).toInt32) &&& 1431655765) : Int32).toUInt32 >>> ((2 : Int32).toUInt32 &&& Int32.toUInt32 31)).toInt32) &&& 858993459)) + (((((x - ((((x : Int32).toUInt32 >>> ((1 : Int32).toUInt32 &&& Int32.toUInt32 31)).toInt32) &&& 1431655765)) &&& 858993459) + ((((x - ((((x : Int32).toUInt32 >>> ((1 : Int32).toUInt32 &&& Int32.toUInt32 31)).toInt32) &&& 1431655765) : Int32).toUInt32 >>> ((2 : Int32).toUInt32 &&& Int32.toUInt32 31)).toInt32) &&& 858993459) : Int32).toUInt32 >>> ((4 : Int32).toUInt32 &&& Int32.toUInt32 31)).toInt32)) &&& 252645135) + (((((((x - ((((x : Int32).toUInt32 >>> ((1 : Int32).toUInt32 &&& Int32.toUInt32 31)).toInt32) &&& 1431655765)) &&& 858993459) + ((((x - ((((x : Int32).toUInt32 >>> ((1 : Int32).toUInt32 &&& Int32.toUInt32 31)).toInt32) &&& 1431655765) : Int32).toUInt32 >>> ((2 : Int32).toUInt32 &&& Int32.toUInt32 31)).toInt32) &&& 858993459)) + (((((x - ((((x : Int32).toUInt32 >>> ((1 : Int32).toUInt32 &&& Int32.toUInt32 31)).toInt32) &&& 1431655765)) &&& 858993459) + ((((x - ((((x : Int32).toUInt32 >>> ((1 : Int32).toUInt32 &&& Int32.toUInt32 31)).toInt32) &&& 1431655765) : Int32).toUInt32 >>> ((2 : Int32).toUInt32 &&& Int32.toUInt32 31)).toInt32) &&& 858993459) : Int32).toUInt32 >>> ((4 : Int32).toUInt32 &&& Int32.toUInt32 31)).toInt32)) &&& 252645135 : Int32).toUInt32 >>> ((8 : Int32).toUInt32 &&& Int32.toUInt32 31)).toInt32)) + ((((((((x - ((((x : Int32).toUInt32 >>> ((1 : Int32).toUInt32 &&& Int32.toUInt32 31)).toInt32) &&& 1431655765)) &&& 858993459) + ((((x - ((((x : Int32).toUInt32 >>> ((1 : Int32).toUInt32 &&& Int32.toUInt32 31)).toInt32) &&& 1431655765) : Int32).toUInt32 >>> ((2 : Int32).toUInt32 &&& Int32.toUInt32 31)).toInt32) &&& 858993459)) + (((((x - ((((x : Int32).toUInt32 >>> ((1 : Int32).toUInt32 &&& Int32.toUInt32 31)).toInt32) &&& 1431655765)) &&& 858993459) + ((((x - ((((x : Int32).toUInt32 >>> ((1 : Int32).toUInt32 &&& Int32.toUInt32 31)).toInt32) &&& 1431655765) : Int32).toUInt32 >>> ((2 : Int32).toUInt32 &&& Int32.toUInt32 31)).toInt32) &&& 858993459) : Int32).toUInt32 >>> ((4 : Int32).toUInt32 &&& Int32.toUInt32 31)).toInt32)) &&& 252645135) + (((((((x - ((((x : Int32).toUInt32 >>> ((1 : Int32).toUInt32 &&& Int32.toUInt32 31)).toInt32) &&& 1431655765)) &&& 858993459) + ((((x - ((((x : Int32).toUInt32 >>> ((1 : Int32).toUInt32 &&& Int32.toUInt32 31)).toInt32) &&& 1431655765) : Int32).toUInt32 >>> ((2 : Int32).toUInt32 &&& Int32.toUInt32 31)).toInt32) &&& 858993459)) + (((((x - ((((x : Int32).toUInt32 >>> ((1 : Int32).toUInt32 &&& Int32.toUInt32 31)).toInt32) &&& 1431655765)) &&& 858993459) + ((((x - ((((x : Int32).toUInt32 >>> ((1 : Int32).toUInt32 &&& Int32.toUInt32 31)).toInt32) &&& 1431655765) : Int32).toUInt32 >>> ((2 : Int32).toUInt32 &&& Int32.toUInt32 31)).toInt32) &&& 858993459) : Int32).toUInt32 >>> ((4 : Int32).toUInt32 &&& Int32.toUInt32 31)).toInt32)) &&& 252645135 : Int32).toUInt32 >>> ((8 : Int32).toUInt32 &&& Int32.toUInt32 31)).toInt32) : Int32).toUInt32 >>> ((16 : Int32).toUInt32 &&& Int32.toUInt32 31)).toInt32))]) (h' := zH I P) 40 rfl ?_
  refine wp_blk (pc' := 52) (L' := [some (.int (((((((x - ((((x : Int32).toUInt32 >>> ((1 : Int32).toUInt32 &&& Int32.toUInt32 31)).toInt32) &&& 1431655765)) &&& 858993459) + ((((x - ((((x : Int32).toUInt32 >>> ((1 : Int32).toUInt32 &&& Int32.toUInt32 31)).toInt32) &&& 1431655765) : Int32).toUInt32 >>> ((2 : Int32).toUInt32 &&& Int32.toUInt32 31)).toInt32) &&& 858993459)) + (((((x - ((((x : Int32).toUInt32 >>> ((1 : Int32).toUInt32 &&& Int32.toUInt32 31)).toInt32) &&& 1431655765)) &&& 858993459) + ((((x - ((((x : Int32).toUInt32 >>> ((1 : Int32).toUInt32 &&& Int32.toUInt32 31)).toInt32) &&& 1431655765) : Int32).toUInt32 >>> ((2 : Int32).toUInt32 &&& Int32.toUInt32 31)).toInt32) &&& 858993459) : Int32).toUInt32 >>> ((4 : Int32).toUInt32 &&& Int32.toUInt32 31)).toInt32)) &&& 252645135) + (((((((x - ((((x : Int32).toUInt32 >>> ((1 : Int32).toUInt32 &&& Int32.toUInt32 31)).toInt32) &&& 1431655765)) &&& 858993459) + ((((x - ((((x : Int32).toUInt32 >>> ((1 : Int32).toUInt32 &&& Int32.toUInt32 31)).toInt32) &&& 1431655765) : Int32).toUInt32 >>> ((2 : Int32).toUInt32 &&& Int32.toUInt32 31)).toInt32) &&& 858993459)) + (((((x - ((((x : Int32).toUInt32 >>> ((1 : Int32).toUInt32 &&& Int32.toUInt32 31)).toInt32) &&& 1431655765)) &&& 858993459) + ((((x - ((((x : Int32).toUInt32 >>> ((1 : Int32).toUInt32 &&& Int32.toUInt32 31)).toInt32) &&& 1431655765) : Int32).toUInt32 >>> ((2 : Int32).toUInt32 &&& Int32.toUInt32 31)).toInt32) &&& 858993459) : Int32).toUInt32 >>> ((4 : Int32).toUInt32 &&& Int32.toUInt32 31)).toInt32)) &&& 252645135 : Int32).toUInt32 >>> ((8 : Int32).toUInt32 &&& Int32.toUInt32 31)).toInt32)) + ((((((((x - ((((x : Int32).toUInt32 >>> ((1 : Int32).toUInt32 &&& Int32.toUInt32 31)).toInt32) &&& 1431655765)) &&& 858993459) + ((((x - ((((x : Int32).toUInt32 >>> ((1 : Int32).toUInt32 &&& Int32.toUInt32 31)).toInt32) &&& 1431655765) : Int32).toUInt32 >>> ((2 : Int32).toUInt32 &&& Int32.toUInt32 31)).toInt32) &&& 858993459)) + (((((x - ((((x : Int32).toUInt32 >>> ((1 : Int32).toUInt32 &&& Int32.toUInt32 31)).toInt32) &&& 1431655765)) &&& 858993459) + ((((x - ((((x : Int32).toUInt32 >>> ((1 : Int32).toUInt32 &&& Int32.toUInt32 31)).toInt32) &&& 1431655765) : Int32).toUInt32 >>> ((2 : Int32).toUInt32 &&& Int32.toUInt32 31)).toInt32) &&& 858993459) : Int32).toUInt32 >>> ((4 : Int32).toUInt32 &&& Int32.toUInt32 31)).toInt32)) &&& 252645135) + (((((((x - ((((x : Int32).toUInt32 >>> ((1 : Int32).toUInt32 &&& Int32.toUInt32 31)).toInt32) &&& 1431655765)) &&& 858993459) + ((((x - ((((x : Int32).toUInt32 >>> ((1 : Int32).toUInt32 &&& Int32.toUInt32 31)).toInt32) &&& 1431655765) : Int32).toUInt32 >>> ((2 : Int32).toUInt32 &&& Int32.toUInt32 31)).toInt32) &&& 858993459)) + (((((x - ((((x : Int32).toUInt32 >>> ((1 : Int32).toUInt32 &&& Int32.toUInt32 31)).toInt32) &&& 1431655765)) &&& 858993459) + ((((x - ((((x : Int32).toUInt32 >>> ((1 : Int32).toUInt32 &&& Int32.toUInt32 31)).toInt32) &&& 1431655765) : Int32).toUInt32 >>> ((2 : Int32).toUInt32 &&& Int32.toUInt32 31)).toInt32) &&& 858993459) : Int32).toUInt32 >>> ((4 : Int32).toUInt32 &&& Int32.toUInt32 31)).toInt32)) &&& 252645135 : Int32).toUInt32 >>> ((8 : Int32).toUInt32 &&& Int32.toUInt32 31)).toInt32) : Int32).toUInt32 >>> ((16 : Int32).toUInt32 &&& Int32.toUInt32 31)).toInt32)))]) (st' := [.int ((((((((x - ((((x : Int32).toUInt32 >>> ((1 : Int32).toUInt32 &&& Int32.toUInt32 31)).toInt32) &&& 1431655765)) &&& 858993459) + ((((x - ((((x : Int32).toUInt32 >>> ((1 : Int32).toUInt32 &&& Int32.toUInt32 31)).toInt32) &&& 1431655765) : Int32).toUInt32 >>> ((2 : Int32).toUInt32 &&& Int32.toUInt32 31)).toInt32) &&& 858993459)) + (((((x - ((((x : Int32).toUInt32 >>> ((1 : Int32).toUInt32 &&& Int32.toUInt32 31)).toInt32) &&& 1431655765)) &&& 858993459) + ((((x - ((((x : Int32).toUInt32 >>> ((1 : Int32).toUInt32 &&& Int32.toUInt32 31)).toInt32) &&& 1431655765) : Int32).toUInt32 >>> ((2 : Int32).toUInt32 &&& Int32.toUInt32 31)).toInt32) &&& 858993459) : Int32).toUInt32 >>> ((4 : Int32).toUInt32 &&& Int32.toUInt32 31)).toInt32)) &&& 252645135) + (((((((x - ((((x : Int32).toUInt32 >>> ((1 : Int32).toUInt32 &&& Int32.toUInt32 31)).toInt32) &&& 1431655765)) &&& 858993459) + ((((x - ((((x : Int32).toUInt32 >>> ((1 : Int32).toUInt32 &&& Int32.toUInt32 31)).toInt32) &&& 1431655765) : Int32).toUInt32 >>> ((2 : Int32).toUInt32 &&& Int32.toUInt32 31)).toInt32) &&& 858993459)) + (((((x - ((((x : Int32).toUInt32 >>> ((1 : Int32).toUInt32 &&& Int32.toUInt32 31)).toInt32) &&& 1431655765)) &&& 858993459) + ((((x - ((((x : Int32).toUInt32 >>> ((1 : Int32).toUInt32 &&& Int32.toUInt32 31)).toInt32) &&& 1431655765) : Int32).toUInt32 >>> ((2 : Int32).toUInt32 &&& Int32.toUInt32 31)).toInt32) &&& 858993459) : Int32).toUInt32 >>> ((4 : Int32).toUInt32 &&& Int32.toUInt32 31)).toInt32)) &&& 252645135 : Int32).toUInt32 >>> ((8 : Int32).toUInt32 &&& Int32.toUInt32 31)).toInt32)) + ((((((((x - ((((x : Int32).toUInt32 >>> ((1 : Int32).toUInt32 &&& Int32.toUInt32 31)).toInt32) &&& 1431655765)) &&& 858993459) + ((((x - ((((x : Int32).toUInt32 >>> ((1 : Int32).toUInt32 &&& Int32.toUInt32 31)).toInt32) &&& 1431655765) : Int32).toUInt32 >>> ((2 : Int32).toUInt32 &&& Int32.toUInt32 31)).toInt32) &&& 858993459)) + (((((x - ((((x : Int32).toUInt32 >>> ((1 : Int32).toUInt32 &&& Int32.toUInt32 31)).toInt32) &&& 1431655765)) &&& 858993459) + ((((x - ((((x : Int32).toUInt32 >>> ((1 : Int32).toUInt32 &&& Int32.toUInt32 31)).toInt32) &&& 1431655765) : Int32).toUInt32 >>> ((2 : Int32).toUInt32 &&& Int32.toUInt32 31)).toInt32) &&& 858993459) : Int32).toUInt32 >>> ((4 : Int32).toUInt32 &&& Int32.toUInt32 31)).toInt32)) &&& 252645135) + (((((((x - ((((x : Int32).toUInt32 >>> ((1 : Int32).toUInt32 &&& Int32.toUInt32 31)).toInt32) &&& 1431655765)) &&& 858993459) + ((((x - ((((x : Int32).toUInt32 >>> ((1 : Int32).toUInt32 &&& Int32.toUInt32 31)).toInt32) &&& 1431655765) : Int32).toUInt32 >>> ((2 : Int32).toUInt32 &&& Int32.toUInt32 31)).toInt32) &&& 858993459)) + (((((x - ((((x : Int32).toUInt32 >>> ((1 : Int32).toUInt32 &&& Int32.toUInt32 31)).toInt32) &&& 1431655765)) &&& 858993459) + ((((x - ((((x : Int32).toUInt32 >>> ((1 : Int32).toUInt32 &&& Int32.toUInt32 31)).toInt32) &&& 1431655765) : Int32).toUInt32 >>> ((2 : Int32).toUInt32 &&& Int32.toUInt32 31)).toInt32) &&& 858993459) : Int32).toUInt32 >>> ((4 : Int32).toUInt32 &&& Int32.toUInt32 31)).toInt32)) &&& 252645135 : Int32).toUInt32 >>> ((8 : Int32).toUInt32 &&& Int32.toUInt32 31)).toInt32) : Int32).toUInt32 >>> ((16 : Int32).toUInt32 &&& Int32.toUInt32 31)).toInt32)) &&& 63)]) (h' := zH I P) 1 rfl ?_
  cases hx
  exact wp_end rfl rfl ⟨rfl, rfl⟩
def l_G_breadPraisedBy_13 : Nat → (Nat → Nat → Int32) → Int32 → Int32 → Int32 → Option (Int32 × (Nat → Nat → Int32))
  | 0, _, _, _, _ => none
  | n + 1, I, x1, x2, x3 => if f_M_size 8 9 10 11 I ≤ x3 then ((x_R_pass 8 9 10 11 I).bind (fun q2 => some (f_G_breadOf q2.2 (f_R_fineOf q2.2 x2), q2.2))) else (if f_G_isIn I x1 x3 = 0 then (l_G_breadPraisedBy_13 n I x1 x2 (x3 + 1)) else (l_G_breadPraisedBy_13 n (g_M_setWord 8 9 10 11 I x3 x2 6) x1 x2 (x3 + 1)))
def x_G_breadPraisedBy (I : Nat → Nat → Int32) (b c : Int32) : Option (Int32 × (Nat → Nat → Int32)) := (x_M_copy 8 9 10 11 4 5 6 7 I).bind (fun q1 => l_G_breadPraisedBy_13 1000 q1.2 b c 0)
set_option maxRecDepth 100000 in
theorem lp_G_breadPraisedBy_13 {X : Nat × (Nat → Int32)} (P : Nat → Nat → Option Nat) : ∀ (n : Nat) (I : Nat → Nat → Int32) (x1 : Int32) (x2 : Int32) (x3 : Int32) (r : Int32 × (Nat → Nat → Int32)), l_G_breadPraisedBy_13 n I x1 x2 x3 = some r → Wp X 94 13 [some (.ref 0), some (.int x1), some (.int x2), some (.int x3)] [] (zH I P) (fun r2 h2 => r2 = some (.int r.1) ∧ h2 = zH r.2 P) := by
  intro n
  induction n with
  | zero => intro I x1 x2 x3 r hx; cases hx
  | succ n ih =>
    intro I x1 x2 x3 r hx
    rw [l_G_breadPraisedBy_13] at hx
    refine wp_blk (pc' := 18) (L' := [some (.ref 0), some (.int x1), some (.int x2), some (.int x3)]) (st' := [.ref 8, .int x3]) (h' := zH I P) 3 rfl ?_
    refine wp_callf (d := 36) (as := [.ref 8]) (rest := [.int x3]) (Ld := [some (.ref 8)]) (pc' := 21) (st' := [.int (f_M_size 8 9 10 11 I), .int x3]) (r := some (.int (f_M_size 8 9 10 11 I))) (h1 := zH I P) rfl rfl rfl rfl rfl rfl rfl rfl rfl (sp_M_size_8 I P) ?_
    refine wp_ge (a := x3) (b := f_M_size 8 9 10 11 I) (s1 := (49, [some (.ref 0), some (.int x1), some (.int x2), some (.int x3)], [], zH I P)) (s2 := (24, [some (.ref 0), some (.int x1), some (.int x2), some (.int x3)], [], zH I P)) rfl (fun c1 => ?_) (fun c1 => ?_)
    · rw [if_pos c1] at hx
      refine wp_blk (pc' := 57) (L' := [some (.ref 0), some (.int x1), some (.int x2), some (.int x3)]) (st' := [.ref 8, .ref 12]) (h' := zH I P) 4 rfl ?_
      obtain ⟨y1, hy1, hx⟩ := zbind hx
      refine wp_callf (d := 50) (as := [.ref 12, .ref 8]) (rest := []) (Ld := [some (.ref 12), some (.ref 8)]) (pc' := 60) (st' := []) (r := none) (h1 := zH y1.2 P) rfl rfl rfl rfl rfl rfl rfl rfl rfl (xp_R_pass_8 _ _  _ hy1) ?_
      refine wp_blk (pc' := 65) (L' := [some (.ref 0), some (.int x1), some (.int x2), some (.int x3)]) (st' := [.int x2, .ref 12]) (h' := zH y1.2 P) 3 rfl ?_
      refine wp_callf (d := 63) (as := [.ref 12, .int x2]) (rest := []) (Ld := [some (.ref 12), some (.int x2)]) (pc' := 68) (st' := [.int (f_R_fineOf y1.2 x2)]) (r := some (.int (f_R_fineOf y1.2 x2))) (h1 := zH y1.2 P) rfl rfl rfl rfl rfl rfl rfl rfl rfl (sp_R_fineOf y1.2 P x2) ?_
      refine wp_callf (d := 62) (as := [.int (f_R_fineOf y1.2 x2)]) (rest := []) (Ld := [some (.int (f_R_fineOf y1.2 x2))]) (pc' := 71) (st' := [.int (f_G_breadOf y1.2 (f_R_fineOf y1.2 x2))]) (r := some (.int (f_G_breadOf y1.2 (f_R_fineOf y1.2 x2)))) (h1 := zH y1.2 P) rfl rfl rfl rfl rfl rfl rfl rfl rfl (sp_G_breadOf y1.2 P (f_R_fineOf y1.2 x2)) ?_
      cases hx
      exact wp_end rfl rfl ⟨rfl, rfl⟩
    · rw [if_neg c1] at hx
      refine wp_blk (pc' := 26) (L' := [some (.ref 0), some (.int x1), some (.int x2), some (.int x3)]) (st' := [.int x3, .int x1]) (h' := zH I P) 2 rfl ?_
      refine wp_callf (d := 45) (as := [.int x1, .int x3]) (rest := []) (Ld := [some (.int x1), some (.int x3)]) (pc' := 29) (st' := [.int (f_G_isIn I x1 x3)]) (r := some (.int (f_G_isIn I x1 x3))) (h1 := zH I P) rfl rfl rfl rfl rfl rfl rfl rfl rfl (sp_G_isIn I P x1 x3) ?_
      refine wp_eq (a := f_G_isIn I x1 x3) (b := 0) (s1 := (43, [some (.ref 0), some (.int x1), some (.int x2), some (.int x3)], [], zH I P)) (s2 := (32, [some (.ref 0), some (.int x1), some (.int x2), some (.int x3)], [], zH I P)) rfl (fun c2 => ?_) (fun c2 => ?_)
      · rw [if_pos c2] at hx
        refine wp_blk (pc' := 13) (L' := [some (.ref 0), some (.int x1), some (.int x2), some (.int (x3 + 1))]) (st' := []) (h' := zH I P) 2 rfl ?_
        exact ih _ _ _ _ _ hx
      · rw [if_neg c2] at hx
        refine wp_blk (pc' := 40) (L' := [some (.ref 0), some (.int x1), some (.int x2), some (.int x3)]) (st' := [.int 6, .int x2, .int x3, .ref 8]) (h' := zH I P) 5 rfl ?_
        refine wp_callf (d := 26) (as := [.ref 8, .int x3, .int x2, .int 6]) (rest := []) (Ld := [some (.ref 8), some (.int x3), some (.int x2), some (.int 6), none]) (pc' := 43) (st' := []) (r := none) (h1 := zH (g_M_setWord 8 9 10 11 I x3 x2 6) P) rfl rfl rfl rfl rfl rfl rfl rfl rfl (sp_M_setWord_8 I P x3 x2 6) ?_
        refine wp_blk (pc' := 13) (L' := [some (.ref 0), some (.int x1), some (.int x2), some (.int (x3 + 1))]) (st' := []) (h' := zH (g_M_setWord 8 9 10 11 I x3 x2 6) P) 2 rfl ?_
        exact ih _ _ _ _ _ hx
set_option maxRecDepth 100000 in
theorem xp_G_breadPraisedBy {X : Nat × (Nat → Int32)} (I : Nat → Nat → Int32) (P : Nat → Nat → Option Nat) (b c : Int32) (r : Int32 × (Nat → Nat → Int32)) (hx : x_G_breadPraisedBy I b c = some r) : Wf X 94 [some (.ref 0), some (.int b), some (.int c), none] (zH I P) (some (.int r.1)) (zH r.2 P) := by
  unfold Wf
  unfold x_G_breadPraisedBy at hx
  refine wp_blk (pc' := 8) (L' := [some (.ref 0), some (.int b), some (.int c), none]) (st' := [.ref 4, .ref 8]) (h' := zH I P) 4 rfl ?_
  obtain ⟨y1, hy1, hx⟩ := zbind hx
  refine wp_callf (d := 37) (as := [.ref 8, .ref 4]) (rest := []) (Ld := [some (.ref 8), some (.ref 4)]) (pc' := 11) (st' := []) (r := none) (h1 := zH y1.2 P) rfl rfl rfl rfl rfl rfl rfl rfl rfl (xp_M_copy_8_4 _ _  _ hy1) ?_
  refine wp_blk (pc' := 13) (L' := [some (.ref 0), some (.int b), some (.int c), some (.int 0)]) (st' := []) (h' := zH y1.2 P) 2 rfl ?_
  exact lp_G_breadPraisedBy_13 P _ _ _ _ _ _ hx
def l_G_words_41 : Nat → (Nat → Nat → Int32) → Int32 → Int32 → Int32 → Int32 → Option (Int32 × (Nat → Nat → Int32))
  | 0, _, _, _, _, _ => none
  | n + 1, I, x1, x2, x3, x4 => if 1 <<< ((f_M_size 4 5 6 7 I) &&& 31) ≤ x4 then (some (x3, I)) else (if x3 = -4 then (if f_G_isIn I x4 x1 = 0 then ((x_G_breadPraisedBy I x4 x1).bind (fun q1 => if q1.1 < x2 then (l_G_words_41 n q1.2 x1 x2 x3 (x4 + 1)) else (l_G_words_41 n q1.2 x1 x2 x4 (x4 + 1)))) else (l_G_words_41 n I x1 x2 x3 (x4 + 1))) else ((x_N_bitCount I x4).bind (fun q2 => (x_N_bitCount q2.2 x3).bind (fun q3 => if q3.1 ≤ q2.1 then (l_G_words_41 n q3.2 x1 x2 x3 (x4 + 1)) else (if f_G_isIn q3.2 x4 x1 = 0 then ((x_G_breadPraisedBy q3.2 x4 x1).bind (fun q4 => if q4.1 < x2 then (l_G_words_41 n q4.2 x1 x2 x3 (x4 + 1)) else (l_G_words_41 n q4.2 x1 x2 x4 (x4 + 1)))) else (l_G_words_41 n q3.2 x1 x2 x3 (x4 + 1)))))))
def x_G_words (I : Nat → Nat → Int32) (c b : Int32) : Option (Int32 × (Nat → Nat → Int32)) := if f_M_has 4 5 6 7 I c = 0 then (some (-1, I)) else (if f_G_isOutside I b 3 = 0 then (if f_M_isGone 4 5 6 7 I c = 0 then (l_G_words_41 1000 I c b (-4) 0) else (some (-2, I))) else (some (-1, I)))
set_option maxRecDepth 100000 in
theorem lp_G_words_41 {X : Nat × (Nat → Int32)} (P : Nat → Nat → Option Nat) : ∀ (n : Nat) (I : Nat → Nat → Int32) (x1 : Int32) (x2 : Int32) (x3 : Int32) (x4 : Int32) (r : Int32 × (Nat → Nat → Int32)), l_G_words_41 n I x1 x2 x3 x4 = some r → Wp X 92 41 [some (.ref 0), some (.int x1), some (.int x2), some (.int x3), some (.int x4), none] [] (zH I P) (fun r2 h2 => r2 = some (.int r.1) ∧ h2 = zH r.2 P) := by
  intro n
  induction n with
  | zero => intro I x1 x2 x3 x4 r hx; cases hx
  | succ n ih =>
    intro I x1 x2 x3 x4 r hx
    rw [l_G_words_41] at hx
    refine wp_blk (pc' := 48) (L' := [some (.ref 0), some (.int x1), some (.int x2), some (.int x3), some (.int x4), none]) (st' := [.ref 4, .int 1, .int x4]) (h' := zH I P) 4 rfl ?_
    refine wp_callf (d := 36) (as := [.ref 4]) (rest := [.int 1, .int x4]) (Ld := [some (.ref 4)]) (pc' := 51) (st' := [.int (f_M_size 4 5 6 7 I), .int 1, .int x4]) (r := some (.int (f_M_size 4 5 6 7 I))) (h1 := zH I P) rfl rfl rfl rfl rfl rfl rfl rfl rfl (sp_M_size_4 I P) ?_
    refine wp_blk (pc' := 52) (L' := [some (.ref 0), some (.int x1), some (.int x2), some (.int x3), some (.int x4), none]) (st' := [.int (1 <<< ((f_M_size 4 5 6 7 I) &&& 31)), .int x4]) (h' := zH I P) 1 rfl ?_
    refine wp_ge (a := x4) (b := 1 <<< ((f_M_size 4 5 6 7 I) &&& 31)) (s1 := (114, [some (.ref 0), some (.int x1), some (.int x2), some (.int x3), some (.int x4), none], [], zH I P)) (s2 := (55, [some (.ref 0), some (.int x1), some (.int x2), some (.int x3), some (.int x4), none], [], zH I P)) rfl (fun c1 => ?_) (fun c1 => ?_)
    · rw [if_pos c1] at hx
      refine wp_blk (pc' := 115) (L' := [some (.ref 0), some (.int x1), some (.int x2), some (.int x3), some (.int x4), none]) (st' := [.int x3]) (h' := zH I P) 1 rfl ?_
      cases hx
      exact wp_end rfl rfl ⟨rfl, rfl⟩
    · rw [if_neg c1] at hx
      refine wp_blk (pc' := 58) (L' := [some (.ref 0), some (.int x1), some (.int x2), some (.int x3), some (.int x4), none]) (st' := [.int (-4), .int x3]) (h' := zH I P) 2 rfl ?_
      refine wp_eq (a := x3) (b := -4) (s1 := (73, [some (.ref 0), some (.int x1), some (.int x2), some (.int x3), some (.int x4), none], [], zH I P)) (s2 := (61, [some (.ref 0), some (.int x1), some (.int x2), some (.int x3), some (.int x4), none], [], zH I P)) rfl (fun c2 => ?_) (fun c2 => ?_)
      · rw [if_pos c2] at hx
        refine wp_blk (pc' := 88) (L' := [some (.ref 0), some (.int x1), some (.int x2), some (.int x3), some (.int x4), some (.int 1)]) (st' := [.int x1, .int x4]) (h' := zH I P) 7 rfl ?_
        refine wp_callf (d := 45) (as := [.int x4, .int x1]) (rest := []) (Ld := [some (.int x4), some (.int x1)]) (pc' := 91) (st' := [.int (f_G_isIn I x4 x1)]) (r := some (.int (f_G_isIn I x4 x1))) (h1 := zH I P) rfl rfl rfl rfl rfl rfl rfl rfl rfl (sp_G_isIn I P x4 x1) ?_
        refine wp_ne (a := f_G_isIn I x4 x1) (b := 0) (s1 := (108, [some (.ref 0), some (.int x1), some (.int x2), some (.int x3), some (.int x4), some (.int 1)], [], zH I P)) (s2 := (94, [some (.ref 0), some (.int x1), some (.int x2), some (.int x3), some (.int x4), some (.int 1)], [], zH I P)) rfl (fun c3 => ?_) (fun c3 => ?_)
        · rw [if_neg c3] at hx
          refine wp_blk (pc' := 41) (L' := [some (.ref 0), some (.int x1), some (.int x2), some (.int x3), some (.int (x4 + 1)), some (.int 1)]) (st' := []) (h' := zH I P) 2 rfl ?_
          exact wp_forget (ih _ _ _ _ _ _ hx) (zle_c (zle_c (zle_c (zle_c (zle_c (zle_n zle_nil))))))
        · rw [if_pos c3] at hx
          refine wp_blk (pc' := 98) (L' := [some (.ref 0), some (.int x1), some (.int x2), some (.int x3), some (.int x4), some (.int 1)]) (st' := [.int x1, .int x4, .ref 0]) (h' := zH I P) 3 rfl ?_
          obtain ⟨y1, hy1, hx⟩ := zbind hx
          refine wp_callf (d := 94) (as := [.ref 0, .int x4, .int x1]) (rest := []) (Ld := [some (.ref 0), some (.int x4), some (.int x1), none]) (pc' := 101) (st' := [.int y1.1]) (r := some (.int y1.1)) (h1 := zH y1.2 P) rfl rfl rfl rfl rfl rfl rfl rfl rfl (xp_G_breadPraisedBy _ _ _ _ _ hy1) ?_
          refine wp_blk (pc' := 102) (L' := [some (.ref 0), some (.int x1), some (.int x2), some (.int x3), some (.int x4), some (.int 1)]) (st' := [.int x2, .int y1.1]) (h' := zH y1.2 P) 1 rfl ?_
          refine wp_lt (a := y1.1) (b := x2) (s1 := (108, [some (.ref 0), some (.int x1), some (.int x2), some (.int x3), some (.int x4), some (.int 1)], [], zH y1.2 P)) (s2 := (105, [some (.ref 0), some (.int x1), some (.int x2), some (.int x3), some (.int x4), some (.int 1)], [], zH y1.2 P)) rfl (fun c4 => ?_) (fun c4 => ?_)
          · rw [if_pos c4] at hx
            refine wp_blk (pc' := 41) (L' := [some (.ref 0), some (.int x1), some (.int x2), some (.int x3), some (.int (x4 + 1)), some (.int 1)]) (st' := []) (h' := zH y1.2 P) 2 rfl ?_
            exact wp_forget (ih _ _ _ _ _ _ hx) (zle_c (zle_c (zle_c (zle_c (zle_c (zle_n zle_nil))))))
          · rw [if_neg c4] at hx
            refine wp_blk (pc' := 41) (L' := [some (.ref 0), some (.int x1), some (.int x2), some (.int x4), some (.int (x4 + 1)), some (.int 1)]) (st' := []) (h' := zH y1.2 P) 4 rfl ?_
            exact wp_forget (ih _ _ _ _ _ _ hx) (zle_c (zle_c (zle_c (zle_c (zle_c (zle_n zle_nil))))))
      · rw [if_neg c2] at hx
        refine wp_blk (pc' := 63) (L' := [some (.ref 0), some (.int x1), some (.int x2), some (.int x3), some (.int x4), none]) (st' := [.int x4]) (h' := zH I P) 1 rfl ?_
        obtain ⟨y2, hy2, hx⟩ := zbind hx
        refine wp_callf (d := 93) (as := [.int x4]) (rest := []) (Ld := [some (.int x4)]) (pc' := 66) (st' := [.int y2.1]) (r := some (.int y2.1)) (h1 := zH y2.2 P) rfl rfl rfl rfl rfl rfl rfl rfl rfl (xp_N_bitCount _ _ _ _ hy2) ?_
        refine wp_blk (pc' := 67) (L' := [some (.ref 0), some (.int x1), some (.int x2), some (.int x3), some (.int x4), none]) (st' := [.int x3, .int y2.1]) (h' := zH y2.2 P) 1 rfl ?_
        obtain ⟨y3, hy3, hx⟩ := zbind hx
        refine wp_callf (d := 93) (as := [.int x3]) (rest := [.int y2.1]) (Ld := [some (.int x3)]) (pc' := 70) (st' := [.int y3.1, .int y2.1]) (r := some (.int y3.1)) (h1 := zH y3.2 P) rfl rfl rfl rfl rfl rfl rfl rfl rfl (xp_N_bitCount _ _ _ _ hy3) ?_
        refine wp_ge (a := y2.1) (b := y3.1) (s1 := (77, [some (.ref 0), some (.int x1), some (.int x2), some (.int x3), some (.int x4), none], [], zH y3.2 P)) (s2 := (73, [some (.ref 0), some (.int x1), some (.int x2), some (.int x3), some (.int x4), none], [], zH y3.2 P)) rfl (fun c5 => ?_) (fun c5 => ?_)
        · rw [if_pos c5] at hx
          refine wp_blk (pc' := 41) (L' := [some (.ref 0), some (.int x1), some (.int x2), some (.int x3), some (.int (x4 + 1)), some (.int 0)]) (st' := []) (h' := zH y3.2 P) 6 rfl ?_
          exact wp_forget (ih _ _ _ _ _ _ hx) (zle_c (zle_c (zle_c (zle_c (zle_c (zle_n zle_nil))))))
        · rw [if_neg c5] at hx
          refine wp_blk (pc' := 88) (L' := [some (.ref 0), some (.int x1), some (.int x2), some (.int x3), some (.int x4), some (.int 1)]) (st' := [.int x1, .int x4]) (h' := zH y3.2 P) 7 rfl ?_
          refine wp_callf (d := 45) (as := [.int x4, .int x1]) (rest := []) (Ld := [some (.int x4), some (.int x1)]) (pc' := 91) (st' := [.int (f_G_isIn y3.2 x4 x1)]) (r := some (.int (f_G_isIn y3.2 x4 x1))) (h1 := zH y3.2 P) rfl rfl rfl rfl rfl rfl rfl rfl rfl (sp_G_isIn y3.2 P x4 x1) ?_
          refine wp_ne (a := f_G_isIn y3.2 x4 x1) (b := 0) (s1 := (108, [some (.ref 0), some (.int x1), some (.int x2), some (.int x3), some (.int x4), some (.int 1)], [], zH y3.2 P)) (s2 := (94, [some (.ref 0), some (.int x1), some (.int x2), some (.int x3), some (.int x4), some (.int 1)], [], zH y3.2 P)) rfl (fun c6 => ?_) (fun c6 => ?_)
          · rw [if_neg c6] at hx
            refine wp_blk (pc' := 41) (L' := [some (.ref 0), some (.int x1), some (.int x2), some (.int x3), some (.int (x4 + 1)), some (.int 1)]) (st' := []) (h' := zH y3.2 P) 2 rfl ?_
            exact wp_forget (ih _ _ _ _ _ _ hx) (zle_c (zle_c (zle_c (zle_c (zle_c (zle_n zle_nil))))))
          · rw [if_pos c6] at hx
            refine wp_blk (pc' := 98) (L' := [some (.ref 0), some (.int x1), some (.int x2), some (.int x3), some (.int x4), some (.int 1)]) (st' := [.int x1, .int x4, .ref 0]) (h' := zH y3.2 P) 3 rfl ?_
            obtain ⟨y4, hy4, hx⟩ := zbind hx
            refine wp_callf (d := 94) (as := [.ref 0, .int x4, .int x1]) (rest := []) (Ld := [some (.ref 0), some (.int x4), some (.int x1), none]) (pc' := 101) (st' := [.int y4.1]) (r := some (.int y4.1)) (h1 := zH y4.2 P) rfl rfl rfl rfl rfl rfl rfl rfl rfl (xp_G_breadPraisedBy _ _ _ _ _ hy4) ?_
            refine wp_blk (pc' := 102) (L' := [some (.ref 0), some (.int x1), some (.int x2), some (.int x3), some (.int x4), some (.int 1)]) (st' := [.int x2, .int y4.1]) (h' := zH y4.2 P) 1 rfl ?_
            refine wp_lt (a := y4.1) (b := x2) (s1 := (108, [some (.ref 0), some (.int x1), some (.int x2), some (.int x3), some (.int x4), some (.int 1)], [], zH y4.2 P)) (s2 := (105, [some (.ref 0), some (.int x1), some (.int x2), some (.int x3), some (.int x4), some (.int 1)], [], zH y4.2 P)) rfl (fun c7 => ?_) (fun c7 => ?_)
            · rw [if_pos c7] at hx
              refine wp_blk (pc' := 41) (L' := [some (.ref 0), some (.int x1), some (.int x2), some (.int x3), some (.int (x4 + 1)), some (.int 1)]) (st' := []) (h' := zH y4.2 P) 2 rfl ?_
              exact wp_forget (ih _ _ _ _ _ _ hx) (zle_c (zle_c (zle_c (zle_c (zle_c (zle_n zle_nil))))))
            · rw [if_neg c7] at hx
              refine wp_blk (pc' := 41) (L' := [some (.ref 0), some (.int x1), some (.int x2), some (.int x4), some (.int (x4 + 1)), some (.int 1)]) (st' := []) (h' := zH y4.2 P) 4 rfl ?_
              exact wp_forget (ih _ _ _ _ _ _ hx) (zle_c (zle_c (zle_c (zle_c (zle_c (zle_n zle_nil))))))
set_option maxRecDepth 100000 in
theorem xp_G_words {X : Nat × (Nat → Int32)} (I : Nat → Nat → Int32) (P : Nat → Nat → Option Nat) (c b : Int32) (r : Int32 × (Nat → Nat → Int32)) (hx : x_G_words I c b = some r) : Wf X 92 [some (.ref 0), some (.int c), some (.int b), none, none, none] (zH I P) (some (.int r.1)) (zH r.2 P) := by
  unfold Wf
  unfold x_G_words at hx
  refine wp_blk (pc' := 5) (L' := [some (.ref 0), some (.int c), some (.int b), none, none, none]) (st' := [.int c, .ref 4]) (h' := zH I P) 3 rfl ?_
  refine wp_callf (d := 24) (as := [.ref 4, .int c]) (rest := []) (Ld := [some (.ref 4), some (.int c)]) (pc' := 8) (st' := [.int (f_M_has 4 5 6 7 I c)]) (r := some (.int (f_M_has 4 5 6 7 I c))) (h1 := zH I P) rfl rfl rfl rfl rfl rfl rfl rfl rfl (sp_M_has_4 I P c) ?_
  refine wp_eq (a := f_M_has 4 5 6 7 I c) (b := 0) (s1 := (19, [some (.ref 0), some (.int c), some (.int b), none, none, none], [], zH I P)) (s2 := (11, [some (.ref 0), some (.int c), some (.int b), none, none, none], [], zH I P)) rfl (fun c1 => ?_) (fun c1 => ?_)
  · rw [if_pos c1] at hx
    refine wp_blk (pc' := 20) (L' := [some (.ref 0), some (.int c), some (.int b), none, none, none]) (st' := [.int (-1)]) (h' := zH I P) 1 rfl ?_
    cases hx
    exact wp_end rfl rfl ⟨rfl, rfl⟩
  · rw [if_neg c1] at hx
    refine wp_blk (pc' := 13) (L' := [some (.ref 0), some (.int c), some (.int b), none, none, none]) (st' := [.int 3, .int b]) (h' := zH I P) 2 rfl ?_
    refine wp_callf (d := 25) (as := [.int b, .int 3]) (rest := []) (Ld := [some (.int b), some (.int 3)]) (pc' := 16) (st' := [.int (f_G_isOutside I b 3)]) (r := some (.int (f_G_isOutside I b 3))) (h1 := zH I P) rfl rfl rfl rfl rfl rfl rfl rfl rfl (sp_G_isOutside I P b 3) ?_
    refine wp_eq (a := f_G_isOutside I b 3) (b := 0) (s1 := (21, [some (.ref 0), some (.int c), some (.int b), none, none, none], [], zH I P)) (s2 := (19, [some (.ref 0), some (.int c), some (.int b), none, none, none], [], zH I P)) rfl (fun c2 => ?_) (fun c2 => ?_)
    · rw [if_pos c2] at hx
      refine wp_blk (pc' := 26) (L' := [some (.ref 0), some (.int c), some (.int b), none, none, none]) (st' := [.int c, .ref 4]) (h' := zH I P) 3 rfl ?_
      refine wp_callf (d := 44) (as := [.ref 4, .int c]) (rest := []) (Ld := [some (.ref 4), some (.int c)]) (pc' := 29) (st' := [.int (f_M_isGone 4 5 6 7 I c)]) (r := some (.int (f_M_isGone 4 5 6 7 I c))) (h1 := zH I P) rfl rfl rfl rfl rfl rfl rfl rfl rfl (sp_M_isGone_4 I P c) ?_
      refine wp_eq (a := f_M_isGone 4 5 6 7 I c) (b := 0) (s1 := (35, [some (.ref 0), some (.int c), some (.int b), none, none, none], [], zH I P)) (s2 := (32, [some (.ref 0), some (.int c), some (.int b), none, none, none], [], zH I P)) rfl (fun c3 => ?_) (fun c3 => ?_)
      · rw [if_pos c3] at hx
        refine wp_blk (pc' := 41) (L' := [some (.ref 0), some (.int c), some (.int b), some (.int (-4)), some (.int 0), none]) (st' := []) (h' := zH I P) 4 rfl ?_
        exact lp_G_words_41 P _ _ _ _ _ _ _ hx
      · rw [if_neg c3] at hx
        refine wp_blk (pc' := 34) (L' := [some (.ref 0), some (.int c), some (.int b), none, none, none]) (st' := [.int (-2)]) (h' := zH I P) 1 rfl ?_
        cases hx
        exact wp_end rfl rfl ⟨rfl, rfl⟩
    · rw [if_neg c2] at hx
      refine wp_blk (pc' := 20) (L' := [some (.ref 0), some (.int c), some (.int b), none, none, none]) (st' := [.int (-1)]) (h' := zH I P) 1 rfl ?_
      cases hx
      exact wp_end rfl rfl ⟨rfl, rfl⟩
def x_G_see (I : Nat → Nat → Int32) (c v : Int32) : Option (Int32 × (Nat → Nat → Int32)) := if f_M_has 4 5 6 7 I c = 0 then (some (-1, I)) else (if f_G_isOutside I v 9 = 0 then (if f_M_isGone 4 5 6 7 I c = 0 then (if f_V_isFull I = 0 then (some (f_V_size (g_V_add I c v), (g_V_add I c v))) else (some (-3, I))) else (some (-2, I))) else (some (-1, I)))
set_option maxRecDepth 100000 in
theorem xp_G_see {X : Nat × (Nat → Int32)} (I : Nat → Nat → Int32) (P : Nat → Nat → Option Nat) (c v : Int32) (r : Int32 × (Nat → Nat → Int32)) (hx : x_G_see I c v = some r) : Wf X 95 [some (.ref 0), some (.int c), some (.int v)] (zH I P) (some (.int r.1)) (zH r.2 P) := by
  unfold Wf
  unfold x_G_see at hx
  refine wp_blk (pc' := 5) (L' := [some (.ref 0), some (.int c), some (.int v)]) (st' := [.int c, .ref 4]) (h' := zH I P) 3 rfl ?_
  refine wp_callf (d := 24) (as := [.ref 4, .int c]) (rest := []) (Ld := [some (.ref 4), some (.int c)]) (pc' := 8) (st' := [.int (f_M_has 4 5 6 7 I c)]) (r := some (.int (f_M_has 4 5 6 7 I c))) (h1 := zH I P) rfl rfl rfl rfl rfl rfl rfl rfl rfl (sp_M_has_4 I P c) ?_
  refine wp_eq (a := f_M_has 4 5 6 7 I c) (b := 0) (s1 := (20, [some (.ref 0), some (.int c), some (.int v)], [], zH I P)) (s2 := (11, [some (.ref 0), some (.int c), some (.int v)], [], zH I P)) rfl (fun c1 => ?_) (fun c1 => ?_)
  · rw [if_pos c1] at hx
    refine wp_blk (pc' := 21) (L' := [some (.ref 0), some (.int c), some (.int v)]) (st' := [.int (-1)]) (h' := zH I P) 1 rfl ?_
    cases hx
    exact wp_end rfl rfl ⟨rfl, rfl⟩
  · rw [if_neg c1] at hx
    refine wp_blk (pc' := 14) (L' := [some (.ref 0), some (.int c), some (.int v)]) (st' := [.int 9, .int v]) (h' := zH I P) 2 rfl ?_
    refine wp_callf (d := 25) (as := [.int v, .int 9]) (rest := []) (Ld := [some (.int v), some (.int 9)]) (pc' := 17) (st' := [.int (f_G_isOutside I v 9)]) (r := some (.int (f_G_isOutside I v 9))) (h1 := zH I P) rfl rfl rfl rfl rfl rfl rfl rfl rfl (sp_G_isOutside I P v 9) ?_
    refine wp_eq (a := f_G_isOutside I v 9) (b := 0) (s1 := (22, [some (.ref 0), some (.int c), some (.int v)], [], zH I P)) (s2 := (20, [some (.ref 0), some (.int c), some (.int v)], [], zH I P)) rfl (fun c2 => ?_) (fun c2 => ?_)
    · rw [if_pos c2] at hx
      refine wp_blk (pc' := 27) (L' := [some (.ref 0), some (.int c), some (.int v)]) (st' := [.int c, .ref 4]) (h' := zH I P) 3 rfl ?_
      refine wp_callf (d := 44) (as := [.ref 4, .int c]) (rest := []) (Ld := [some (.ref 4), some (.int c)]) (pc' := 30) (st' := [.int (f_M_isGone 4 5 6 7 I c)]) (r := some (.int (f_M_isGone 4 5 6 7 I c))) (h1 := zH I P) rfl rfl rfl rfl rfl rfl rfl rfl rfl (sp_M_isGone_4 I P c) ?_
      refine wp_eq (a := f_M_isGone 4 5 6 7 I c) (b := 0) (s1 := (36, [some (.ref 0), some (.int c), some (.int v)], [], zH I P)) (s2 := (33, [some (.ref 0), some (.int c), some (.int v)], [], zH I P)) rfl (fun c3 => ?_) (fun c3 => ?_)
      · rw [if_pos c3] at hx
        refine wp_blk (pc' := 40) (L' := [some (.ref 0), some (.int c), some (.int v)]) (st' := [.ref 16]) (h' := zH I P) 2 rfl ?_
        refine wp_callf (d := 96) (as := [.ref 16]) (rest := []) (Ld := [some (.ref 16)]) (pc' := 43) (st' := [.int (f_V_isFull I)]) (r := some (.int (f_V_isFull I))) (h1 := zH I P) rfl rfl rfl rfl rfl rfl rfl rfl rfl (sp_V_isFull I P) ?_
        refine wp_eq (a := f_V_isFull I) (b := 0) (s1 := (49, [some (.ref 0), some (.int c), some (.int v)], [], zH I P)) (s2 := (46, [some (.ref 0), some (.int c), some (.int v)], [], zH I P)) rfl (fun c4 => ?_) (fun c4 => ?_)
        · rw [if_pos c4] at hx
          refine wp_blk (pc' := 55) (L' := [some (.ref 0), some (.int c), some (.int v)]) (st' := [.int v, .int c, .ref 16]) (h' := zH I P) 4 rfl ?_
          refine wp_callf (d := 97) (as := [.ref 16, .int c, .int v]) (rest := []) (Ld := [some (.ref 16), some (.int c), some (.int v)]) (pc' := 58) (st' := []) (r := none) (h1 := zH (g_V_add I c v) P) rfl rfl rfl rfl rfl rfl rfl rfl rfl (sp_V_add I P c v) ?_
          refine wp_blk (pc' := 62) (L' := [some (.ref 0), some (.int c), some (.int v)]) (st' := [.ref 16]) (h' := zH (g_V_add I c v) P) 2 rfl ?_
          refine wp_callf (d := 98) (as := [.ref 16]) (rest := []) (Ld := [some (.ref 16)]) (pc' := 65) (st' := [.int (f_V_size (g_V_add I c v))]) (r := some (.int (f_V_size (g_V_add I c v)))) (h1 := zH (g_V_add I c v) P) rfl rfl rfl rfl rfl rfl rfl rfl rfl (sp_V_size (g_V_add I c v) P) ?_
          cases hx
          exact wp_end rfl rfl ⟨rfl, rfl⟩
        · rw [if_neg c4] at hx
          refine wp_blk (pc' := 48) (L' := [some (.ref 0), some (.int c), some (.int v)]) (st' := [.int (-3)]) (h' := zH I P) 1 rfl ?_
          cases hx
          exact wp_end rfl rfl ⟨rfl, rfl⟩
      · rw [if_neg c3] at hx
        refine wp_blk (pc' := 35) (L' := [some (.ref 0), some (.int c), some (.int v)]) (st' := [.int (-2)]) (h' := zH I P) 1 rfl ?_
        cases hx
        exact wp_end rfl rfl ⟨rfl, rfl⟩
    · rw [if_neg c2] at hx
      refine wp_blk (pc' := 21) (L' := [some (.ref 0), some (.int c), some (.int v)]) (st' := [.int (-1)]) (h' := zH I P) 1 rfl ?_
      cases hx
      exact wp_end rfl rfl ⟨rfl, rfl⟩
def x_G_forget (I : Nat → Nat → Int32) : Option (Int32 × (Nat → Nat → Int32)) := some (f_V_size I, (g_V_clear I))
set_option maxRecDepth 100000 in
theorem xp_G_forget {X : Nat × (Nat → Int32)} (I : Nat → Nat → Int32) (P : Nat → Nat → Option Nat) (r : Int32 × (Nat → Nat → Int32)) (hx : x_G_forget I = some r) : Wf X 99 [some (.ref 0), none] (zH I P) (some (.int r.1)) (zH r.2 P) := by
  unfold Wf
  unfold x_G_forget at hx
  refine wp_blk (pc' := 4) (L' := [some (.ref 0), none]) (st' := [.ref 16]) (h' := zH I P) 2 rfl ?_
  refine wp_callf (d := 98) (as := [.ref 16]) (rest := []) (Ld := [some (.ref 16)]) (pc' := 7) (st' := [.int (f_V_size I)]) (r := some (.int (f_V_size I))) (h1 := zH I P) rfl rfl rfl rfl rfl rfl rfl rfl rfl (sp_V_size I P) ?_
  refine wp_blk (pc' := 12) (L' := [some (.ref 0), some (.int (f_V_size I))]) (st' := [.ref 16]) (h' := zH I P) 3 rfl ?_
  refine wp_callf (d := 38) (as := [.ref 16]) (rest := []) (Ld := [some (.ref 16)]) (pc' := 15) (st' := []) (r := none) (h1 := zH (g_V_clear I) P) rfl rfl rfl rfl rfl rfl rfl rfl rfl (sp_V_clear I P) ?_
  refine wp_blk (pc' := 16) (L' := [some (.ref 0), some (.int (f_V_size I))]) (st' := [.int (f_V_size I)]) (h' := zH (g_V_clear I) P) 1 rfl ?_
  cases hx
  exact wp_end rfl rfl ⟨rfl, rfl⟩
def x_G_couldHaveStood (I : Nat → Nat → Int32) (c a : Int32) : Option (Int32 × (Nat → Nat → Int32)) := (x_R_lineUp 4 5 6 7 I).bind (fun q1 => (x_R_squeezeIn q1.2 c a).bind (fun q2 => (x_R_grind 4 5 6 7 q2.2 (f_M_stoneNow 4 5 6 7 q2.2) 0).bind (fun q3 => (x_V_areSo q3.2).bind (fun q4 => if q4.1 = 1 ∨ q4.1 = 0 then some (q4.1, q4.2) else none))))
set_option maxRecDepth 100000 in
theorem xp_G_couldHaveStood {X : Nat × (Nat → Int32)} (I : Nat → Nat → Int32) (P : Nat → Nat → Option Nat) (c a : Int32) (r : Int32 × (Nat → Nat → Int32)) (hx : x_G_couldHaveStood I c a = some r) : Wf X 101 [some (.ref 0), some (.int c), some (.int a)] (zH I P) (some (.int r.1)) (zH r.2 P) := by
  unfold Wf
  unfold x_G_couldHaveStood at hx
  refine wp_blk (pc' := 8) (L' := [some (.ref 0), some (.int c), some (.int a)]) (st' := [.ref 4, .ref 12]) (h' := zH I P) 4 rfl ?_
  obtain ⟨y1, hy1, hx⟩ := zbind hx
  refine wp_callf (d := 51) (as := [.ref 12, .ref 4]) (rest := []) (Ld := [some (.ref 12), some (.ref 4), none]) (pc' := 11) (st' := []) (r := none) (h1 := zH y1.2 P) rfl rfl rfl rfl rfl rfl rfl rfl rfl (xp_R_lineUp_4 _ _  _ hy1) ?_
  refine wp_blk (pc' := 17) (L' := [some (.ref 0), some (.int c), some (.int a)]) (st' := [.int a, .int c, .ref 12]) (h' := zH y1.2 P) 4 rfl ?_
  obtain ⟨y2, hy2, hx⟩ := zbind hx
  refine wp_callf (d := 102) (as := [.ref 12, .int c, .int a]) (rest := []) (Ld := [some (.ref 12), some (.int c), some (.int a), none]) (pc' := 20) (st' := []) (r := none) (h1 := zH y2.2 P) rfl rfl rfl rfl rfl rfl rfl rfl rfl (xp_R_squeezeIn _ _ _ _ _ hy2) ?_
  refine wp_blk (pc' := 32) (L' := [some (.ref 0), some (.int c), some (.int a)]) (st' := [.ref 4, .ref 4, .ref 12]) (h' := zH y2.2 P) 6 rfl ?_
  refine wp_callf (d := 54) (as := [.ref 4]) (rest := [.ref 4, .ref 12]) (Ld := [some (.ref 4)]) (pc' := 35) (st' := [.int (f_M_stoneNow 4 5 6 7 y2.2), .ref 4, .ref 12]) (r := some (.int (f_M_stoneNow 4 5 6 7 y2.2))) (h1 := zH y2.2 P) rfl rfl rfl rfl rfl rfl rfl rfl rfl (sp_M_stoneNow_4 y2.2 P) ?_
  refine wp_blk (pc' := 36) (L' := [some (.ref 0), some (.int c), some (.int a)]) (st' := [.int 0, .int (f_M_stoneNow 4 5 6 7 y2.2), .ref 4, .ref 12]) (h' := zH y2.2 P) 1 rfl ?_
  obtain ⟨y3, hy3, hx⟩ := zbind hx
  refine wp_callf (d := 55) (as := [.ref 12, .ref 4, .int (f_M_stoneNow 4 5 6 7 y2.2), .int 0]) (rest := []) (Ld := [some (.ref 12), some (.ref 4), some (.int (f_M_stoneNow 4 5 6 7 y2.2)), some (.int 0), none, none, none]) (pc' := 39) (st' := [.int y3.1]) (r := some (.int y3.1)) (h1 := zH y3.2 P) rfl rfl rfl rfl rfl rfl rfl rfl rfl (xp_R_grind_4 _ _ _ _ _ hy3) ?_
  refine wp_blk (pc' := 48) (L' := [some (.ref 0), some (.int c), some (.int a)]) (st' := [.ref 12, .ref 16]) (h' := zH y3.2 P) 5 rfl ?_
  obtain ⟨y4, hy4, hx⟩ := zbind hx
  refine wp_callf (d := 103) (as := [.ref 16, .ref 12]) (rest := []) (Ld := [some (.ref 16), some (.ref 12), none]) (pc' := 51) (st' := [.int y4.1]) (r := some (.int y4.1)) (h1 := zH y4.2 P) rfl rfl rfl rfl rfl rfl rfl rfl rfl (xp_V_areSo _ _  _ hy4) ?_
  obtain ⟨kb, hx⟩ := zite hx
  cases hx
  exact wp_endb rfl rfl kb ⟨rfl, rfl⟩
def l_G_stood : Nat → Nat → (Nat → Nat → Int32) → Int32 → Int32 → Int32 → Int32 → Int32 → Int32 → Option (Int32 × (Nat → Nat → Int32))
  | 0, _, _, _, _, _, _, _, _ => none
  | n + 1, hd, I, x1, x2, x3, x4, x5, x6 => if hd = 0 then (if f_M_size 4 5 6 7 I ≤ x5 then (if x1 = 1 then (some (x4, I)) else ((x_R_pass 4 5 6 7 I).bind (fun q2 => (x_V_areSo q2.2).bind (fun q3 => if q3.1 = 0 then (some (x3, q3.2)) else (some (x3 + 256, q3.2)))))) else (l_G_stood n 1 I x1 x2 x3 x4 x5 0)) else (if hd = 1 then (if x2 < x6 then (l_G_stood n 0 I x1 x2 x3 x4 (x5 + 1) 0) else (if f_M_isGone 4 5 6 7 I x5 = 0 then (l_G_stood n 1 I x1 x2 x3 x4 x5 (x6 + 1)) else ((x_G_couldHaveStood I x5 x6).bind (fun q4 => if q4.1 = 0 then (l_G_stood n 1 q4.2 x1 x2 x3 x4 x5 (x6 + 1)) else (if x4 = -4 then (l_G_stood n 1 q4.2 x1 x2 (x3 + 1) ((10 * x5) + x6) x5 (x6 + 1)) else (l_G_stood n 1 q4.2 x1 x2 (x3 + 1) x4 x5 (x6 + 1))))))) else none)
def x_G_stood (I : Nat → Nat → Int32) (w : Int32) : Option (Int32 × (Nat → Nat → Int32)) := if f_G_isOutside I w 1 = 0 then ((x_N_bitCount I (f_M_presentBits 4 5 6 7 I)).bind (fun q1 => l_G_stood 5000 0 q1.2 w q1.1 0 (-4) 0 0)) else (some (-1, I))
set_option maxRecDepth 100000 in
theorem lp_G_stood {X : Nat × (Nat → Int32)} (P : Nat → Nat → Option Nat) : ∀ (n : Nat), (∀ (I : Nat → Nat → Int32) (x1 : Int32) (x2 : Int32) (x3 : Int32) (x4 : Int32) (x5 : Int32) (x6 : Int32) (r : Int32 × (Nat → Nat → Int32)), l_G_stood n 0 I x1 x2 x3 x4 x5 x6 = some r → Wp X 100 30 [some (.ref 0), some (.int x1), some (.int x2), some (.int x3), some (.int x4), some (.int x5), none] [] (zH I P) (fun r2 h2 => r2 = some (.int r.1) ∧ h2 = zH r.2 P)) ∧ (∀ (I : Nat → Nat → Int32) (x1 : Int32) (x2 : Int32) (x3 : Int32) (x4 : Int32) (x5 : Int32) (x6 : Int32) (r : Int32 × (Nat → Nat → Int32)), l_G_stood n 1 I x1 x2 x3 x4 x5 x6 = some r → Wp X 100 45 [some (.ref 0), some (.int x1), some (.int x2), some (.int x3), some (.int x4), some (.int x5), some (.int x6)] [] (zH I P) (fun r2 h2 => r2 = some (.int r.1) ∧ h2 = zH r.2 P)) := by
  intro n
  induction n with
  | zero => exact ⟨fun I x1 x2 x3 x4 x5 x6 r hx => (by cases hx), fun I x1 x2 x3 x4 x5 x6 r hx => (by cases hx)⟩
  | succ n ih =>
    refine ⟨?_, ?_⟩
    · intro I x1 x2 x3 x4 x5 x6 r hx
      rw [l_G_stood] at hx
      rw [if_pos rfl] at hx
      refine wp_blk (pc' := 36) (L' := [some (.ref 0), some (.int x1), some (.int x2), some (.int x3), some (.int x4), some (.int x5), none]) (st' := [.ref 4, .int x5]) (h' := zH I P) 3 rfl ?_
      refine wp_callf (d := 36) (as := [.ref 4]) (rest := [.int x5]) (Ld := [some (.ref 4)]) (pc' := 39) (st' := [.int (f_M_size 4 5 6 7 I), .int x5]) (r := some (.int (f_M_size 4 5 6 7 I))) (h1 := zH I P) rfl rfl rfl rfl rfl rfl rfl rfl rfl (sp_M_size_4 I P) ?_
      refine wp_ge (a := x5) (b := f_M_size 4 5 6 7 I) (s1 := (111, [some (.ref 0), some (.int x1), some (.int x2), some (.int x3), some (.int x4), some (.int x5), none], [], zH I P)) (s2 := (42, [some (.ref 0), some (.int x1), some (.int x2), some (.int x3), some (.int x4), some (.int x5), none], [], zH I P)) rfl (fun c1 => ?_) (fun c1 => ?_)
      · rw [if_pos c1] at hx
        refine wp_blk (pc' := 113) (L' := [some (.ref 0), some (.int x1), some (.int x2), some (.int x3), some (.int x4), some (.int x5), none]) (st' := [.int 1, .int x1]) (h' := zH I P) 2 rfl ?_
        refine wp_ne (a := x1) (b := 1) (s1 := (119, [some (.ref 0), some (.int x1), some (.int x2), some (.int x3), some (.int x4), some (.int x5), none], [], zH I P)) (s2 := (116, [some (.ref 0), some (.int x1), some (.int x2), some (.int x3), some (.int x4), some (.int x5), none], [], zH I P)) rfl (fun c2 => ?_) (fun c2 => ?_)
        · rw [if_neg c2] at hx
          refine wp_blk (pc' := 127) (L' := [some (.ref 0), some (.int x1), some (.int x2), some (.int x3), some (.int x4), some (.int x5), none]) (st' := [.ref 4, .ref 12]) (h' := zH I P) 4 rfl ?_
          obtain ⟨y1, hy1, hx⟩ := zbind hx
          refine wp_callf (d := 50) (as := [.ref 12, .ref 4]) (rest := []) (Ld := [some (.ref 12), some (.ref 4)]) (pc' := 130) (st' := []) (r := none) (h1 := zH y1.2 P) rfl rfl rfl rfl rfl rfl rfl rfl rfl (xp_R_pass_4 _ _  _ hy1) ?_
          refine wp_blk (pc' := 138) (L' := [some (.ref 0), some (.int x1), some (.int x2), some (.int x3), some (.int x4), some (.int x5), none]) (st' := [.ref 12, .ref 16]) (h' := zH y1.2 P) 4 rfl ?_
          obtain ⟨y2, hy2, hx⟩ := zbind hx
          refine wp_callf (d := 103) (as := [.ref 16, .ref 12]) (rest := []) (Ld := [some (.ref 16), some (.ref 12), none]) (pc' := 141) (st' := [.int y2.1]) (r := some (.int y2.1)) (h1 := zH y2.2 P) rfl rfl rfl rfl rfl rfl rfl rfl rfl (xp_V_areSo _ _  _ hy2) ?_
          refine wp_eq (a := y2.1) (b := 0) (s1 := (152, [some (.ref 0), some (.int x1), some (.int x2), some (.int x3), some (.int x4), some (.int x5), none], [], zH y2.2 P)) (s2 := (144, [some (.ref 0), some (.int x1), some (.int x2), some (.int x3), some (.int x4), some (.int x5), none], [], zH y2.2 P)) rfl (fun c3 => ?_) (fun c3 => ?_)
          · rw [if_pos c3] at hx
            refine wp_blk (pc' := 153) (L' := [some (.ref 0), some (.int x1), some (.int x2), some (.int x3), some (.int x4), some (.int x5), none]) (st' := [.int x3]) (h' := zH y2.2 P) 1 rfl ?_
            cases hx
            exact wp_end rfl rfl ⟨rfl, rfl⟩
          · rw [if_neg c3] at hx
            refine wp_blk (pc' := 153) (L' := [some (.ref 0), some (.int x1), some (.int x2), some (.int x3), some (.int x4), some (.int x5), none]) (st' := [.int (x3 + 256)]) (h' := zH y2.2 P) 4 rfl ?_
            cases hx
            exact wp_end rfl rfl ⟨rfl, rfl⟩
        · rw [if_pos c2] at hx
          refine wp_blk (pc' := 118) (L' := [some (.ref 0), some (.int x1), some (.int x2), some (.int x3), some (.int x4), some (.int x5), none]) (st' := [.int x4]) (h' := zH I P) 1 rfl ?_
          cases hx
          exact wp_end rfl rfl ⟨rfl, rfl⟩
      · rw [if_neg c1] at hx
        refine wp_blk (pc' := 45) (L' := [some (.ref 0), some (.int x1), some (.int x2), some (.int x3), some (.int x4), some (.int x5), some (.int 0)]) (st' := []) (h' := zH I P) 2 rfl ?_
        exact ih.2 _ _ _ _ _ _ _ _ hx
    · intro I x1 x2 x3 x4 x5 x6 r hx
      rw [l_G_stood] at hx
      rw [if_neg (by decide)] at hx
      rw [if_pos rfl] at hx
      refine wp_blk (pc' := 48) (L' := [some (.ref 0), some (.int x1), some (.int x2), some (.int x3), some (.int x4), some (.int x5), some (.int x6)]) (st' := [.int x2, .int x6]) (h' := zH I P) 2 rfl ?_
      refine wp_gt (a := x6) (b := x2) (s1 := (105, [some (.ref 0), some (.int x1), some (.int x2), some (.int x3), some (.int x4), some (.int x5), some (.int x6)], [], zH I P)) (s2 := (51, [some (.ref 0), some (.int x1), some (.int x2), some (.int x3), some (.int x4), some (.int x5), some (.int x6)], [], zH I P)) rfl (fun c1 => ?_) (fun c1 => ?_)
      · rw [if_pos c1] at hx
        refine wp_blk (pc' := 30) (L' := [some (.ref 0), some (.int x1), some (.int x2), some (.int x3), some (.int x4), some (.int (x5 + 1)), some (.int x6)]) (st' := []) (h' := zH I P) 2 rfl ?_
        exact wp_forget (ih.1 _ _ _ _ _ _ _ _ hx) (zle_c (zle_c (zle_c (zle_c (zle_c (zle_c (zle_n zle_nil)))))))
      · rw [if_neg c1] at hx
        refine wp_blk (pc' := 57) (L' := [some (.ref 0), some (.int x1), some (.int x2), some (.int x3), some (.int x4), some (.int x5), some (.int x6)]) (st' := [.int x5, .ref 4]) (h' := zH I P) 3 rfl ?_
        refine wp_callf (d := 44) (as := [.ref 4, .int x5]) (rest := []) (Ld := [some (.ref 4), some (.int x5)]) (pc' := 60) (st' := [.int (f_M_isGone 4 5 6 7 I x5)]) (r := some (.int (f_M_isGone 4 5 6 7 I x5))) (h1 := zH I P) rfl rfl rfl rfl rfl rfl rfl rfl rfl (sp_M_isGone_4 I P x5) ?_
        refine wp_eq (a := f_M_isGone 4 5 6 7 I x5) (b := 0) (s1 := (99, [some (.ref 0), some (.int x1), some (.int x2), some (.int x3), some (.int x4), some (.int x5), some (.int x6)], [], zH I P)) (s2 := (63, [some (.ref 0), some (.int x1), some (.int x2), some (.int x3), some (.int x4), some (.int x5), some (.int x6)], [], zH I P)) rfl (fun c2 => ?_) (fun c2 => ?_)
        · rw [if_pos c2] at hx
          refine wp_blk (pc' := 45) (L' := [some (.ref 0), some (.int x1), some (.int x2), some (.int x3), some (.int x4), some (.int x5), some (.int (x6 + 1))]) (st' := []) (h' := zH I P) 2 rfl ?_
          exact ih.2 _ _ _ _ _ _ _ _ hx
        · rw [if_neg c2] at hx
          refine wp_blk (pc' := 68) (L' := [some (.ref 0), some (.int x1), some (.int x2), some (.int x3), some (.int x4), some (.int x5), some (.int x6)]) (st' := [.int x6, .int x5, .ref 0]) (h' := zH I P) 3 rfl ?_
          obtain ⟨y1, hy1, hx⟩ := zbind hx
          refine wp_callf (d := 101) (as := [.ref 0, .int x5, .int x6]) (rest := []) (Ld := [some (.ref 0), some (.int x5), some (.int x6)]) (pc' := 71) (st' := [.int y1.1]) (r := some (.int y1.1)) (h1 := zH y1.2 P) rfl rfl rfl rfl rfl rfl rfl rfl rfl (xp_G_couldHaveStood _ _ _ _ _ hy1) ?_
          refine wp_eq (a := y1.1) (b := 0) (s1 := (99, [some (.ref 0), some (.int x1), some (.int x2), some (.int x3), some (.int x4), some (.int x5), some (.int x6)], [], zH y1.2 P)) (s2 := (74, [some (.ref 0), some (.int x1), some (.int x2), some (.int x3), some (.int x4), some (.int x5), some (.int x6)], [], zH y1.2 P)) rfl (fun c3 => ?_) (fun c3 => ?_)
          · rw [if_pos c3] at hx
            refine wp_blk (pc' := 45) (L' := [some (.ref 0), some (.int x1), some (.int x2), some (.int x3), some (.int x4), some (.int x5), some (.int (x6 + 1))]) (st' := []) (h' := zH y1.2 P) 2 rfl ?_
            exact ih.2 _ _ _ _ _ _ _ _ hx
          · rw [if_neg c3] at hx
            refine wp_blk (pc' := 81) (L' := [some (.ref 0), some (.int x1), some (.int x2), some (.int (x3 + 1)), some (.int x4), some (.int x5), some (.int x6)]) (st' := [.int (-4), .int x4]) (h' := zH y1.2 P) 3 rfl ?_
            refine wp_ne (a := x4) (b := -4) (s1 := (95, [some (.ref 0), some (.int x1), some (.int x2), some (.int (x3 + 1)), some (.int x4), some (.int x5), some (.int x6)], [], zH y1.2 P)) (s2 := (84, [some (.ref 0), some (.int x1), some (.int x2), some (.int (x3 + 1)), some (.int x4), some (.int x5), some (.int x6)], [], zH y1.2 P)) rfl (fun c4 => ?_) (fun c4 => ?_)
            · rw [if_neg c4] at hx
              refine wp_blk (pc' := 45) (L' := [some (.ref 0), some (.int x1), some (.int x2), some (.int (x3 + 1)), some (.int x4), some (.int x5), some (.int (x6 + 1))]) (st' := []) (h' := zH y1.2 P) 4 rfl ?_
              exact ih.2 _ _ _ _ _ _ _ _ hx
            · rw [if_pos c4] at hx
              refine wp_blk (pc' := 45) (L' := [some (.ref 0), some (.int x1), some (.int x2), some (.int (x3 + 1)), some (.int ((10 * x5) + x6)), some (.int x5), some (.int (x6 + 1))]) (st' := []) (h' := zH y1.2 P) 9 rfl ?_
              exact ih.2 _ _ _ _ _ _ _ _ hx
set_option maxRecDepth 100000 in
theorem xp_G_stood {X : Nat × (Nat → Int32)} (I : Nat → Nat → Int32) (P : Nat → Nat → Option Nat) (w : Int32) (r : Int32 × (Nat → Nat → Int32)) (hx : x_G_stood I w = some r) : Wf X 100 [some (.ref 0), some (.int w), none, none, none, none, none] (zH I P) (some (.int r.1)) (zH r.2 P) := by
  unfold Wf
  unfold x_G_stood at hx
  refine wp_blk (pc' := 2) (L' := [some (.ref 0), some (.int w), none, none, none, none, none]) (st' := [.int 1, .int w]) (h' := zH I P) 2 rfl ?_
  refine wp_callf (d := 25) (as := [.int w, .int 1]) (rest := []) (Ld := [some (.int w), some (.int 1)]) (pc' := 5) (st' := [.int (f_G_isOutside I w 1)]) (r := some (.int (f_G_isOutside I w 1))) (h1 := zH I P) rfl rfl rfl rfl rfl rfl rfl rfl rfl (sp_G_isOutside I P w 1) ?_
  refine wp_eq (a := f_G_isOutside I w 1) (b := 0) (s1 := (10, [some (.ref 0), some (.int w), none, none, none, none, none], [], zH I P)) (s2 := (8, [some (.ref 0), some (.int w), none, none, none, none, none], [], zH I P)) rfl (fun c1 => ?_) (fun c1 => ?_)
  · rw [if_pos c1] at hx
    refine wp_blk (pc' := 14) (L' := [some (.ref 0), some (.int w), none, none, none, none, none]) (st' := [.ref 4]) (h' := zH I P) 2 rfl ?_
    refine wp_callf (d := 90) (as := [.ref 4]) (rest := []) (Ld := [some (.ref 4)]) (pc' := 17) (st' := [.int (f_M_presentBits 4 5 6 7 I)]) (r := some (.int (f_M_presentBits 4 5 6 7 I))) (h1 := zH I P) rfl rfl rfl rfl rfl rfl rfl rfl rfl (sp_M_presentBits_4 I P) ?_
    obtain ⟨y1, hy1, hx⟩ := zbind hx
    refine wp_callf (d := 93) (as := [.int (f_M_presentBits 4 5 6 7 I)]) (rest := []) (Ld := [some (.int (f_M_presentBits 4 5 6 7 I))]) (pc' := 20) (st' := [.int y1.1]) (r := some (.int y1.1)) (h1 := zH y1.2 P) rfl rfl rfl rfl rfl rfl rfl rfl rfl (xp_N_bitCount _ _ _ _ hy1) ?_
    refine wp_blk (pc' := 30) (L' := [some (.ref 0), some (.int w), some (.int y1.1), some (.int 0), some (.int (-4)), some (.int 0), none]) (st' := []) (h' := zH y1.2 P) 7 rfl ?_
    exact (lp_G_stood P _).1 _ _ _ _ _ _ _ _ hx
  · rw [if_neg c1] at hx
    refine wp_blk (pc' := 9) (L' := [some (.ref 0), some (.int w), none, none, none, none, none]) (st' := [.int (-1)]) (h' := zH I P) 1 rfl ?_
    cases hx
    exact wp_end rfl rfl ⟨rfl, rfl⟩
def l_G_said_27 : Nat → (Nat → Nat → Int32) → Int32 → Int32 → Int32 → Int32 → Option (Int32 × (Nat → Nat → Int32))
  | 0, _, _, _, _, _ => none
  | n + 1, I, x1, x2, x3, x4 => if 6 < x4 then (some (x3, I)) else ((x_R_pass 8 9 10 11 (g_M_setWord 8 9 10 11 I x1 x2 x4)).bind (fun q2 => (x_V_areSo q2.2).bind (fun q3 => if q3.1 = 0 then (l_G_said_27 n q3.2 x1 x2 x3 (x4 + 1)) else (l_G_said_27 n q3.2 x1 x2 (x3 ||| (1 <<< (x4 &&& 31))) (x4 + 1)))))
def x_G_said (I : Nat → Nat → Int32) (i j : Int32) : Option (Int32 × (Nat → Nat → Int32)) := if f_G_areTwo I i j = 0 then (some (-1, I)) else ((x_M_copy 8 9 10 11 4 5 6 7 I).bind (fun q1 => l_G_said_27 1000 q1.2 i j 0 0))
set_option maxRecDepth 100000 in
theorem lp_G_said_27 {X : Nat × (Nat → Int32)} (P : Nat → Nat → Option Nat) : ∀ (n : Nat) (I : Nat → Nat → Int32) (x1 : Int32) (x2 : Int32) (x3 : Int32) (x4 : Int32) (r : Int32 × (Nat → Nat → Int32)), l_G_said_27 n I x1 x2 x3 x4 = some r → Wp X 104 27 [some (.ref 0), some (.int x1), some (.int x2), some (.int x3), some (.int x4)] [] (zH I P) (fun r2 h2 => r2 = some (.int r.1) ∧ h2 = zH r.2 P) := by
  intro n
  induction n with
  | zero => intro I x1 x2 x3 x4 r hx; cases hx
  | succ n ih =>
    intro I x1 x2 x3 x4 r hx
    rw [l_G_said_27] at hx
    refine wp_blk (pc' := 31) (L' := [some (.ref 0), some (.int x1), some (.int x2), some (.int x3), some (.int x4)]) (st' := [.int 6, .int x4]) (h' := zH I P) 2 rfl ?_
    refine wp_gt (a := x4) (b := 6) (s1 := (83, [some (.ref 0), some (.int x1), some (.int x2), some (.int x3), some (.int x4)], [], zH I P)) (s2 := (34, [some (.ref 0), some (.int x1), some (.int x2), some (.int x3), some (.int x4)], [], zH I P)) rfl (fun c1 => ?_) (fun c1 => ?_)
    · rw [if_pos c1] at hx
      refine wp_blk (pc' := 84) (L' := [some (.ref 0), some (.int x1), some (.int x2), some (.int x3), some (.int x4)]) (st' := [.int x3]) (h' := zH I P) 1 rfl ?_
      cases hx
      exact wp_end rfl rfl ⟨rfl, rfl⟩
    · rw [if_neg c1] at hx
      refine wp_blk (pc' := 42) (L' := [some (.ref 0), some (.int x1), some (.int x2), some (.int x3), some (.int x4)]) (st' := [.int x4, .int x2, .int x1, .ref 8]) (h' := zH I P) 5 rfl ?_
      refine wp_callf (d := 26) (as := [.ref 8, .int x1, .int x2, .int x4]) (rest := []) (Ld := [some (.ref 8), some (.int x1), some (.int x2), some (.int x4), none]) (pc' := 45) (st' := []) (r := none) (h1 := zH (g_M_setWord 8 9 10 11 I x1 x2 x4) P) rfl rfl rfl rfl rfl rfl rfl rfl rfl (sp_M_setWord_8 I P x1 x2 x4) ?_
      refine wp_blk (pc' := 53) (L' := [some (.ref 0), some (.int x1), some (.int x2), some (.int x3), some (.int x4)]) (st' := [.ref 8, .ref 12]) (h' := zH (g_M_setWord 8 9 10 11 I x1 x2 x4) P) 4 rfl ?_
      obtain ⟨y1, hy1, hx⟩ := zbind hx
      refine wp_callf (d := 50) (as := [.ref 12, .ref 8]) (rest := []) (Ld := [some (.ref 12), some (.ref 8)]) (pc' := 56) (st' := []) (r := none) (h1 := zH y1.2 P) rfl rfl rfl rfl rfl rfl rfl rfl rfl (xp_R_pass_8 _ _  _ hy1) ?_
      refine wp_blk (pc' := 64) (L' := [some (.ref 0), some (.int x1), some (.int x2), some (.int x3), some (.int x4)]) (st' := [.ref 12, .ref 16]) (h' := zH y1.2 P) 4 rfl ?_
      obtain ⟨y2, hy2, hx⟩ := zbind hx
      refine wp_callf (d := 103) (as := [.ref 16, .ref 12]) (rest := []) (Ld := [some (.ref 16), some (.ref 12), none]) (pc' := 67) (st' := [.int y2.1]) (r := some (.int y2.1)) (h1 := zH y2.2 P) rfl rfl rfl rfl rfl rfl rfl rfl rfl (xp_V_areSo _ _  _ hy2) ?_
      refine wp_eq (a := y2.1) (b := 0) (s1 := (77, [some (.ref 0), some (.int x1), some (.int x2), some (.int x3), some (.int x4)], [], zH y2.2 P)) (s2 := (70, [some (.ref 0), some (.int x1), some (.int x2), some (.int x3), some (.int x4)], [], zH y2.2 P)) rfl (fun c2 => ?_) (fun c2 => ?_)
      · rw [if_pos c2] at hx
        refine wp_blk (pc' := 27) (L' := [some (.ref 0), some (.int x1), some (.int x2), some (.int x3), some (.int (x4 + 1))]) (st' := []) (h' := zH y2.2 P) 2 rfl ?_
        exact ih _ _ _ _ _ _ hx
      · rw [if_neg c2] at hx
        refine wp_blk (pc' := 27) (L' := [some (.ref 0), some (.int x1), some (.int x2), some (.int (x3 ||| (1 <<< (x4 &&& 31)))), some (.int (x4 + 1))]) (st' := []) (h' := zH y2.2 P) 8 rfl ?_
        exact ih _ _ _ _ _ _ hx
set_option maxRecDepth 100000 in
theorem xp_G_said {X : Nat × (Nat → Int32)} (I : Nat → Nat → Int32) (P : Nat → Nat → Option Nat) (i j : Int32) (r : Int32 × (Nat → Nat → Int32)) (hx : x_G_said I i j = some r) : Wf X 104 [some (.ref 0), some (.int i), some (.int j), none, none] (zH I P) (some (.int r.1)) (zH r.2 P) := by
  unfold Wf
  unfold x_G_said at hx
  refine wp_blk (pc' := 3) (L' := [some (.ref 0), some (.int i), some (.int j), none, none]) (st' := [.int j, .int i, .ref 0]) (h' := zH I P) 3 rfl ?_
  refine wp_callf (d := 47) (as := [.ref 0, .int i, .int j]) (rest := []) (Ld := [some (.ref 0), some (.int i), some (.int j)]) (pc' := 6) (st' := [.int (f_G_areTwo I i j)]) (r := some (.int (f_G_areTwo I i j))) (h1 := zH I P) rfl rfl rfl rfl rfl rfl rfl rfl rfl (sp_G_areTwo I P i j) ?_
  refine wp_ne (a := f_G_areTwo I i j) (b := 0) (s1 := (11, [some (.ref 0), some (.int i), some (.int j), none, none], [], zH I P)) (s2 := (9, [some (.ref 0), some (.int i), some (.int j), none, none], [], zH I P)) rfl (fun c1 => ?_) (fun c1 => ?_)
  · rw [if_neg c1] at hx
    refine wp_blk (pc' := 21) (L' := [some (.ref 0), some (.int i), some (.int j), some (.int 0), none]) (st' := [.ref 4, .ref 8]) (h' := zH I P) 6 rfl ?_
    obtain ⟨y1, hy1, hx⟩ := zbind hx
    refine wp_callf (d := 37) (as := [.ref 8, .ref 4]) (rest := []) (Ld := [some (.ref 8), some (.ref 4)]) (pc' := 24) (st' := []) (r := none) (h1 := zH y1.2 P) rfl rfl rfl rfl rfl rfl rfl rfl rfl (xp_M_copy_8_4 _ _  _ hy1) ?_
    refine wp_blk (pc' := 27) (L' := [some (.ref 0), some (.int i), some (.int j), some (.int 0), some (.int 0)]) (st' := []) (h' := zH y1.2 P) 2 rfl ?_
    exact lp_G_said_27 P _ _ _ _ _ _ _ hx
  · rw [if_pos c1] at hx
    refine wp_blk (pc' := 10) (L' := [some (.ref 0), some (.int i), some (.int j), none, none]) (st' := [.int (-1)]) (h' := zH I P) 1 rfl ?_
    cases hx
    exact wp_end rfl rfl ⟨rfl, rfl⟩
def x_G_mouths (I : Nat → Nat → Int32) (c : Int32) : Option (Int32 × (Nat → Nat → Int32)) := if f_M_has 4 5 6 7 I c = 0 then (some (-1, I)) else (if f_M_isGone 4 5 6 7 I c = 0 then ((x_R_lineUp 4 5 6 7 I).bind (fun q1 => (x_R_placeIn q1.2 c).bind (fun q2 => (x_R_mouthBits 4 5 6 7 q2.2 q2.1).bind (fun q3 => some (q3.1, q3.2))))) else (some (-2, I)))
set_option maxRecDepth 100000 in
theorem xp_G_mouths {X : Nat × (Nat → Int32)} (I : Nat → Nat → Int32) (P : Nat → Nat → Option Nat) (c : Int32) (r : Int32 × (Nat → Nat → Int32)) (hx : x_G_mouths I c = some r) : Wf X 105 [some (.ref 0), some (.int c)] (zH I P) (some (.int r.1)) (zH r.2 P) := by
  unfold Wf
  unfold x_G_mouths at hx
  refine wp_blk (pc' := 5) (L' := [some (.ref 0), some (.int c)]) (st' := [.int c, .ref 4]) (h' := zH I P) 3 rfl ?_
  refine wp_callf (d := 24) (as := [.ref 4, .int c]) (rest := []) (Ld := [some (.ref 4), some (.int c)]) (pc' := 8) (st' := [.int (f_M_has 4 5 6 7 I c)]) (r := some (.int (f_M_has 4 5 6 7 I c))) (h1 := zH I P) rfl rfl rfl rfl rfl rfl rfl rfl rfl (sp_M_has_4 I P c) ?_
  refine wp_ne (a := f_M_has 4 5 6 7 I c) (b := 0) (s1 := (13, [some (.ref 0), some (.int c)], [], zH I P)) (s2 := (11, [some (.ref 0), some (.int c)], [], zH I P)) rfl (fun c1 => ?_) (fun c1 => ?_)
  · rw [if_neg c1] at hx
    refine wp_blk (pc' := 18) (L' := [some (.ref 0), some (.int c)]) (st' := [.int c, .ref 4]) (h' := zH I P) 3 rfl ?_
    refine wp_callf (d := 44) (as := [.ref 4, .int c]) (rest := []) (Ld := [some (.ref 4), some (.int c)]) (pc' := 21) (st' := [.int (f_M_isGone 4 5 6 7 I c)]) (r := some (.int (f_M_isGone 4 5 6 7 I c))) (h1 := zH I P) rfl rfl rfl rfl rfl rfl rfl rfl rfl (sp_M_isGone_4 I P c) ?_
    refine wp_eq (a := f_M_isGone 4 5 6 7 I c) (b := 0) (s1 := (27, [some (.ref 0), some (.int c)], [], zH I P)) (s2 := (24, [some (.ref 0), some (.int c)], [], zH I P)) rfl (fun c2 => ?_) (fun c2 => ?_)
    · rw [if_pos c2] at hx
      refine wp_blk (pc' := 35) (L' := [some (.ref 0), some (.int c)]) (st' := [.ref 4, .ref 12]) (h' := zH I P) 4 rfl ?_
      obtain ⟨y1, hy1, hx⟩ := zbind hx
      refine wp_callf (d := 51) (as := [.ref 12, .ref 4]) (rest := []) (Ld := [some (.ref 12), some (.ref 4), none]) (pc' := 38) (st' := []) (r := none) (h1 := zH y1.2 P) rfl rfl rfl rfl rfl rfl rfl rfl rfl (xp_R_lineUp_4 _ _  _ hy1) ?_
      refine wp_blk (pc' := 51) (L' := [some (.ref 0), some (.int c)]) (st' := [.int c, .ref 12, .ref 4, .ref 12]) (h' := zH y1.2 P) 7 rfl ?_
      obtain ⟨y2, hy2, hx⟩ := zbind hx
      refine wp_callf (d := 106) (as := [.ref 12, .int c]) (rest := [.ref 4, .ref 12]) (Ld := [some (.ref 12), some (.int c), none]) (pc' := 54) (st' := [.int y2.1, .ref 4, .ref 12]) (r := some (.int y2.1)) (h1 := zH y2.2 P) rfl rfl rfl rfl rfl rfl rfl rfl rfl (xp_R_placeIn _ _ _ _ hy2) ?_
      obtain ⟨y3, hy3, hx⟩ := zbind hx
      refine wp_callf (d := 58) (as := [.ref 12, .ref 4, .int y2.1]) (rest := []) (Ld := [some (.ref 12), some (.ref 4), some (.int y2.1), none, none, none, none, none, none, none]) (pc' := 57) (st' := [.int y3.1]) (r := some (.int y3.1)) (h1 := zH y3.2 P) rfl rfl rfl rfl rfl rfl rfl rfl rfl (xp_R_mouthBits_4 _ _ _ _ hy3) ?_
      cases hx
      exact wp_end rfl rfl ⟨rfl, rfl⟩
    · rw [if_neg c2] at hx
      refine wp_blk (pc' := 26) (L' := [some (.ref 0), some (.int c)]) (st' := [.int (-2)]) (h' := zH I P) 1 rfl ?_
      cases hx
      exact wp_end rfl rfl ⟨rfl, rfl⟩
  · rw [if_pos c1] at hx
    refine wp_blk (pc' := 12) (L' := [some (.ref 0), some (.int c)]) (st' := [.int (-1)]) (h' := zH I P) 1 rfl ?_
    cases hx
    exact wp_end rfl rfl ⟨rfl, rfl⟩
