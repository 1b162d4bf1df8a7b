/-! the law, piece by piece -/
def zchp (y a k : Nat) : Bool := (List.range' a k).all fun pc => match zins y pc with | none => true | some q => decide (decode (zcode y) pc = .ok q)
set_option maxRecDepth 100000 in
theorem zkp_0 : zchp 174 0 104 = true := by decide +kernel
set_option maxRecDepth 100000 in
theorem zkp_1 : zchp 174 104 104 = true := by decide +kernel
set_option maxRecDepth 100000 in
theorem zkp_2 : zchp 174 208 104 = true := by decide +kernel
set_option maxRecDepth 100000 in
theorem zkp_3 : zchp 174 312 104 = true := by decide +kernel
set_option maxRecDepth 100000 in
theorem zkp_4 : zchp 174 416 104 = true := by decide +kernel
set_option maxRecDepth 100000 in
theorem zkp_5 : zchp 174 520 104 = true := by decide +kernel
set_option maxRecDepth 100000 in
theorem zkp_6 : zchp 174 624 104 = true := by decide +kernel
set_option maxRecDepth 100000 in
theorem zkp_7 : zchp 174 728 100 = true := by decide +kernel
theorem zkp_in {y a k pc : Nat} (h : zchp y a k = true) (h1 : a ≤ pc) (h2 : pc < a + k) : (match zins y pc with | none => true | some q => decide (decode (zcode y) pc = .ok q)) = true := List.all_eq_true.mp h pc (List.mem_range'_1.mpr ⟨h1, h2⟩)
theorem zk_174 : zchk 174 = true := by
  refine List.all_eq_true.mpr fun pc hp => ?_
  have hs : zsz 174 = 828 := by decide +kernel
  rw [hs, List.mem_range] at hp
  by_cases h0 : pc < 104
  · exact zkp_in zkp_0 (by omega) (by omega)
  by_cases h1 : pc < 208
  · exact zkp_in zkp_1 (by omega) (by omega)
  by_cases h2 : pc < 312
  · exact zkp_in zkp_2 (by omega) (by omega)
  by_cases h3 : pc < 416
  · exact zkp_in zkp_3 (by omega) (by omega)
  by_cases h4 : pc < 520
  · exact zkp_in zkp_4 (by omega) (by omega)
  by_cases h5 : pc < 624
  · exact zkp_in zkp_5 (by omega) (by omega)
  by_cases h6 : pc < 728
  · exact zkp_in zkp_6 (by omega) (by omega)
  exact zkp_in zkp_7 (by omega) (by omega)
