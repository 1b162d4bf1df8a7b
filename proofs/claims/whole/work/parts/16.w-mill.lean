/-! THE MILL AND SMALL THINGS, without loops (printed) -/
def zrow (I : Nat → Nat → Int32) (k : Nat) (f : Nat → Int32) : Nat → Nat → Int32 := fun a => if a = k then f else I a
theorem zle_nil : zLe [] [] := ⟨rfl, fun _ _ h => h⟩
theorem zle_c {a b : List (Option Value)} {x : Option Value} (h : zLe a b) : zLe (x :: a) (x :: b) := ⟨by simp [h.1], fun k v hk => by
  cases k with
  | zero => exact hk
  | succ k => exact h.2 k v hk⟩
theorem zle_n {a b : List (Option Value)} {x : Option Value} (h : zLe a b) : zLe (none :: a) (x :: b) := ⟨by simp [h.1], fun k v hk => by
  cases k with
  | zero => cases hk
  | succ k => exact h.2 k v hk⟩
theorem zbind {α β : Type} {o : Option α} {f : α → Option β} {r : β} (h : o.bind f = some r) : ∃ q, o = some q ∧ f q = some r := by
  cases o with
  | none => cases h
  | some q => exact ⟨q, rfl, h⟩
section WSw
variable {X : Nat × (Nat → Int32)} {y pc pc' pc2 w : Nat} {L L' : List (Option Value)} {st st' : List Value} {h h' : ZH} {Q : Option Value → ZH → Prop}
theorem wp_swk {x k : Int32} (c : x = k) (hs : zone1 X y pc L (.int k :: st) h = some (pc', L', st', h')) (kk : Wp X y pc' L' st' h' Q) : Wp X y pc L (.int x :: st) h Q := by
  subst c
  exact wp_1 hs kk
theorem zoffD {d a : Int} : ∀ (ps : List (Int × Int)), (∀ p ∈ ps, ¬ a = p.1) → Op.lookupswitch.offset ps d a = d
  | [], _ => rfl
  | (k, o) :: ps, h => by
    rw [Op.lookupswitch.offset_cons, if_neg]
    · exact zoffD ps fun p hp => h p (List.mem_cons_of_mem _ hp)
    · intro q
      exact h (k, o) List.mem_cons_self q.symm
theorem wp_lookD {x : Int32} {d : Int} {ps : Array (Int × Int)} (hi : zins y pc = some (.lookupswitch d ps, w)) (he : zend y (.lookupswitch d ps) (.int x :: st) = none) (hc : zcal y (.lookupswitch d ps) = none) (hb : (ps.toList.zip (ps.toList.drop 1)).all (fun (a, next) => a.1 < next.1) = true) (h0 : 0 ≤ (pc : Int) + d) (h2 : zjmp pc d = pc2) (hn : ∀ p ∈ ps.toList, ¬ x.toInt = p.1) (kk : Wp X y pc2 L st h Q) : Wp X y pc L (.int x :: st) h Q := by
  refine wp_one hi he hc (pc' := pc2) (L' := L) (st' := st) (h' := h) ?_ kk
  simp only [zstep]
  rw [zoffD _ hn, hb, decide_eq_true h0, h2]
  rfl
theorem wp_tabD {x : Int32} {d lo hi : Int} {os : Array Int} (h1 : zins y pc = some (.tableswitch d lo hi os, w)) (he : zend y (.tableswitch d lo hi os) (.int x :: st) = none) (hc : zcal y (.tableswitch d lo hi os) = none) (h0 : 0 ≤ (pc : Int) + d) (h2 : zjmp pc d = pc2) (hn : x.toInt < lo ∨ hi < x.toInt) (kk : Wp X y pc2 L st h Q) : Wp X y pc L (.int x :: st) h Q := by
  refine wp_one h1 he hc (pc' := pc2) (L' := L) (st' := st) (h' := h) ?_ kk
  simp only [zstep]
  rw [if_pos hn, decide_eq_true h0, h2]
  rfl
theorem zneI {x k : Int32} (h : ¬ x = k) : ¬ x.toInt = k.toInt := fun q => h (Int32.toInt_inj.mp q)
end WSw
theorem zinb_a {i : Int32} {n : Nat} (h0 : ¬ i < 0) (h1 : ¬ Int32.ofNat n ≤ i) (hn : n < 2 ^ 31 := by decide) : zinb i n = true := by
  refine decide_eq_true (fun q => ?_)
  rcases q with q | q
  · exact h0 q
  · refine h1 (Int32.le_iff_toInt_le.mpr ?_)
    have e1 : (Int32.ofNat n).toInt = n := nI_toInt hn
    have e2 : i.toInt = (i.toNatClampNeg : Int) := by
      have h3 : 0 ≤ i.toInt := by
        have := Int32.not_lt.mp h0
        simpa using Int32.le_iff_toInt_le.mp this
      show i.toInt = ((i.toInt.toNat : Nat) : Int)
      omega
    omega
def f_G_isOutside (I : Nat → Nat → Int32) (a b : Int32) : Int32 := if a < 0 then 1 else (if a ≤ b then 0 else 1)
theorem fb_G_isOutside (I : Nat → Nat → Int32) (a b : Int32) : f_G_isOutside I a b = 1 ∨ f_G_isOutside I a b = 0 := by
  unfold f_G_isOutside
  (repeat' split) <;> first | exact Or.inl rfl | exact Or.inr rfl
set_option maxRecDepth 100000 in
theorem sp_G_isOutside {X : Nat × (Nat → Int32)} (I : Nat → Nat → Int32) (P : Nat → Nat → Option Nat) (a b : Int32) : Wf X 25 [some (.int a), some (.int b)] (zH I P) (some (.int (f_G_isOutside I a b))) (zH I P) := by
  unfold Wf
  refine wp_blk (pc' := 1) (L' := [some (.int a), some (.int b)]) (st' := [.int a]) (h' := zH I P) 1 rfl ?_
  refine wp_lt (a := a) (b := 0) (s1 := (9, [some (.int a), some (.int b)], [], zH I P)) (s2 := (4, [some (.int a), some (.int b)], [], zH I P)) rfl (fun c1 => ?_) (fun c1 => ?_)
  · refine wp_blk (pc' := 14) (L' := [some (.int a), some (.int b)]) (st' := [.int 1]) (h' := zH I P) 2 rfl ?_
    exact wp_end rfl rfl ⟨by rw [f_G_isOutside, if_pos c1], rfl⟩
  · refine wp_blk (pc' := 6) (L' := [some (.int a), some (.int b)]) (st' := [.int b, .int a]) (h' := zH I P) 2 rfl ?_
    refine wp_le (a := a) (b := b) (s1 := (13, [some (.int a), some (.int b)], [], zH I P)) (s2 := (9, [some (.int a), some (.int b)], [], zH I P)) rfl (fun c2 => ?_) (fun c2 => ?_)
    · refine wp_blk (pc' := 14) (L' := [some (.int a), some (.int b)]) (st' := [.int 0]) (h' := zH I P) 1 rfl ?_
      exact wp_end rfl rfl ⟨by rw [f_G_isOutside, if_neg c1, if_pos c2], rfl⟩
    · refine wp_blk (pc' := 14) (L' := [some (.int a), some (.int b)]) (st' := [.int 1]) (h' := zH I P) 2 rfl ?_
      exact wp_end rfl rfl ⟨by rw [f_G_isOutside, if_neg c1, if_neg c2], rfl⟩
set_option maxRecDepth 100000 in
theorem sp_G_isOutside_G {X : Nat × (Nat → Int32)} (I : Nat → Nat → Int32) (P : Nat → Nat → Option Nat) (a b : Int32) : Wf X 25 [some (.int a), some (.int b)] (zG I P) (some (.int (f_G_isOutside I a b))) (zG I P) := by
  unfold Wf
  refine wp_blk (pc' := 1) (L' := [some (.int a), some (.int b)]) (st' := [.int a]) (h' := zG I P) 1 rfl ?_
  refine wp_lt (a := a) (b := 0) (s1 := (9, [some (.int a), some (.int b)], [], zG I P)) (s2 := (4, [some (.int a), some (.int b)], [], zG I P)) rfl (fun c1 => ?_) (fun c1 => ?_)
  · refine wp_blk (pc' := 14) (L' := [some (.int a), some (.int b)]) (st' := [.int 1]) (h' := zG I P) 2 rfl ?_
    exact wp_end rfl rfl ⟨by rw [f_G_isOutside, if_pos c1], rfl⟩
  · refine wp_blk (pc' := 6) (L' := [some (.int a), some (.int b)]) (st' := [.int b, .int a]) (h' := zG I P) 2 rfl ?_
    refine wp_le (a := a) (b := b) (s1 := (13, [some (.int a), some (.int b)], [], zG I P)) (s2 := (9, [some (.int a), some (.int b)], [], zG I P)) rfl (fun c2 => ?_) (fun c2 => ?_)
    · refine wp_blk (pc' := 14) (L' := [some (.int a), some (.int b)]) (st' := [.int 0]) (h' := zG I P) 1 rfl ?_
      exact wp_end rfl rfl ⟨by rw [f_G_isOutside, if_neg c1, if_pos c2], rfl⟩
    · refine wp_blk (pc' := 14) (L' := [some (.int a), some (.int b)]) (st' := [.int 1]) (h' := zG I P) 2 rfl ?_
      exact wp_end rfl rfl ⟨by rw [f_G_isOutside, if_neg c1, if_neg c2], rfl⟩
def f_G_isIn (I : Nat → Nat → Int32) (a b : Int32) : Int32 := if (a >>> (b &&& 31)) &&& 1 = 1 then 1 else 0
theorem fb_G_isIn (I : Nat → Nat → Int32) (a b : Int32) : f_G_isIn I a b = 1 ∨ f_G_isIn I a b = 0 := by
  unfold f_G_isIn
  (repeat' split) <;> first | exact Or.inl rfl | exact Or.inr rfl
set_option maxRecDepth 100000 in
theorem sp_G_isIn {X : Nat × (Nat → Int32)} (I : Nat → Nat → Int32) (P : Nat → Nat → Option Nat) (a b : Int32) : Wf X 45 [some (.int a), some (.int b)] (zH I P) (some (.int (f_G_isIn I a b))) (zH I P) := by
  unfold Wf
  refine wp_blk (pc' := 6) (L' := [some (.int a), some (.int b)]) (st' := [.int 1, .int ((a >>> (b &&& 31)) &&& 1)]) (h' := zH I P) 6 rfl ?_
  refine wp_ne (a := (a >>> (b &&& 31)) &&& 1) (b := 1) (s1 := (13, [some (.int a), some (.int b)], [], zH I P)) (s2 := (9, [some (.int a), some (.int b)], [], zH I P)) rfl (fun c1 => ?_) (fun c1 => ?_)
  · refine wp_blk (pc' := 14) (L' := [some (.int a), some (.int b)]) (st' := [.int 0]) (h' := zH I P) 1 rfl ?_
    exact wp_end rfl rfl ⟨by rw [f_G_isIn, if_neg c1], rfl⟩
  · refine wp_blk (pc' := 14) (L' := [some (.int a), some (.int b)]) (st' := [.int 1]) (h' := zH I P) 2 rfl ?_
    exact wp_end rfl rfl ⟨by rw [f_G_isIn, if_pos c1], rfl⟩
def f_G_breadOf (I : Nat → Nat → Int32) (a : Int32) : Int32 := if 2 ≤ a then (if 5 ≤ a then (if 8 ≤ a then 3 else 2) else 1) else 0
set_option maxRecDepth 100000 in
theorem sp_G_breadOf {X : Nat × (Nat → Int32)} (I : Nat → Nat → Int32) (P : Nat → Nat → Option Nat) (a : Int32) : Wf X 62 [some (.int a)] (zH I P) (some (.int (f_G_breadOf I a))) (zH I P) := by
  unfold Wf
  refine wp_blk (pc' := 2) (L' := [some (.int a)]) (st' := [.int 2, .int a]) (h' := zH I P) 2 rfl ?_
  refine wp_ge (a := a) (b := 2) (s1 := (7, [some (.int a)], [], zH I P)) (s2 := (5, [some (.int a)], [], zH I P)) rfl (fun c1 => ?_) (fun c1 => ?_)
  · refine wp_blk (pc' := 9) (L' := [some (.int a)]) (st' := [.int 5, .int a]) (h' := zH I P) 2 rfl ?_
    refine wp_ge (a := a) (b := 5) (s1 := (14, [some (.int a)], [], zH I P)) (s2 := (12, [some (.int a)], [], zH I P)) rfl (fun c2 => ?_) (fun c2 => ?_)
    · refine wp_blk (pc' := 17) (L' := [some (.int a)]) (st' := [.int 8, .int a]) (h' := zH I P) 2 rfl ?_
      refine wp_ge (a := a) (b := 8) (s1 := (24, [some (.int a)], [], zH I P)) (s2 := (20, [some (.int a)], [], zH I P)) rfl (fun c3 => ?_) (fun c3 => ?_)
      · refine wp_blk (pc' := 25) (L' := [some (.int a)]) (st' := [.int 3]) (h' := zH I P) 1 rfl ?_
        exact wp_end rfl rfl ⟨by rw [f_G_breadOf, if_pos c1, if_pos c2, if_pos c3], rfl⟩
      · refine wp_blk (pc' := 25) (L' := [some (.int a)]) (st' := [.int 2]) (h' := zH I P) 2 rfl ?_
        exact wp_end rfl rfl ⟨by rw [f_G_breadOf, if_pos c1, if_pos c2, if_neg c3], rfl⟩
    · refine wp_blk (pc' := 13) (L' := [some (.int a)]) (st' := [.int 1]) (h' := zH I P) 1 rfl ?_
      exact wp_end rfl rfl ⟨by rw [f_G_breadOf, if_pos c1, if_neg c2], rfl⟩
  · refine wp_blk (pc' := 6) (L' := [some (.int a)]) (st' := [.int 0]) (h' := zH I P) 1 rfl ?_
    exact wp_end rfl rfl ⟨by rw [f_G_breadOf, if_neg c1], rfl⟩
def f_M_has (m mk ml mt : Nat) (I : Nat → Nat → Int32) (c : Int32) : Int32 := if c < 0 then 0 else (if I m 3 ≤ c then 0 else 1)
theorem fb_M_has (m mk ml mt : Nat) (I : Nat → Nat → Int32) (c : Int32) : f_M_has m mk ml mt I c = 1 ∨ f_M_has m mk ml mt I c = 0 := by
  unfold f_M_has
  (repeat' split) <;> first | exact Or.inl rfl | exact Or.inr rfl
set_option maxRecDepth 100000 in
theorem sp_M_has_4 {X : Nat × (Nat → Int32)} (I : Nat → Nat → Int32) (P : Nat → Nat → Option Nat) (c : Int32) : Wf X 24 [some (.ref 4), some (.int c)] (zH I P) (some (.int (f_M_has 4 5 6 7 I c))) (zH I P) := by
  unfold Wf
  refine wp_blk (pc' := 1) (L' := [some (.ref 4), some (.int c)]) (st' := [.int c]) (h' := zH I P) 1 rfl ?_
  refine wp_lt (a := c) (b := 0) (s1 := (16, [some (.ref 4), some (.int c)], [], zH I P)) (s2 := (4, [some (.ref 4), some (.int c)], [], zH I P)) rfl (fun c1 => ?_) (fun c1 => ?_)
  · refine wp_blk (pc' := 17) (L' := [some (.ref 4), some (.int c)]) (st' := [.int 0]) (h' := zH I P) 1 rfl ?_
    exact wp_end rfl rfl ⟨by rw [f_M_has, if_pos c1], rfl⟩
  · refine wp_blk (pc' := 9) (L' := [some (.ref 4), some (.int c)]) (st' := [.int (I 4 3), .int c]) (h' := zH I P) 3 rfl ?_
    refine wp_ge (a := c) (b := I 4 3) (s1 := (16, [some (.ref 4), some (.int c)], [], zH I P)) (s2 := (12, [some (.ref 4), some (.int c)], [], zH I P)) rfl (fun c2 => ?_) (fun c2 => ?_)
    · refine wp_blk (pc' := 17) (L' := [some (.ref 4), some (.int c)]) (st' := [.int 0]) (h' := zH I P) 1 rfl ?_
      exact wp_end rfl rfl ⟨by rw [f_M_has, if_neg c1, if_pos c2], rfl⟩
    · refine wp_blk (pc' := 17) (L' := [some (.ref 4), some (.int c)]) (st' := [.int 1]) (h' := zH I P) 2 rfl ?_
      exact wp_end rfl rfl ⟨by rw [f_M_has, if_neg c1, if_neg c2], rfl⟩
set_option maxRecDepth 100000 in
theorem sp_M_has_4_G {X : Nat × (Nat → Int32)} (I : Nat → Nat → Int32) (P : Nat → Nat → Option Nat) (c : Int32) : Wf X 24 [some (.ref 4), some (.int c)] (zG I P) (some (.int (f_M_has 4 5 6 7 I c))) (zG I P) := by
  unfold Wf
  refine wp_blk (pc' := 1) (L' := [some (.ref 4), some (.int c)]) (st' := [.int c]) (h' := zG I P) 1 rfl ?_
  refine wp_lt (a := c) (b := 0) (s1 := (16, [some (.ref 4), some (.int c)], [], zG I P)) (s2 := (4, [some (.ref 4), some (.int c)], [], zG I P)) rfl (fun c1 => ?_) (fun c1 => ?_)
  · refine wp_blk (pc' := 17) (L' := [some (.ref 4), some (.int c)]) (st' := [.int 0]) (h' := zG I P) 1 rfl ?_
    exact wp_end rfl rfl ⟨by rw [f_M_has, if_pos c1], rfl⟩
  · refine wp_blk (pc' := 9) (L' := [some (.ref 4), some (.int c)]) (st' := [.int (I 4 3), .int c]) (h' := zG I P) 3 rfl ?_
    refine wp_ge (a := c) (b := I 4 3) (s1 := (16, [some (.ref 4), some (.int c)], [], zG I P)) (s2 := (12, [some (.ref 4), some (.int c)], [], zG I P)) rfl (fun c2 => ?_) (fun c2 => ?_)
    · refine wp_blk (pc' := 17) (L' := [some (.ref 4), some (.int c)]) (st' := [.int 0]) (h' := zG I P) 1 rfl ?_
      exact wp_end rfl rfl ⟨by rw [f_M_has, if_neg c1, if_pos c2], rfl⟩
    · refine wp_blk (pc' := 17) (L' := [some (.ref 4), some (.int c)]) (st' := [.int 1]) (h' := zG I P) 2 rfl ?_
      exact wp_end rfl rfl ⟨by rw [f_M_has, if_neg c1, if_neg c2], rfl⟩
set_option maxRecDepth 100000 in
theorem sp_M_has_8 {X : Nat × (Nat → Int32)} (I : Nat → Nat → Int32) (P : Nat → Nat → Option Nat) (c : Int32) : Wf X 24 [some (.ref 8), some (.int c)] (zH I P) (some (.int (f_M_has 8 9 10 11 I c))) (zH I P) := by
  unfold Wf
  refine wp_blk (pc' := 1) (L' := [some (.ref 8), some (.int c)]) (st' := [.int c]) (h' := zH I P) 1 rfl ?_
  refine wp_lt (a := c) (b := 0) (s1 := (16, [some (.ref 8), some (.int c)], [], zH I P)) (s2 := (4, [some (.ref 8), some (.int c)], [], zH I P)) rfl (fun c1 => ?_) (fun c1 => ?_)
  · refine wp_blk (pc' := 17) (L' := [some (.ref 8), some (.int c)]) (st' := [.int 0]) (h' := zH I P) 1 rfl ?_
    exact wp_end rfl rfl ⟨by rw [f_M_has, if_pos c1], rfl⟩
  · refine wp_blk (pc' := 9) (L' := [some (.ref 8), some (.int c)]) (st' := [.int (I 8 3), .int c]) (h' := zH I P) 3 rfl ?_
    refine wp_ge (a := c) (b := I 8 3) (s1 := (16, [some (.ref 8), some (.int c)], [], zH I P)) (s2 := (12, [some (.ref 8), some (.int c)], [], zH I P)) rfl (fun c2 => ?_) (fun c2 => ?_)
    · refine wp_blk (pc' := 17) (L' := [some (.ref 8), some (.int c)]) (st' := [.int 0]) (h' := zH I P) 1 rfl ?_
      exact wp_end rfl rfl ⟨by rw [f_M_has, if_neg c1, if_pos c2], rfl⟩
    · refine wp_blk (pc' := 17) (L' := [some (.ref 8), some (.int c)]) (st' := [.int 1]) (h' := zH I P) 2 rfl ?_
      exact wp_end rfl rfl ⟨by rw [f_M_has, if_neg c1, if_neg c2], rfl⟩
set_option maxRecDepth 100000 in
theorem sp_M_has_8_G {X : Nat × (Nat → Int32)} (I : Nat → Nat → Int32) (P : Nat → Nat → Option Nat) (c : Int32) : Wf X 24 [some (.ref 8), some (.int c)] (zG I P) (some (.int (f_M_has 8 9 10 11 I c))) (zG I P) := by
  unfold Wf
  refine wp_blk (pc' := 1) (L' := [some (.ref 8), some (.int c)]) (st' := [.int c]) (h' := zG I P) 1 rfl ?_
  refine wp_lt (a := c) (b := 0) (s1 := (16, [some (.ref 8), some (.int c)], [], zG I P)) (s2 := (4, [some (.ref 8), some (.int c)], [], zG I P)) rfl (fun c1 => ?_) (fun c1 => ?_)
  · refine wp_blk (pc' := 17) (L' := [some (.ref 8), some (.int c)]) (st' := [.int 0]) (h' := zG I P) 1 rfl ?_
    exact wp_end rfl rfl ⟨by rw [f_M_has, if_pos c1], rfl⟩
  · refine wp_blk (pc' := 9) (L' := [some (.ref 8), some (.int c)]) (st' := [.int (I 8 3), .int c]) (h' := zG I P) 3 rfl ?_
    refine wp_ge (a := c) (b := I 8 3) (s1 := (16, [some (.ref 8), some (.int c)], [], zG I P)) (s2 := (12, [some (.ref 8), some (.int c)], [], zG I P)) rfl (fun c2 => ?_) (fun c2 => ?_)
    · refine wp_blk (pc' := 17) (L' := [some (.ref 8), some (.int c)]) (st' := [.int 0]) (h' := zG I P) 1 rfl ?_
      exact wp_end rfl rfl ⟨by rw [f_M_has, if_neg c1, if_pos c2], rfl⟩
    · refine wp_blk (pc' := 17) (L' := [some (.ref 8), some (.int c)]) (st' := [.int 1]) (h' := zG I P) 2 rfl ?_
      exact wp_end rfl rfl ⟨by rw [f_M_has, if_neg c1, if_neg c2], rfl⟩
def f_M_size (m mk ml mt : Nat) (I : Nat → Nat → Int32) : Int32 := I m 3
set_option maxRecDepth 100000 in
theorem sp_M_size_4 {X : Nat × (Nat → Int32)} (I : Nat → Nat → Int32) (P : Nat → Nat → Option Nat) : Wf X 36 [some (.ref 4)] (zH I P) (some (.int (f_M_size 4 5 6 7 I))) (zH I P) := by
  unfold Wf
  refine wp_blk (pc' := 4) (L' := [some (.ref 4)]) (st' := [.int (I 4 3)]) (h' := zH I P) 2 rfl ?_
  exact wp_end rfl rfl ⟨rfl, rfl⟩
set_option maxRecDepth 100000 in
theorem sp_M_size_8 {X : Nat × (Nat → Int32)} (I : Nat → Nat → Int32) (P : Nat → Nat → Option Nat) : Wf X 36 [some (.ref 8)] (zH I P) (some (.int (f_M_size 8 9 10 11 I))) (zH I P) := by
  unfold Wf
  refine wp_blk (pc' := 4) (L' := [some (.ref 8)]) (st' := [.int (I 8 3)]) (h' := zH I P) 2 rfl ?_
  exact wp_end rfl rfl ⟨rfl, rfl⟩
def f_M_kindOf (m mk ml mt : Nat) (I : Nat → Nat → Int32) (c : Int32) : Int32 := if c < 0 then 0 else (if Int32.ofNat 6 ≤ c then 0 else (I mk c.toNatClampNeg))
set_option maxRecDepth 100000 in
theorem sp_M_kindOf_4 {X : Nat × (Nat → Int32)} (I : Nat → Nat → Int32) (P : Nat → Nat → Option Nat) (c : Int32) : Wf X 41 [some (.ref 4), some (.int c)] (zH I P) (some (.int (f_M_kindOf 4 5 6 7 I c))) (zH I P) := by
  unfold Wf
  refine wp_blk (pc' := 1) (L' := [some (.ref 4), some (.int c)]) (st' := [.int c]) (h' := zH I P) 1 rfl ?_
  refine wp_lt (a := c) (b := 0) (s1 := (22, [some (.ref 4), some (.int c)], [], zH I P)) (s2 := (4, [some (.ref 4), some (.int c)], [], zH I P)) rfl (fun c1 => ?_) (fun c1 => ?_)
  · refine wp_blk (pc' := 23) (L' := [some (.ref 4), some (.int c)]) (st' := [.int 0]) (h' := zH I P) 1 rfl ?_
    exact wp_end rfl rfl ⟨by rw [f_M_kindOf, if_pos c1], rfl⟩
  · refine wp_blk (pc' := 10) (L' := [some (.ref 4), some (.int c)]) (st' := [.int (Int32.ofNat 6), .int c]) (h' := zH I P) 4 rfl ?_
    refine wp_ge (a := c) (b := Int32.ofNat 6) (s1 := (22, [some (.ref 4), some (.int c)], [], zH I P)) (s2 := (13, [some (.ref 4), some (.int c)], [], zH I P)) rfl (fun c2 => ?_) (fun c2 => ?_)
    · refine wp_blk (pc' := 23) (L' := [some (.ref 4), some (.int c)]) (st' := [.int 0]) (h' := zH I P) 1 rfl ?_
      exact wp_end rfl rfl ⟨by rw [f_M_kindOf, if_neg c1, if_pos c2], rfl⟩
    · refine wp_blk (pc' := 18) (L' := [some (.ref 4), some (.int c)]) (st' := [.int c, .ref 5]) (h' := zH I P) 3 rfl ?_
      refine wp_chk (P := zinb c 6 = true) (pc' := 19) (L' := [some (.ref 4), some (.int c)]) (st' := [.int (I 5 c.toNatClampNeg)]) (h' := zH I P) rfl (by exact zinb_a (by assumption) (by assumption)) ?_
      refine wp_blk (pc' := 23) (L' := [some (.ref 4), some (.int c)]) (st' := [.int (I 5 c.toNatClampNeg)]) (h' := zH I P) 1 rfl ?_
      exact wp_end rfl rfl ⟨by rw [f_M_kindOf, if_neg c1, if_neg c2], rfl⟩
set_option maxRecDepth 100000 in
theorem sp_M_kindOf_8 {X : Nat × (Nat → Int32)} (I : Nat → Nat → Int32) (P : Nat → Nat → Option Nat) (c : Int32) : Wf X 41 [some (.ref 8), some (.int c)] (zH I P) (some (.int (f_M_kindOf 8 9 10 11 I c))) (zH I P) := by
  unfold Wf
  refine wp_blk (pc' := 1) (L' := [some (.ref 8), some (.int c)]) (st' := [.int c]) (h' := zH I P) 1 rfl ?_
  refine wp_lt (a := c) (b := 0) (s1 := (22, [some (.ref 8), some (.int c)], [], zH I P)) (s2 := (4, [some (.ref 8), some (.int c)], [], zH I P)) rfl (fun c1 => ?_) (fun c1 => ?_)
  · refine wp_blk (pc' := 23) (L' := [some (.ref 8), some (.int c)]) (st' := [.int 0]) (h' := zH I P) 1 rfl ?_
    exact wp_end rfl rfl ⟨by rw [f_M_kindOf, if_pos c1], rfl⟩
  · refine wp_blk (pc' := 10) (L' := [some (.ref 8), some (.int c)]) (st' := [.int (Int32.ofNat 6), .int c]) (h' := zH I P) 4 rfl ?_
    refine wp_ge (a := c) (b := Int32.ofNat 6) (s1 := (22, [some (.ref 8), some (.int c)], [], zH I P)) (s2 := (13, [some (.ref 8), some (.int c)], [], zH I P)) rfl (fun c2 => ?_) (fun c2 => ?_)
    · refine wp_blk (pc' := 23) (L' := [some (.ref 8), some (.int c)]) (st' := [.int 0]) (h' := zH I P) 1 rfl ?_
      exact wp_end rfl rfl ⟨by rw [f_M_kindOf, if_neg c1, if_pos c2], rfl⟩
    · refine wp_blk (pc' := 18) (L' := [some (.ref 8), some (.int c)]) (st' := [.int c, .ref 9]) (h' := zH I P) 3 rfl ?_
      refine wp_chk (P := zinb c 6 = true) (pc' := 19) (L' := [some (.ref 8), some (.int c)]) (st' := [.int (I 9 c.toNatClampNeg)]) (h' := zH I P) rfl (by exact zinb_a (by assumption) (by assumption)) ?_
      refine wp_blk (pc' := 23) (L' := [some (.ref 8), some (.int c)]) (st' := [.int (I 9 c.toNatClampNeg)]) (h' := zH I P) 1 rfl ?_
      exact wp_end rfl rfl ⟨by rw [f_M_kindOf, if_neg c1, if_neg c2], rfl⟩
def f_M_isGone (m mk ml mt : Nat) (I : Nat → Nat → Int32) (c : Int32) : Int32 := f_G_isIn I (I m 4) c
theorem fb_M_isGone (m mk ml mt : Nat) (I : Nat → Nat → Int32) (c : Int32) : f_M_isGone m mk ml mt I c = 1 ∨ f_M_isGone m mk ml mt I c = 0 := by
  unfold f_M_isGone
  (repeat' split) <;> first | exact Or.inl rfl | exact Or.inr rfl | exact fb_G_isIn I (I m 4) c
set_option maxRecDepth 100000 in
theorem sp_M_isGone_4 {X : Nat × (Nat → Int32)} (I : Nat → Nat → Int32) (P : Nat → Nat → Option Nat) (c : Int32) : Wf X 44 [some (.ref 4), some (.int c)] (zH I P) (some (.int (f_M_isGone 4 5 6 7 I c))) (zH I P) := by
  unfold Wf
  refine wp_blk (pc' := 5) (L' := [some (.ref 4), some (.int c)]) (st' := [.int c, .int (I 4 4)]) (h' := zH I P) 3 rfl ?_
  refine wp_callf (d := 45) (as := [.int (I 4 4), .int c]) (rest := []) (Ld := [some (.int (I 4 4)), some (.int c)]) (pc' := 8) (st' := [.int (f_G_isIn I (I 4 4) c)]) (r := some (.int (f_G_isIn I (I 4 4) c))) (h1 := zH I P) rfl rfl rfl rfl rfl rfl rfl rfl rfl (sp_G_isIn I P (I 4 4) c) ?_
  exact wp_endb rfl rfl (fb_G_isIn I (I 4 4) c) ⟨rfl, rfl⟩
set_option maxRecDepth 100000 in
theorem sp_M_isGone_8 {X : Nat × (Nat → Int32)} (I : Nat → Nat → Int32) (P : Nat → Nat → Option Nat) (c : Int32) : Wf X 44 [some (.ref 8), some (.int c)] (zH I P) (some (.int (f_M_isGone 8 9 10 11 I c))) (zH I P) := by
  unfold Wf
  refine wp_blk (pc' := 5) (L' := [some (.ref 8), some (.int c)]) (st' := [.int c, .int (I 8 4)]) (h' := zH I P) 3 rfl ?_
  refine wp_callf (d := 45) (as := [.int (I 8 4), .int c]) (rest := []) (Ld := [some (.int (I 8 4)), some (.int c)]) (pc' := 8) (st' := [.int (f_G_isIn I (I 8 4) c)]) (r := some (.int (f_G_isIn I (I 8 4) c))) (h1 := zH I P) rfl rfl rfl rfl rfl rfl rfl rfl rfl (sp_G_isIn I P (I 8 4) c) ?_
  exact wp_endb rfl rfl (fb_G_isIn I (I 8 4) c) ⟨rfl, rfl⟩
def f_M_goneBits (m mk ml mt : Nat) (I : Nat → Nat → Int32) : Int32 := I m 4
set_option maxRecDepth 100000 in
theorem sp_M_goneBits_4 {X : Nat × (Nat → Int32)} (I : Nat → Nat → Int32) (P : Nat → Nat → Option Nat) : Wf X 71 [some (.ref 4)] (zH I P) (some (.int (f_M_goneBits 4 5 6 7 I))) (zH I P) := by
  unfold Wf
  refine wp_blk (pc' := 4) (L' := [some (.ref 4)]) (st' := [.int (I 4 4)]) (h' := zH I P) 2 rfl ?_
  exact wp_end rfl rfl ⟨rfl, rfl⟩
set_option maxRecDepth 100000 in
theorem sp_M_goneBits_8 {X : Nat × (Nat → Int32)} (I : Nat → Nat → Int32) (P : Nat → Nat → Option Nat) : Wf X 71 [some (.ref 8)] (zH I P) (some (.int (f_M_goneBits 8 9 10 11 I))) (zH I P) := by
  unfold Wf
  refine wp_blk (pc' := 4) (L' := [some (.ref 8)]) (st' := [.int (I 8 4)]) (h' := zH I P) 2 rfl ?_
  exact wp_end rfl rfl ⟨rfl, rfl⟩
def f_M_presentBits (m mk ml mt : Nat) (I : Nat → Nat → Int32) : Int32 := ((1 <<< ((I m 3) &&& 31)) - 1) &&& ((I m 4) ^^^ (-1))
set_option maxRecDepth 100000 in
theorem sp_M_presentBits_4 {X : Nat × (Nat → Int32)} (I : Nat → Nat → Int32) (P : Nat → Nat → Option Nat) : Wf X 90 [some (.ref 4)] (zH I P) (some (.int (f_M_presentBits 4 5 6 7 I))) (zH I P) := by
  unfold Wf
  refine wp_blk (pc' := 15) (L' := [some (.ref 4)]) (st' := [.int (((1 <<< ((I 4 3) &&& 31)) - 1) &&& ((I 4 4) ^^^ (-1)))]) (h' := zH I P) 11 rfl ?_
  exact wp_end rfl rfl ⟨rfl, rfl⟩
set_option maxRecDepth 100000 in
theorem sp_M_presentBits_8 {X : Nat × (Nat → Int32)} (I : Nat → Nat → Int32) (P : Nat → Nat → Option Nat) : Wf X 90 [some (.ref 8)] (zH I P) (some (.int (f_M_presentBits 8 9 10 11 I))) (zH I P) := by
  unfold Wf
  refine wp_blk (pc' := 15) (L' := [some (.ref 8)]) (st' := [.int (((1 <<< ((I 8 3) &&& 31)) - 1) &&& ((I 8 4) ^^^ (-1)))]) (h' := zH I P) 11 rfl ?_
  exact wp_end rfl rfl ⟨rfl, rfl⟩
def g_M_setGone (m mk ml mt : Nat) (I : Nat → Nat → Int32) (b : Int32) : Nat → Nat → Int32 := (zui I m 4 b)
set_option maxRecDepth 100000 in
theorem sp_M_setGone_4 {X : Nat × (Nat → Int32)} (I : Nat → Nat → Int32) (P : Nat → Nat → Option Nat) (b : Int32) : Wf X 72 [some (.ref 4), some (.int b)] (zH I P) none (zH (g_M_setGone 4 5 6 7 I b) P) := by
  unfold Wf
  refine wp_blk (pc' := 5) (L' := [some (.ref 4), some (.int b)]) (st' := []) (h' := zH (zui I 4 4 b) P) 3 rfl ?_
  exact wp_end rfl rfl ⟨rfl, rfl⟩
set_option maxRecDepth 100000 in
theorem sp_M_setGone_8 {X : Nat × (Nat → Int32)} (I : Nat → Nat → Int32) (P : Nat → Nat → Option Nat) (b : Int32) : Wf X 72 [some (.ref 8), some (.int b)] (zH I P) none (zH (g_M_setGone 8 9 10 11 I b) P) := by
  unfold Wf
  refine wp_blk (pc' := 5) (L' := [some (.ref 8), some (.int b)]) (st' := []) (h' := zH (zui I 8 4 b) P) 3 rfl ?_
  exact wp_end rfl rfl ⟨rfl, rfl⟩
def f_M_wordOf (m mk ml mt : Nat) (I : Nat → Nat → Int32) (i j : Int32) : Int32 := if (i * 6) + j < 0 then 3 else (if Int32.ofNat 36 ≤ (i * 6) + j then 3 else (I mt (((i * 6) + j).toNatClampNeg)))
set_option maxRecDepth 100000 in
theorem sp_M_wordOf_4 {X : Nat × (Nat → Int32)} (I : Nat → Nat → Int32) (P : Nat → Nat → Option Nat) (i j : Int32) : Wf X 48 [some (.ref 4), some (.int i), some (.int j), none] (zH I P) (some (.int (f_M_wordOf 4 5 6 7 I i j))) (zH I P) := by
  unfold Wf
  refine wp_blk (pc' := 8) (L' := [some (.ref 4), some (.int i), some (.int j), some (.int ((i * 6) + j))]) (st' := [.int ((i * 6) + j)]) (h' := zH I P) 7 rfl ?_
  refine wp_lt (a := (i * 6) + j) (b := 0) (s1 := (29, [some (.ref 4), some (.int i), some (.int j), some (.int ((i * 6) + j))], [], zH I P)) (s2 := (11, [some (.ref 4), some (.int i), some (.int j), some (.int ((i * 6) + j))], [], zH I P)) rfl (fun c1 => ?_) (fun c1 => ?_)
  · refine wp_blk (pc' := 30) (L' := [some (.ref 4), some (.int i), some (.int j), some (.int ((i * 6) + j))]) (st' := [.int 3]) (h' := zH I P) 1 rfl ?_
    exact wp_end rfl rfl ⟨by rw [f_M_wordOf, if_pos c1], rfl⟩
  · refine wp_blk (pc' := 17) (L' := [some (.ref 4), some (.int i), some (.int j), some (.int ((i * 6) + j))]) (st' := [.int (Int32.ofNat 36), .int ((i * 6) + j)]) (h' := zH I P) 4 rfl ?_
    refine wp_ge (a := (i * 6) + j) (b := Int32.ofNat 36) (s1 := (29, [some (.ref 4), some (.int i), some (.int j), some (.int ((i * 6) + j))], [], zH I P)) (s2 := (20, [some (.ref 4), some (.int i), some (.int j), some (.int ((i * 6) + j))], [], zH I P)) rfl (fun c2 => ?_) (fun c2 => ?_)
    · refine wp_blk (pc' := 30) (L' := [some (.ref 4), some (.int i), some (.int j), some (.int ((i * 6) + j))]) (st' := [.int 3]) (h' := zH I P) 1 rfl ?_
      exact wp_end rfl rfl ⟨by rw [f_M_wordOf, if_neg c1, if_pos c2], rfl⟩
    · refine wp_blk (pc' := 25) (L' := [some (.ref 4), some (.int i), some (.int j), some (.int ((i * 6) + j))]) (st' := [.int ((i * 6) + j), .ref 7]) (h' := zH I P) 3 rfl ?_
      refine wp_chk (P := zinb ((i * 6) + j) 36 = true) (pc' := 26) (L' := [some (.ref 4), some (.int i), some (.int j), some (.int ((i * 6) + j))]) (st' := [.int (I 7 (((i * 6) + j).toNatClampNeg))]) (h' := zH I P) rfl (by exact zinb_a (by assumption) (by assumption)) ?_
      refine wp_blk (pc' := 30) (L' := [some (.ref 4), some (.int i), some (.int j), some (.int ((i * 6) + j))]) (st' := [.int (I 7 (((i * 6) + j).toNatClampNeg))]) (h' := zH I P) 1 rfl ?_
      exact wp_end rfl rfl ⟨by rw [f_M_wordOf, if_neg c1, if_neg c2], rfl⟩
set_option maxRecDepth 100000 in
theorem sp_M_wordOf_8 {X : Nat × (Nat → Int32)} (I : Nat → Nat → Int32) (P : Nat → Nat → Option Nat) (i j : Int32) : Wf X 48 [some (.ref 8), some (.int i), some (.int j), none] (zH I P) (some (.int (f_M_wordOf 8 9 10 11 I i j))) (zH I P) := by
  unfold Wf
  refine wp_blk (pc' := 8) (L' := [some (.ref 8), some (.int i), some (.int j), some (.int ((i * 6) + j))]) (st' := [.int ((i * 6) + j)]) (h' := zH I P) 7 rfl ?_
  refine wp_lt (a := (i * 6) + j) (b := 0) (s1 := (29, [some (.ref 8), some (.int i), some (.int j), some (.int ((i * 6) + j))], [], zH I P)) (s2 := (11, [some (.ref 8), some (.int i), some (.int j), some (.int ((i * 6) + j))], [], zH I P)) rfl (fun c1 => ?_) (fun c1 => ?_)
  · refine wp_blk (pc' := 30) (L' := [some (.ref 8), some (.int i), some (.int j), some (.int ((i * 6) + j))]) (st' := [.int 3]) (h' := zH I P) 1 rfl ?_
    exact wp_end rfl rfl ⟨by rw [f_M_wordOf, if_pos c1], rfl⟩
  · refine wp_blk (pc' := 17) (L' := [some (.ref 8), some (.int i), some (.int j), some (.int ((i * 6) + j))]) (st' := [.int (Int32.ofNat 36), .int ((i * 6) + j)]) (h' := zH I P) 4 rfl ?_
    refine wp_ge (a := (i * 6) + j) (b := Int32.ofNat 36) (s1 := (29, [some (.ref 8), some (.int i), some (.int j), some (.int ((i * 6) + j))], [], zH I P)) (s2 := (20, [some (.ref 8), some (.int i), some (.int j), some (.int ((i * 6) + j))], [], zH I P)) rfl (fun c2 => ?_) (fun c2 => ?_)
    · refine wp_blk (pc' := 30) (L' := [some (.ref 8), some (.int i), some (.int j), some (.int ((i * 6) + j))]) (st' := [.int 3]) (h' := zH I P) 1 rfl ?_
      exact wp_end rfl rfl ⟨by rw [f_M_wordOf, if_neg c1, if_pos c2], rfl⟩
    · refine wp_blk (pc' := 25) (L' := [some (.ref 8), some (.int i), some (.int j), some (.int ((i * 6) + j))]) (st' := [.int ((i * 6) + j), .ref 11]) (h' := zH I P) 3 rfl ?_
      refine wp_chk (P := zinb ((i * 6) + j) 36 = true) (pc' := 26) (L' := [some (.ref 8), some (.int i), some (.int j), some (.int ((i * 6) + j))]) (st' := [.int (I 11 (((i * 6) + j).toNatClampNeg))]) (h' := zH I P) rfl (by exact zinb_a (by assumption) (by assumption)) ?_
      refine wp_blk (pc' := 30) (L' := [some (.ref 8), some (.int i), some (.int j), some (.int ((i * 6) + j))]) (st' := [.int (I 11 (((i * 6) + j).toNatClampNeg))]) (h' := zH I P) 1 rfl ?_
      exact wp_end rfl rfl ⟨by rw [f_M_wordOf, if_neg c1, if_neg c2], rfl⟩
def g_M_setWord (m mk ml mt : Nat) (I : Nat → Nat → Int32) (i j v : Int32) : Nat → Nat → Int32 := if (i * 6) + j < 0 then I else (if Int32.ofNat 36 ≤ (i * 6) + j then I else (zui I mt (((i * 6) + j).toNatClampNeg) v))
set_option maxRecDepth 100000 in
theorem sp_M_setWord_4 {X : Nat × (Nat → Int32)} (I : Nat → Nat → Int32) (P : Nat → Nat → Option Nat) (i j v : Int32) : Wf X 26 [some (.ref 4), some (.int i), some (.int j), some (.int v), none] (zH I P) none (zH (g_M_setWord 4 5 6 7 I i j v) P) := by
  unfold Wf
  refine wp_blk (pc' := 10) (L' := [some (.ref 4), some (.int i), some (.int j), some (.int v), some (.int ((i * 6) + j))]) (st' := [.int ((i * 6) + j)]) (h' := zH I P) 7 rfl ?_
  refine wp_lt (a := (i * 6) + j) (b := 0) (s1 := (31, [some (.ref 4), some (.int i), some (.int j), some (.int v), some (.int ((i * 6) + j))], [], zH I P)) (s2 := (13, [some (.ref 4), some (.int i), some (.int j), some (.int v), some (.int ((i * 6) + j))], [], zH I P)) rfl (fun c1 => ?_) (fun c1 => ?_)
  · exact wp_end rfl rfl ⟨rfl, by rw [g_M_setWord, if_pos c1]⟩
  · refine wp_blk (pc' := 20) (L' := [some (.ref 4), some (.int i), some (.int j), some (.int v), some (.int ((i * 6) + j))]) (st' := [.int (Int32.ofNat 36), .int ((i * 6) + j)]) (h' := zH I P) 4 rfl ?_
    refine wp_ge (a := (i * 6) + j) (b := Int32.ofNat 36) (s1 := (31, [some (.ref 4), some (.int i), some (.int j), some (.int v), some (.int ((i * 6) + j))], [], zH I P)) (s2 := (23, [some (.ref 4), some (.int i), some (.int j), some (.int v), some (.int ((i * 6) + j))], [], zH I P)) rfl (fun c2 => ?_) (fun c2 => ?_)
    · exact wp_end rfl rfl ⟨rfl, by rw [g_M_setWord, if_neg c1, if_pos c2]⟩
    · refine wp_blk (pc' := 30) (L' := [some (.ref 4), some (.int i), some (.int j), some (.int v), some (.int ((i * 6) + j))]) (st' := [.int v, .int ((i * 6) + j), .ref 7]) (h' := zH I P) 4 rfl ?_
      refine wp_chk (P := zinb ((i * 6) + j) 36 = true) (pc' := 31) (L' := [some (.ref 4), some (.int i), some (.int j), some (.int v), some (.int ((i * 6) + j))]) (st' := []) (h' := zH (zui I 7 (((i * 6) + j).toNatClampNeg) v) P) rfl (by exact zinb_a (by assumption) (by assumption)) ?_
      exact wp_end rfl rfl ⟨rfl, by rw [g_M_setWord, if_neg c1, if_neg c2]⟩
set_option maxRecDepth 100000 in
theorem sp_M_setWord_4_G {X : Nat × (Nat → Int32)} (I : Nat → Nat → Int32) (P : Nat → Nat → Option Nat) (i j v : Int32) : Wf X 26 [some (.ref 4), some (.int i), some (.int j), some (.int v), none] (zG I P) none (zG (g_M_setWord 4 5 6 7 I i j v) P) := by
  unfold Wf
  refine wp_blk (pc' := 10) (L' := [some (.ref 4), some (.int i), some (.int j), some (.int v), some (.int ((i * 6) + j))]) (st' := [.int ((i * 6) + j)]) (h' := zG I P) 7 rfl ?_
  refine wp_lt (a := (i * 6) + j) (b := 0) (s1 := (31, [some (.ref 4), some (.int i), some (.int j), some (.int v), some (.int ((i * 6) + j))], [], zG I P)) (s2 := (13, [some (.ref 4), some (.int i), some (.int j), some (.int v), some (.int ((i * 6) + j))], [], zG I P)) rfl (fun c1 => ?_) (fun c1 => ?_)
  · exact wp_end rfl rfl ⟨rfl, by rw [g_M_setWord, if_pos c1]⟩
  · refine wp_blk (pc' := 20) (L' := [some (.ref 4), some (.int i), some (.int j), some (.int v), some (.int ((i * 6) + j))]) (st' := [.int (Int32.ofNat 36), .int ((i * 6) + j)]) (h' := zG I P) 4 rfl ?_
    refine wp_ge (a := (i * 6) + j) (b := Int32.ofNat 36) (s1 := (31, [some (.ref 4), some (.int i), some (.int j), some (.int v), some (.int ((i * 6) + j))], [], zG I P)) (s2 := (23, [some (.ref 4), some (.int i), some (.int j), some (.int v), some (.int ((i * 6) + j))], [], zG I P)) rfl (fun c2 => ?_) (fun c2 => ?_)
    · exact wp_end rfl rfl ⟨rfl, by rw [g_M_setWord, if_neg c1, if_pos c2]⟩
    · refine wp_blk (pc' := 30) (L' := [some (.ref 4), some (.int i), some (.int j), some (.int v), some (.int ((i * 6) + j))]) (st' := [.int v, .int ((i * 6) + j), .ref 7]) (h' := zG I P) 4 rfl ?_
      refine wp_chk (P := zinb ((i * 6) + j) 36 = true) (pc' := 31) (L' := [some (.ref 4), some (.int i), some (.int j), some (.int v), some (.int ((i * 6) + j))]) (st' := []) (h' := zG (zui I 7 (((i * 6) + j).toNatClampNeg) v) P) rfl (by exact zinb_a (by assumption) (by assumption)) ?_
      exact wp_end rfl rfl ⟨rfl, by rw [g_M_setWord, if_neg c1, if_neg c2]⟩
set_option maxRecDepth 100000 in
theorem sp_M_setWord_8 {X : Nat × (Nat → Int32)} (I : Nat → Nat → Int32) (P : Nat → Nat → Option Nat) (i j v : Int32) : Wf X 26 [some (.ref 8), some (.int i), some (.int j), some (.int v), none] (zH I P) none (zH (g_M_setWord 8 9 10 11 I i j v) P) := by
  unfold Wf
  refine wp_blk (pc' := 10) (L' := [some (.ref 8), some (.int i), some (.int j), some (.int v), some (.int ((i * 6) + j))]) (st' := [.int ((i * 6) + j)]) (h' := zH I P) 7 rfl ?_
  refine wp_lt (a := (i * 6) + j) (b := 0) (s1 := (31, [some (.ref 8), some (.int i), some (.int j), some (.int v), some (.int ((i * 6) + j))], [], zH I P)) (s2 := (13, [some (.ref 8), some (.int i), some (.int j), some (.int v), some (.int ((i * 6) + j))], [], zH I P)) rfl (fun c1 => ?_) (fun c1 => ?_)
  · exact wp_end rfl rfl ⟨rfl, by rw [g_M_setWord, if_pos c1]⟩
  · refine wp_blk (pc' := 20) (L' := [some (.ref 8), some (.int i), some (.int j), some (.int v), some (.int ((i * 6) + j))]) (st' := [.int (Int32.ofNat 36), .int ((i * 6) + j)]) (h' := zH I P) 4 rfl ?_
    refine wp_ge (a := (i * 6) + j) (b := Int32.ofNat 36) (s1 := (31, [some (.ref 8), some (.int i), some (.int j), some (.int v), some (.int ((i * 6) + j))], [], zH I P)) (s2 := (23, [some (.ref 8), some (.int i), some (.int j), some (.int v), some (.int ((i * 6) + j))], [], zH I P)) rfl (fun c2 => ?_) (fun c2 => ?_)
    · exact wp_end rfl rfl ⟨rfl, by rw [g_M_setWord, if_neg c1, if_pos c2]⟩
    · refine wp_blk (pc' := 30) (L' := [some (.ref 8), some (.int i), some (.int j), some (.int v), some (.int ((i * 6) + j))]) (st' := [.int v, .int ((i * 6) + j), .ref 11]) (h' := zH I P) 4 rfl ?_
      refine wp_chk (P := zinb ((i * 6) + j) 36 = true) (pc' := 31) (L' := [some (.ref 8), some (.int i), some (.int j), some (.int v), some (.int ((i * 6) + j))]) (st' := []) (h' := zH (zui I 11 (((i * 6) + j).toNatClampNeg) v) P) rfl (by exact zinb_a (by assumption) (by assumption)) ?_
      exact wp_end rfl rfl ⟨rfl, by rw [g_M_setWord, if_neg c1, if_neg c2]⟩
set_option maxRecDepth 100000 in
theorem sp_M_setWord_8_G {X : Nat × (Nat → Int32)} (I : Nat → Nat → Int32) (P : Nat → Nat → Option Nat) (i j v : Int32) : Wf X 26 [some (.ref 8), some (.int i), some (.int j), some (.int v), none] (zG I P) none (zG (g_M_setWord 8 9 10 11 I i j v) P) := by
  unfold Wf
  refine wp_blk (pc' := 10) (L' := [some (.ref 8), some (.int i), some (.int j), some (.int v), some (.int ((i * 6) + j))]) (st' := [.int ((i * 6) + j)]) (h' := zG I P) 7 rfl ?_
  refine wp_lt (a := (i * 6) + j) (b := 0) (s1 := (31, [some (.ref 8), some (.int i), some (.int j), some (.int v), some (.int ((i * 6) + j))], [], zG I P)) (s2 := (13, [some (.ref 8), some (.int i), some (.int j), some (.int v), some (.int ((i * 6) + j))], [], zG I P)) rfl (fun c1 => ?_) (fun c1 => ?_)
  · exact wp_end rfl rfl ⟨rfl, by rw [g_M_setWord, if_pos c1]⟩
  · refine wp_blk (pc' := 20) (L' := [some (.ref 8), some (.int i), some (.int j), some (.int v), some (.int ((i * 6) + j))]) (st' := [.int (Int32.ofNat 36), .int ((i * 6) + j)]) (h' := zG I P) 4 rfl ?_
    refine wp_ge (a := (i * 6) + j) (b := Int32.ofNat 36) (s1 := (31, [some (.ref 8), some (.int i), some (.int j), some (.int v), some (.int ((i * 6) + j))], [], zG I P)) (s2 := (23, [some (.ref 8), some (.int i), some (.int j), some (.int v), some (.int ((i * 6) + j))], [], zG I P)) rfl (fun c2 => ?_) (fun c2 => ?_)
    · exact wp_end rfl rfl ⟨rfl, by rw [g_M_setWord, if_neg c1, if_pos c2]⟩
    · refine wp_blk (pc' := 30) (L' := [some (.ref 8), some (.int i), some (.int j), some (.int v), some (.int ((i * 6) + j))]) (st' := [.int v, .int ((i * 6) + j), .ref 11]) (h' := zG I P) 4 rfl ?_
      refine wp_chk (P := zinb ((i * 6) + j) 36 = true) (pc' := 31) (L' := [some (.ref 8), some (.int i), some (.int j), some (.int v), some (.int ((i * 6) + j))]) (st' := []) (h' := zG (zui I 11 (((i * 6) + j).toNatClampNeg) v) P) rfl (by exact zinb_a (by assumption) (by assumption)) ?_
      exact wp_end rfl rfl ⟨rfl, by rw [g_M_setWord, if_neg c1, if_neg c2]⟩
def f_M_whoAt (m mk ml mt : Nat) (I : Nat → Nat → Int32) (p : Int32) : Int32 := if p < 0 then (-1) else (if I m 3 ≤ p then (-1) else (if Int32.ofNat 6 ≤ p then (-1) else (I ml p.toNatClampNeg)))
set_option maxRecDepth 100000 in
theorem sp_M_whoAt_4 {X : Nat × (Nat → Int32)} (I : Nat → Nat → Int32) (P : Nat → Nat → Option Nat) (p : Int32) : Wf X 43 [some (.ref 4), some (.int p)] (zH I P) (some (.int (f_M_whoAt 4 5 6 7 I p))) (zH I P) := by
  unfold Wf
  refine wp_blk (pc' := 1) (L' := [some (.ref 4), some (.int p)]) (st' := [.int p]) (h' := zH I P) 1 rfl ?_
  refine wp_lt (a := p) (b := 0) (s1 := (30, [some (.ref 4), some (.int p)], [], zH I P)) (s2 := (4, [some (.ref 4), some (.int p)], [], zH I P)) rfl (fun c1 => ?_) (fun c1 => ?_)
  · refine wp_blk (pc' := 31) (L' := [some (.ref 4), some (.int p)]) (st' := [.int (-1)]) (h' := zH I P) 1 rfl ?_
    exact wp_end rfl rfl ⟨by rw [f_M_whoAt, if_pos c1], rfl⟩
  · refine wp_blk (pc' := 9) (L' := [some (.ref 4), some (.int p)]) (st' := [.int (I 4 3), .int p]) (h' := zH I P) 3 rfl ?_
    refine wp_ge (a := p) (b := I 4 3) (s1 := (30, [some (.ref 4), some (.int p)], [], zH I P)) (s2 := (12, [some (.ref 4), some (.int p)], [], zH I P)) rfl (fun c2 => ?_) (fun c2 => ?_)
    · refine wp_blk (pc' := 31) (L' := [some (.ref 4), some (.int p)]) (st' := [.int (-1)]) (h' := zH I P) 1 rfl ?_
      exact wp_end rfl rfl ⟨by rw [f_M_whoAt, if_neg c1, if_pos c2], rfl⟩
    · refine wp_blk (pc' := 18) (L' := [some (.ref 4), some (.int p)]) (st' := [.int (Int32.ofNat 6), .int p]) (h' := zH I P) 4 rfl ?_
      refine wp_ge (a := p) (b := Int32.ofNat 6) (s1 := (30, [some (.ref 4), some (.int p)], [], zH I P)) (s2 := (21, [some (.ref 4), some (.int p)], [], zH I P)) rfl (fun c3 => ?_) (fun c3 => ?_)
      · refine wp_blk (pc' := 31) (L' := [some (.ref 4), some (.int p)]) (st' := [.int (-1)]) (h' := zH I P) 1 rfl ?_
        exact wp_end rfl rfl ⟨by rw [f_M_whoAt, if_neg c1, if_neg c2, if_pos c3], rfl⟩
      · refine wp_blk (pc' := 26) (L' := [some (.ref 4), some (.int p)]) (st' := [.int p, .ref 6]) (h' := zH I P) 3 rfl ?_
        refine wp_chk (P := zinb p 6 = true) (pc' := 27) (L' := [some (.ref 4), some (.int p)]) (st' := [.int (I 6 p.toNatClampNeg)]) (h' := zH I P) rfl (by exact zinb_a (by assumption) (by assumption)) ?_
        refine wp_blk (pc' := 31) (L' := [some (.ref 4), some (.int p)]) (st' := [.int (I 6 p.toNatClampNeg)]) (h' := zH I P) 1 rfl ?_
        exact wp_end rfl rfl ⟨by rw [f_M_whoAt, if_neg c1, if_neg c2, if_neg c3], rfl⟩
set_option maxRecDepth 100000 in
theorem sp_M_whoAt_8 {X : Nat × (Nat → Int32)} (I : Nat → Nat → Int32) (P : Nat → Nat → Option Nat) (p : Int32) : Wf X 43 [some (.ref 8), some (.int p)] (zH I P) (some (.int (f_M_whoAt 8 9 10 11 I p))) (zH I P) := by
  unfold Wf
  refine wp_blk (pc' := 1) (L' := [some (.ref 8), some (.int p)]) (st' := [.int p]) (h' := zH I P) 1 rfl ?_
  refine wp_lt (a := p) (b := 0) (s1 := (30, [some (.ref 8), some (.int p)], [], zH I P)) (s2 := (4, [some (.ref 8), some (.int p)], [], zH I P)) rfl (fun c1 => ?_) (fun c1 => ?_)
  · refine wp_blk (pc' := 31) (L' := [some (.ref 8), some (.int p)]) (st' := [.int (-1)]) (h' := zH I P) 1 rfl ?_
    exact wp_end rfl rfl ⟨by rw [f_M_whoAt, if_pos c1], rfl⟩
  · refine wp_blk (pc' := 9) (L' := [some (.ref 8), some (.int p)]) (st' := [.int (I 8 3), .int p]) (h' := zH I P) 3 rfl ?_
    refine wp_ge (a := p) (b := I 8 3) (s1 := (30, [some (.ref 8), some (.int p)], [], zH I P)) (s2 := (12, [some (.ref 8), some (.int p)], [], zH I P)) rfl (fun c2 => ?_) (fun c2 => ?_)
    · refine wp_blk (pc' := 31) (L' := [some (.ref 8), some (.int p)]) (st' := [.int (-1)]) (h' := zH I P) 1 rfl ?_
      exact wp_end rfl rfl ⟨by rw [f_M_whoAt, if_neg c1, if_pos c2], rfl⟩
    · refine wp_blk (pc' := 18) (L' := [some (.ref 8), some (.int p)]) (st' := [.int (Int32.ofNat 6), .int p]) (h' := zH I P) 4 rfl ?_
      refine wp_ge (a := p) (b := Int32.ofNat 6) (s1 := (30, [some (.ref 8), some (.int p)], [], zH I P)) (s2 := (21, [some (.ref 8), some (.int p)], [], zH I P)) rfl (fun c3 => ?_) (fun c3 => ?_)
      · refine wp_blk (pc' := 31) (L' := [some (.ref 8), some (.int p)]) (st' := [.int (-1)]) (h' := zH I P) 1 rfl ?_
        exact wp_end rfl rfl ⟨by rw [f_M_whoAt, if_neg c1, if_neg c2, if_pos c3], rfl⟩
      · refine wp_blk (pc' := 26) (L' := [some (.ref 8), some (.int p)]) (st' := [.int p, .ref 10]) (h' := zH I P) 3 rfl ?_
        refine wp_chk (P := zinb p 6 = true) (pc' := 27) (L' := [some (.ref 8), some (.int p)]) (st' := [.int (I 10 p.toNatClampNeg)]) (h' := zH I P) rfl (by exact zinb_a (by assumption) (by assumption)) ?_
        refine wp_blk (pc' := 31) (L' := [some (.ref 8), some (.int p)]) (st' := [.int (I 10 p.toNatClampNeg)]) (h' := zH I P) 1 rfl ?_
        exact wp_end rfl rfl ⟨by rw [f_M_whoAt, if_neg c1, if_neg c2, if_neg c3], rfl⟩
def f_M_stoneNow (m mk ml mt : Nat) (I : Nat → Nat → Int32) : Int32 := I m 5
set_option maxRecDepth 100000 in
theorem sp_M_stoneNow_4 {X : Nat × (Nat → Int32)} (I : Nat → Nat → Int32) (P : Nat → Nat → Option Nat) : Wf X 54 [some (.ref 4)] (zH I P) (some (.int (f_M_stoneNow 4 5 6 7 I))) (zH I P) := by
  unfold Wf
  refine wp_blk (pc' := 4) (L' := [some (.ref 4)]) (st' := [.int (I 4 5)]) (h' := zH I P) 2 rfl ?_
  exact wp_end rfl rfl ⟨rfl, rfl⟩
set_option maxRecDepth 100000 in
theorem sp_M_stoneNow_8 {X : Nat × (Nat → Int32)} (I : Nat → Nat → Int32) (P : Nat → Nat → Option Nat) : Wf X 54 [some (.ref 8)] (zH I P) (some (.int (f_M_stoneNow 8 9 10 11 I))) (zH I P) := by
  unfold Wf
  refine wp_blk (pc' := 4) (L' := [some (.ref 8)]) (st' := [.int (I 8 5)]) (h' := zH I P) 2 rfl ?_
  exact wp_end rfl rfl ⟨rfl, rfl⟩
def f_M_daysGone (m mk ml mt : Nat) (I : Nat → Nat → Int32) : Int32 := I m 6
set_option maxRecDepth 100000 in
theorem sp_M_daysGone_4 {X : Nat × (Nat → Int32)} (I : Nat → Nat → Int32) (P : Nat → Nat → Option Nat) : Wf X 77 [some (.ref 4)] (zH I P) (some (.int (f_M_daysGone 4 5 6 7 I))) (zH I P) := by
  unfold Wf
  refine wp_blk (pc' := 4) (L' := [some (.ref 4)]) (st' := [.int (I 4 6)]) (h' := zH I P) 2 rfl ?_
  exact wp_end rfl rfl ⟨rfl, rfl⟩
set_option maxRecDepth 100000 in
theorem sp_M_daysGone_8 {X : Nat × (Nat → Int32)} (I : Nat → Nat → Int32) (P : Nat → Nat → Option Nat) : Wf X 77 [some (.ref 8)] (zH I P) (some (.int (f_M_daysGone 8 9 10 11 I))) (zH I P) := by
  unfold Wf
  refine wp_blk (pc' := 4) (L' := [some (.ref 8)]) (st' := [.int (I 8 6)]) (h' := zH I P) 2 rfl ?_
  exact wp_end rfl rfl ⟨rfl, rfl⟩
def g_M_endDay (m mk ml mt : Nat) (I : Nat → Nat → Int32) (v : Int32) : Nat → Nat → Int32 := (zui (zui I m 5 v) m 6 ((I m 6) + 1))
set_option maxRecDepth 100000 in
theorem sp_M_endDay_4 {X : Nat × (Nat → Int32)} (I : Nat → Nat → Int32) (P : Nat → Nat → Option Nat) (v : Int32) : Wf X 76 [some (.ref 4), some (.int v)] (zH I P) none (zH (g_M_endDay 4 5 6 7 I v) P) := by
  unfold Wf
  refine wp_blk (pc' := 15) (L' := [some (.ref 4), some (.int v)]) (st' := []) (h' := zH (zui (zui I 4 5 v) 4 6 ((I 4 6) + 1)) P) 9 rfl ?_
  exact wp_end rfl rfl ⟨rfl, rfl⟩
set_option maxRecDepth 100000 in
theorem sp_M_endDay_8 {X : Nat × (Nat → Int32)} (I : Nat → Nat → Int32) (P : Nat → Nat → Option Nat) (v : Int32) : Wf X 76 [some (.ref 8), some (.int v)] (zH I P) none (zH (g_M_endDay 8 9 10 11 I v) P) := by
  unfold Wf
  refine wp_blk (pc' := 15) (L' := [some (.ref 8), some (.int v)]) (st' := []) (h' := zH (zui (zui I 8 5 v) 8 6 ((I 8 6) + 1)) P) 9 rfl ?_
  exact wp_end rfl rfl ⟨rfl, rfl⟩
def f_R_size (I : Nat → Nat → Int32) : Int32 := I 12 2
set_option maxRecDepth 100000 in
theorem sp_R_size {X : Nat × (Nat → Int32)} (I : Nat → Nat → Int32) (P : Nat → Nat → Option Nat) : Wf X 88 [some (.ref 12)] (zH I P) (some (.int (f_R_size I))) (zH I P) := by
  unfold Wf
  refine wp_blk (pc' := 4) (L' := [some (.ref 12)]) (st' := [.int (I 12 2)]) (h' := zH I P) 2 rfl ?_
  exact wp_end rfl rfl ⟨rfl, rfl⟩
def f_R_stoneThen (I : Nat → Nat → Int32) : Int32 := I 12 4
set_option maxRecDepth 100000 in
theorem sp_R_stoneThen {X : Nat × (Nat → Int32)} (I : Nat → Nat → Int32) (P : Nat → Nat → Option Nat) : Wf X 75 [some (.ref 12)] (zH I P) (some (.int (f_R_stoneThen I))) (zH I P) := by
  unfold Wf
  refine wp_blk (pc' := 4) (L' := [some (.ref 12)]) (st' := [.int (I 12 4)]) (h' := zH I P) 2 rfl ?_
  exact wp_end rfl rfl ⟨rfl, rfl⟩
def f_R_fineOf (I : Nat → Nat → Int32) (c : Int32) : Int32 := if c < 0 then (-4) else (if Int32.ofNat 6 ≤ c then (-4) else (I 14 c.toNatClampNeg))
set_option maxRecDepth 100000 in
theorem sp_R_fineOf {X : Nat × (Nat → Int32)} (I : Nat → Nat → Int32) (P : Nat → Nat → Option Nat) (c : Int32) : Wf X 63 [some (.ref 12), some (.int c)] (zH I P) (some (.int (f_R_fineOf I c))) (zH I P) := by
  unfold Wf
  refine wp_blk (pc' := 1) (L' := [some (.ref 12), some (.int c)]) (st' := [.int c]) (h' := zH I P) 1 rfl ?_
  refine wp_lt (a := c) (b := 0) (s1 := (22, [some (.ref 12), some (.int c)], [], zH I P)) (s2 := (4, [some (.ref 12), some (.int c)], [], zH I P)) rfl (fun c1 => ?_) (fun c1 => ?_)
  · refine wp_blk (pc' := 24) (L' := [some (.ref 12), some (.int c)]) (st' := [.int (-4)]) (h' := zH I P) 1 rfl ?_
    exact wp_end rfl rfl ⟨by rw [f_R_fineOf, if_pos c1], rfl⟩
  · refine wp_blk (pc' := 10) (L' := [some (.ref 12), some (.int c)]) (st' := [.int (Int32.ofNat 6), .int c]) (h' := zH I P) 4 rfl ?_
    refine wp_ge (a := c) (b := Int32.ofNat 6) (s1 := (22, [some (.ref 12), some (.int c)], [], zH I P)) (s2 := (13, [some (.ref 12), some (.int c)], [], zH I P)) rfl (fun c2 => ?_) (fun c2 => ?_)
    · refine wp_blk (pc' := 24) (L' := [some (.ref 12), some (.int c)]) (st' := [.int (-4)]) (h' := zH I P) 1 rfl ?_
      exact wp_end rfl rfl ⟨by rw [f_R_fineOf, if_neg c1, if_pos c2], rfl⟩
    · refine wp_blk (pc' := 18) (L' := [some (.ref 12), some (.int c)]) (st' := [.int c, .ref 14]) (h' := zH I P) 3 rfl ?_
      refine wp_chk (P := zinb c 6 = true) (pc' := 19) (L' := [some (.ref 12), some (.int c)]) (st' := [.int (I 14 c.toNatClampNeg)]) (h' := zH I P) rfl (by exact zinb_a (by assumption) (by assumption)) ?_
      refine wp_blk (pc' := 24) (L' := [some (.ref 12), some (.int c)]) (st' := [.int (I 14 c.toNatClampNeg)]) (h' := zH I P) 1 rfl ?_
      exact wp_end rfl rfl ⟨by rw [f_R_fineOf, if_neg c1, if_neg c2], rfl⟩
def f_R_whoIn (I : Nat → Nat → Int32) (p : Int32) : Int32 := if p < 0 then (-1) else (if Int32.ofNat 6 ≤ p then (-1) else (I 13 p.toNatClampNeg))
set_option maxRecDepth 100000 in
theorem sp_R_whoIn {X : Nat × (Nat → Int32)} (I : Nat → Nat → Int32) (P : Nat → Nat → Option Nat) (p : Int32) : Wf X 56 [some (.ref 12), some (.int p)] (zH I P) (some (.int (f_R_whoIn I p))) (zH I P) := by
  unfold Wf
  refine wp_blk (pc' := 1) (L' := [some (.ref 12), some (.int p)]) (st' := [.int p]) (h' := zH I P) 1 rfl ?_
  refine wp_lt (a := p) (b := 0) (s1 := (22, [some (.ref 12), some (.int p)], [], zH I P)) (s2 := (4, [some (.ref 12), some (.int p)], [], zH I P)) rfl (fun c1 => ?_) (fun c1 => ?_)
  · refine wp_blk (pc' := 23) (L' := [some (.ref 12), some (.int p)]) (st' := [.int (-1)]) (h' := zH I P) 1 rfl ?_
    exact wp_end rfl rfl ⟨by rw [f_R_whoIn, if_pos c1], rfl⟩
  · refine wp_blk (pc' := 10) (L' := [some (.ref 12), some (.int p)]) (st' := [.int (Int32.ofNat 6), .int p]) (h' := zH I P) 4 rfl ?_
    refine wp_ge (a := p) (b := Int32.ofNat 6) (s1 := (22, [some (.ref 12), some (.int p)], [], zH I P)) (s2 := (13, [some (.ref 12), some (.int p)], [], zH I P)) rfl (fun c2 => ?_) (fun c2 => ?_)
    · refine wp_blk (pc' := 23) (L' := [some (.ref 12), some (.int p)]) (st' := [.int (-1)]) (h' := zH I P) 1 rfl ?_
      exact wp_end rfl rfl ⟨by rw [f_R_whoIn, if_neg c1, if_pos c2], rfl⟩
    · refine wp_blk (pc' := 18) (L' := [some (.ref 12), some (.int p)]) (st' := [.int p, .ref 13]) (h' := zH I P) 3 rfl ?_
      refine wp_chk (P := zinb p 6 = true) (pc' := 19) (L' := [some (.ref 12), some (.int p)]) (st' := [.int (I 13 p.toNatClampNeg)]) (h' := zH I P) rfl (by exact zinb_a (by assumption) (by assumption)) ?_
      refine wp_blk (pc' := 23) (L' := [some (.ref 12), some (.int p)]) (st' := [.int (I 13 p.toNatClampNeg)]) (h' := zH I P) 1 rfl ?_
      exact wp_end rfl rfl ⟨by rw [f_R_whoIn, if_neg c1, if_neg c2], rfl⟩
def g_R_hand (I : Nat → Nat → Int32) (c f : Int32) : Nat → Nat → Int32 := if c < 0 then I else (if Int32.ofNat 6 ≤ c then I else (zui I 14 c.toNatClampNeg f))
set_option maxRecDepth 100000 in
theorem sp_R_hand {X : Nat × (Nat → Int32)} (I : Nat → Nat → Int32) (P : Nat → Nat → Option Nat) (c f : Int32) : Wf X 60 [some (.ref 12), some (.int c), some (.int f)] (zH I P) none (zH (g_R_hand I c f) P) := by
  unfold Wf
  refine wp_blk (pc' := 1) (L' := [some (.ref 12), some (.int c), some (.int f)]) (st' := [.int c]) (h' := zH I P) 1 rfl ?_
  refine wp_lt (a := c) (b := 0) (s1 := (20, [some (.ref 12), some (.int c), some (.int f)], [], zH I P)) (s2 := (4, [some (.ref 12), some (.int c), some (.int f)], [], zH I P)) rfl (fun c1 => ?_) (fun c1 => ?_)
  · exact wp_end rfl rfl ⟨rfl, by rw [g_R_hand, if_pos c1]⟩
  · refine wp_blk (pc' := 10) (L' := [some (.ref 12), some (.int c), some (.int f)]) (st' := [.int (Int32.ofNat 6), .int c]) (h' := zH I P) 4 rfl ?_
    refine wp_ge (a := c) (b := Int32.ofNat 6) (s1 := (20, [some (.ref 12), some (.int c), some (.int f)], [], zH I P)) (s2 := (13, [some (.ref 12), some (.int c), some (.int f)], [], zH I P)) rfl (fun c2 => ?_) (fun c2 => ?_)
    · exact wp_end rfl rfl ⟨rfl, by rw [g_R_hand, if_neg c1, if_pos c2]⟩
    · refine wp_blk (pc' := 19) (L' := [some (.ref 12), some (.int c), some (.int f)]) (st' := [.int f, .int c, .ref 14]) (h' := zH I P) 4 rfl ?_
      refine wp_chk (P := zinb c 6 = true) (pc' := 20) (L' := [some (.ref 12), some (.int c), some (.int f)]) (st' := []) (h' := zH (zui I 14 c.toNatClampNeg f) P) rfl (by exact zinb_a (by assumption) (by assumption)) ?_
      exact wp_end rfl rfl ⟨rfl, by rw [g_R_hand, if_neg c1, if_neg c2]⟩
def g_R_wear (I : Nat → Nat → Int32) (f : Int32) : Nat → Nat → Int32 := if f ≤ I 12 4 then (if I 12 4 ≤ f then I else (zui I 12 4 ((I 12 4) - 1))) else (zui I 12 4 ((I 12 4) + 1))
set_option maxRecDepth 100000 in
theorem sp_R_wear {X : Nat × (Nat → Int32)} (I : Nat → Nat → Int32) (P : Nat → Nat → Option Nat) (f : Int32) : Wf X 61 [some (.ref 12), some (.int f)] (zH I P) none (zH (g_R_wear I f) P) := by
  unfold Wf
  refine wp_blk (pc' := 5) (L' := [some (.ref 12), some (.int f)]) (st' := [.int (I 12 4), .int f]) (h' := zH I P) 3 rfl ?_
  refine wp_le (a := f) (b := I 12 4) (s1 := (21, [some (.ref 12), some (.int f)], [], zH I P)) (s2 := (8, [some (.ref 12), some (.int f)], [], zH I P)) rfl (fun c1 => ?_) (fun c1 => ?_)
  · refine wp_blk (pc' := 26) (L' := [some (.ref 12), some (.int f)]) (st' := [.int (I 12 4), .int f]) (h' := zH I P) 3 rfl ?_
    refine wp_ge (a := f) (b := I 12 4) (s1 := (39, [some (.ref 12), some (.int f)], [], zH I P)) (s2 := (29, [some (.ref 12), some (.int f)], [], zH I P)) rfl (fun c2 => ?_) (fun c2 => ?_)
    · exact wp_end rfl rfl ⟨rfl, by rw [g_R_wear, if_pos c1, if_pos c2]⟩
    · refine wp_blk (pc' := 39) (L' := [some (.ref 12), some (.int f)]) (st' := []) (h' := zH (zui I 12 4 ((I 12 4) - 1)) P) 6 rfl ?_
      exact wp_end rfl rfl ⟨rfl, by rw [g_R_wear, if_pos c1, if_neg c2]⟩
  · refine wp_blk (pc' := 39) (L' := [some (.ref 12), some (.int f)]) (st' := []) (h' := zH (zui I 12 4 ((I 12 4) + 1)) P) 7 rfl ?_
    exact wp_end rfl rfl ⟨rfl, by rw [g_R_wear, if_neg c1]⟩
def g_R_trade (I : Nat → Nat → Int32) (p q : Int32) : Nat → Nat → Int32 := if p < 0 then I else (if Int32.ofNat 6 ≤ p then I else (if q < 0 then I else (if Int32.ofNat 6 ≤ q then I else (zui (zui I 13 p.toNatClampNeg (I 13 q.toNatClampNeg)) 13 q.toNatClampNeg (I 13 p.toNatClampNeg)))))
set_option maxRecDepth 100000 in
theorem sp_R_trade {X : Nat × (Nat → Int32)} (I : Nat → Nat → Int32) (P : Nat → Nat → Option Nat) (p q : Int32) : Wf X 87 [some (.ref 12), some (.int p), some (.int q), none] (zH I P) none (zH (g_R_trade I p q) P) := by
  unfold Wf
  refine wp_blk (pc' := 1) (L' := [some (.ref 12), some (.int p), some (.int q), none]) (st' := [.int p]) (h' := zH I P) 1 rfl ?_
  refine wp_lt (a := p) (b := 0) (s1 := (52, [some (.ref 12), some (.int p), some (.int q), none], [], zH I P)) (s2 := (4, [some (.ref 12), some (.int p), some (.int q), none], [], zH I P)) rfl (fun c1 => ?_) (fun c1 => ?_)
  · exact wp_end rfl rfl ⟨rfl, by rw [g_R_trade, if_pos c1]⟩
  · refine wp_blk (pc' := 10) (L' := [some (.ref 12), some (.int p), some (.int q), none]) (st' := [.int (Int32.ofNat 6), .int p]) (h' := zH I P) 4 rfl ?_
    refine wp_ge (a := p) (b := Int32.ofNat 6) (s1 := (52, [some (.ref 12), some (.int p), some (.int q), none], [], zH I P)) (s2 := (13, [some (.ref 12), some (.int p), some (.int q), none], [], zH I P)) rfl (fun c2 => ?_) (fun c2 => ?_)
    · exact wp_end rfl rfl ⟨rfl, by rw [g_R_trade, if_neg c1, if_pos c2]⟩
    · refine wp_blk (pc' := 14) (L' := [some (.ref 12), some (.int p), some (.int q), none]) (st' := [.int q]) (h' := zH I P) 1 rfl ?_
      refine wp_lt (a := q) (b := 0) (s1 := (52, [some (.ref 12), some (.int p), some (.int q), none], [], zH I P)) (s2 := (17, [some (.ref 12), some (.int p), some (.int q), none], [], zH I P)) rfl (fun c3 => ?_) (fun c3 => ?_)
      · exact wp_end rfl rfl ⟨rfl, by rw [g_R_trade, if_neg c1, if_neg c2, if_pos c3]⟩
      · refine wp_blk (pc' := 23) (L' := [some (.ref 12), some (.int p), some (.int q), none]) (st' := [.int (Int32.ofNat 6), .int q]) (h' := zH I P) 4 rfl ?_
        refine wp_ge (a := q) (b := Int32.ofNat 6) (s1 := (52, [some (.ref 12), some (.int p), some (.int q), none], [], zH I P)) (s2 := (26, [some (.ref 12), some (.int p), some (.int q), none], [], zH I P)) rfl (fun c4 => ?_) (fun c4 => ?_)
        · exact wp_end rfl rfl ⟨rfl, by rw [g_R_trade, if_neg c1, if_neg c2, if_neg c3, if_pos c4]⟩
        · refine wp_blk (pc' := 31) (L' := [some (.ref 12), some (.int p), some (.int q), none]) (st' := [.int p, .ref 13]) (h' := zH I P) 3 rfl ?_
          refine wp_chk (P := zinb p 6 = true) (pc' := 32) (L' := [some (.ref 12), some (.int p), some (.int q), none]) (st' := [.int (I 13 p.toNatClampNeg)]) (h' := zH I P) rfl (by exact zinb_a (by assumption) (by assumption)) ?_
          refine wp_blk (pc' := 43) (L' := [some (.ref 12), some (.int p), some (.int q), some (.int (I 13 p.toNatClampNeg))]) (st' := [.int q, .ref 13, .int p, .ref 13]) (h' := zH I P) 7 rfl ?_
          refine wp_chk (P := zinb q 6 = true) (pc' := 44) (L' := [some (.ref 12), some (.int p), some (.int q), some (.int (I 13 p.toNatClampNeg))]) (st' := [.int (I 13 q.toNatClampNeg), .int p, .ref 13]) (h' := zH I P) rfl (by exact zinb_a (by assumption) (by assumption)) ?_
          refine wp_chk (P := zinb p 6 = true) (pc' := 45) (L' := [some (.ref 12), some (.int p), some (.int q), some (.int (I 13 p.toNatClampNeg))]) (st' := []) (h' := zH (zui I 13 p.toNatClampNeg (I 13 q.toNatClampNeg)) P) rfl (by exact zinb_a (by assumption) (by assumption)) ?_
          refine wp_blk (pc' := 51) (L' := [some (.ref 12), some (.int p), some (.int q), some (.int (I 13 p.toNatClampNeg))]) (st' := [.int (I 13 p.toNatClampNeg), .int q, .ref 13]) (h' := zH (zui I 13 p.toNatClampNeg (I 13 q.toNatClampNeg)) P) 4 rfl ?_
          refine wp_chk (P := zinb q 6 = true) (pc' := 52) (L' := [some (.ref 12), some (.int p), some (.int q), some (.int (I 13 p.toNatClampNeg))]) (st' := []) (h' := zH (zui (zui I 13 p.toNatClampNeg (I 13 q.toNatClampNeg)) 13 q.toNatClampNeg (I 13 p.toNatClampNeg)) P) rfl (by exact zinb_a (by assumption) (by assumption)) ?_
          exact wp_end rfl rfl ⟨rfl, by rw [g_R_trade, if_neg c1, if_neg c2, if_neg c3, if_neg c4]⟩
def g_R_join (m mk ml mt : Nat) (I : Nat → Nat → Int32) (c : Int32) : Nat → Nat → Int32 := if f_M_isGone m mk ml mt I c = 0 then (if I 12 2 < 0 then I else (if Int32.ofNat 6 ≤ I 12 2 then I else (zui (zui I 13 ((I 12 2).toNatClampNeg) c) 12 2 ((I 12 2) + 1)))) else I
set_option maxRecDepth 100000 in
theorem sp_R_join_4 {X : Nat × (Nat → Int32)} (I : Nat → Nat → Int32) (P : Nat → Nat → Option Nat) (c : Int32) : Wf X 53 [some (.ref 12), some (.ref 4), some (.int c)] (zH I P) none (zH (g_R_join 4 5 6 7 I c) P) := by
  unfold Wf
  refine wp_blk (pc' := 2) (L' := [some (.ref 12), some (.ref 4), some (.int c)]) (st' := [.int c, .ref 4]) (h' := zH I P) 2 rfl ?_
  refine wp_callf (d := 44) (as := [.ref 4, .int c]) (rest := []) (Ld := [some (.ref 4), some (.int c)]) (pc' := 5) (st' := [.int (f_M_isGone 4 5 6 7 I c)]) (r := some (.int (f_M_isGone 4 5 6 7 I c))) (h1 := zH I P) rfl rfl rfl rfl rfl rfl rfl rfl rfl (sp_M_isGone_4 I P c) ?_
  refine wp_ne (a := f_M_isGone 4 5 6 7 I c) (b := 0) (s1 := (47, [some (.ref 12), some (.ref 4), some (.int c)], [], zH I P)) (s2 := (8, [some (.ref 12), some (.ref 4), some (.int c)], [], zH I P)) rfl (fun c1 => ?_) (fun c1 => ?_)
  · exact wp_end rfl rfl ⟨rfl, by rw [g_R_join, if_neg c1]⟩
  · refine wp_blk (pc' := 12) (L' := [some (.ref 12), some (.ref 4), some (.int c)]) (st' := [.int (I 12 2)]) (h' := zH I P) 2 rfl ?_
    refine wp_lt (a := I 12 2) (b := 0) (s1 := (47, [some (.ref 12), some (.ref 4), some (.int c)], [], zH I P)) (s2 := (15, [some (.ref 12), some (.ref 4), some (.int c)], [], zH I P)) rfl (fun c2 => ?_) (fun c2 => ?_)
    · exact wp_end rfl rfl ⟨rfl, by rw [g_R_join, if_pos c1, if_pos c2]⟩
    · refine wp_blk (pc' := 24) (L' := [some (.ref 12), some (.ref 4), some (.int c)]) (st' := [.int (Int32.ofNat 6), .int (I 12 2)]) (h' := zH I P) 5 rfl ?_
      refine wp_ge (a := I 12 2) (b := Int32.ofNat 6) (s1 := (47, [some (.ref 12), some (.ref 4), some (.int c)], [], zH I P)) (s2 := (27, [some (.ref 12), some (.ref 4), some (.int c)], [], zH I P)) rfl (fun c3 => ?_) (fun c3 => ?_)
      · exact wp_end rfl rfl ⟨rfl, by rw [g_R_join, if_pos c1, if_neg c2, if_pos c3]⟩
      · refine wp_blk (pc' := 36) (L' := [some (.ref 12), some (.ref 4), some (.int c)]) (st' := [.int c, .int (I 12 2), .ref 13]) (h' := zH I P) 5 rfl ?_
        refine wp_chk (P := zinb (I 12 2) 6 = true) (pc' := 37) (L' := [some (.ref 12), some (.ref 4), some (.int c)]) (st' := []) (h' := zH (zui I 13 ((I 12 2).toNatClampNeg) c) P) rfl (by exact zinb_a (by assumption) (by assumption)) ?_
        refine wp_blk (pc' := 47) (L' := [some (.ref 12), some (.ref 4), some (.int c)]) (st' := []) (h' := zH (zui (zui I 13 ((I 12 2).toNatClampNeg) c) 12 2 ((I 12 2) + 1)) P) 6 rfl ?_
        exact wp_end rfl rfl ⟨rfl, by rw [g_R_join, if_pos c1, if_neg c2, if_neg c3]⟩
set_option maxRecDepth 100000 in
theorem sp_R_join_8 {X : Nat × (Nat → Int32)} (I : Nat → Nat → Int32) (P : Nat → Nat → Option Nat) (c : Int32) : Wf X 53 [some (.ref 12), some (.ref 8), some (.int c)] (zH I P) none (zH (g_R_join 8 9 10 11 I c) P) := by
  unfold Wf
  refine wp_blk (pc' := 2) (L' := [some (.ref 12), some (.ref 8), some (.int c)]) (st' := [.int c, .ref 8]) (h' := zH I P) 2 rfl ?_
  refine wp_callf (d := 44) (as := [.ref 8, .int c]) (rest := []) (Ld := [some (.ref 8), some (.int c)]) (pc' := 5) (st' := [.int (f_M_isGone 8 9 10 11 I c)]) (r := some (.int (f_M_isGone 8 9 10 11 I c))) (h1 := zH I P) rfl rfl rfl rfl rfl rfl rfl rfl rfl (sp_M_isGone_8 I P c) ?_
  refine wp_ne (a := f_M_isGone 8 9 10 11 I c) (b := 0) (s1 := (47, [some (.ref 12), some (.ref 8), some (.int c)], [], zH I P)) (s2 := (8, [some (.ref 12), some (.ref 8), some (.int c)], [], zH I P)) rfl (fun c1 => ?_) (fun c1 => ?_)
  · exact wp_end rfl rfl ⟨rfl, by rw [g_R_join, if_neg c1]⟩
  · refine wp_blk (pc' := 12) (L' := [some (.ref 12), some (.ref 8), some (.int c)]) (st' := [.int (I 12 2)]) (h' := zH I P) 2 rfl ?_
    refine wp_lt (a := I 12 2) (b := 0) (s1 := (47, [some (.ref 12), some (.ref 8), some (.int c)], [], zH I P)) (s2 := (15, [some (.ref 12), some (.ref 8), some (.int c)], [], zH I P)) rfl (fun c2 => ?_) (fun c2 => ?_)
    · exact wp_end rfl rfl ⟨rfl, by rw [g_R_join, if_pos c1, if_pos c2]⟩
    · refine wp_blk (pc' := 24) (L' := [some (.ref 12), some (.ref 8), some (.int c)]) (st' := [.int (Int32.ofNat 6), .int (I 12 2)]) (h' := zH I P) 5 rfl ?_
      refine wp_ge (a := I 12 2) (b := Int32.ofNat 6) (s1 := (47, [some (.ref 12), some (.ref 8), some (.int c)], [], zH I P)) (s2 := (27, [some (.ref 12), some (.ref 8), some (.int c)], [], zH I P)) rfl (fun c3 => ?_) (fun c3 => ?_)
      · exact wp_end rfl rfl ⟨rfl, by rw [g_R_join, if_pos c1, if_neg c2, if_pos c3]⟩
      · refine wp_blk (pc' := 36) (L' := [some (.ref 12), some (.ref 8), some (.int c)]) (st' := [.int c, .int (I 12 2), .ref 13]) (h' := zH I P) 5 rfl ?_
        refine wp_chk (P := zinb (I 12 2) 6 = true) (pc' := 37) (L' := [some (.ref 12), some (.ref 8), some (.int c)]) (st' := []) (h' := zH (zui I 13 ((I 12 2).toNatClampNeg) c) P) rfl (by exact zinb_a (by assumption) (by assumption)) ?_
        refine wp_blk (pc' := 47) (L' := [some (.ref 12), some (.ref 8), some (.int c)]) (st' := []) (h' := zH (zui (zui I 13 ((I 12 2).toNatClampNeg) c) 12 2 ((I 12 2) + 1)) P) 6 rfl ?_
        exact wp_end rfl rfl ⟨rfl, by rw [g_R_join, if_pos c1, if_neg c2, if_neg c3]⟩
def x_M_worthOf (m mk ml mt : Nat) (I : Nat → Nat → Int32) (i j : Int32) : Option (Int32 × (Nat → Nat → Int32)) := if (f_M_kindOf m mk ml mt I i) = 1 then (some (2 * ((f_M_wordOf m mk ml mt I i j) - 3), I)) else (if (f_M_kindOf m mk ml mt I i) = 4 then (some (-((f_M_wordOf m mk ml mt I i j) - 3), I)) else (some ((f_M_wordOf m mk ml mt I i j) - 3, I)))
set_option maxRecDepth 100000 in
theorem xp_M_worthOf_4 {X : Nat × (Nat → Int32)} (I : Nat → Nat → Int32) (P : Nat → Nat → Option Nat) (i j : Int32) (r : Int32 × (Nat → Nat → Int32)) (hx : x_M_worthOf 4 5 6 7 I i j = some r) : Wf X 59 [some (.ref 4), some (.int i), some (.int j), none] (zH I P) (some (.int r.1)) (zH r.2 P) := by
  unfold Wf
  unfold x_M_worthOf at hx
  refine wp_blk (pc' := 3) (L' := [some (.ref 4), some (.int i), some (.int j), none]) (st' := [.int j, .int i, .ref 4]) (h' := zH I P) 3 rfl ?_
  refine wp_callf (d := 48) (as := [.ref 4, .int i, .int j]) (rest := []) (Ld := [some (.ref 4), some (.int i), some (.int j), none]) (pc' := 6) (st' := [.int (f_M_wordOf 4 5 6 7 I i j)]) (r := some (.int (f_M_wordOf 4 5 6 7 I i j))) (h1 := zH I P) rfl rfl rfl rfl rfl rfl rfl rfl rfl (sp_M_wordOf_4 I P i j) ?_
  refine wp_blk (pc' := 11) (L' := [some (.ref 4), some (.int i), some (.int j), some (.int ((f_M_wordOf 4 5 6 7 I i j) - 3))]) (st' := [.int i, .ref 4]) (h' := zH I P) 5 rfl ?_
  refine wp_callf (d := 41) (as := [.ref 4, .int i]) (rest := []) (Ld := [some (.ref 4), some (.int i)]) (pc' := 14) (st' := [.int (f_M_kindOf 4 5 6 7 I i)]) (r := some (.int (f_M_kindOf 4 5 6 7 I i))) (h1 := zH I P) rfl rfl rfl rfl rfl rfl rfl rfl rfl (sp_M_kindOf_4 I P i) ?_
  by_cases c1 : (f_M_kindOf 4 5 6 7 I i) = 1
  · rw [if_pos c1] at hx
    refine wp_swk (pc' := 40) (L' := [some (.ref 4), some (.int i), some (.int j), some (.int ((f_M_wordOf 4 5 6 7 I i j) - 3))]) (st' := []) (h' := zH I P) c1 rfl ?_
    refine wp_blk (pc' := 43) (L' := [some (.ref 4), some (.int i), some (.int j), some (.int ((f_M_wordOf 4 5 6 7 I i j) - 3))]) (st' := [.int (2 * ((f_M_wordOf 4 5 6 7 I i j) - 3))]) (h' := zH I P) 3 rfl ?_
    cases hx
    exact wp_end rfl rfl ⟨rfl, rfl⟩
  rw [if_neg c1] at hx
  by_cases c2 : (f_M_kindOf 4 5 6 7 I i) = 4
  · rw [if_pos c2] at hx
    refine wp_swk (pc' := 44) (L' := [some (.ref 4), some (.int i), some (.int j), some (.int ((f_M_wordOf 4 5 6 7 I i j) - 3))]) (st' := []) (h' := zH I P) c2 rfl ?_
    refine wp_blk (pc' := 46) (L' := [some (.ref 4), some (.int i), some (.int j), some (.int ((f_M_wordOf 4 5 6 7 I i j) - 3))]) (st' := [.int (-((f_M_wordOf 4 5 6 7 I i j) - 3))]) (h' := zH I P) 2 rfl ?_
    cases hx
    exact wp_end rfl rfl ⟨rfl, rfl⟩
  rw [if_neg c2] at hx
  refine wp_lookD rfl rfl rfl (pc2 := 47) rfl (by decide) (by decide) (fun z hz => by simp at hz; rcases hz with rfl | rfl <;> first | exact lv_neT c1 rfl | exact lv_neT c2 rfl) ?_
  refine wp_blk (pc' := 48) (L' := [some (.ref 4), some (.int i), some (.int j), some (.int ((f_M_wordOf 4 5 6 7 I i j) - 3))]) (st' := [.int ((f_M_wordOf 4 5 6 7 I i j) - 3)]) (h' := zH I P) 1 rfl ?_
  cases hx
  exact wp_end rfl rfl ⟨rfl, rfl⟩
set_option maxRecDepth 100000 in
theorem xp_M_worthOf_8 {X : Nat × (Nat → Int32)} (I : Nat → Nat → Int32) (P : Nat → Nat → Option Nat) (i j : Int32) (r : Int32 × (Nat → Nat → Int32)) (hx : x_M_worthOf 8 9 10 11 I i j = some r) : Wf X 59 [some (.ref 8), some (.int i), some (.int j), none] (zH I P) (some (.int r.1)) (zH r.2 P) := by
  unfold Wf
  unfold x_M_worthOf at hx
  refine wp_blk (pc' := 3) (L' := [some (.ref 8), some (.int i), some (.int j), none]) (st' := [.int j, .int i, .ref 8]) (h' := zH I P) 3 rfl ?_
  refine wp_callf (d := 48) (as := [.ref 8, .int i, .int j]) (rest := []) (Ld := [some (.ref 8), some (.int i), some (.int j), none]) (pc' := 6) (st' := [.int (f_M_wordOf 8 9 10 11 I i j)]) (r := some (.int (f_M_wordOf 8 9 10 11 I i j))) (h1 := zH I P) rfl rfl rfl rfl rfl rfl rfl rfl rfl (sp_M_wordOf_8 I P i j) ?_
  refine wp_blk (pc' := 11) (L' := [some (.ref 8), some (.int i), some (.int j), some (.int ((f_M_wordOf 8 9 10 11 I i j) - 3))]) (st' := [.int i, .ref 8]) (h' := zH I P) 5 rfl ?_
  refine wp_callf (d := 41) (as := [.ref 8, .int i]) (rest := []) (Ld := [some (.ref 8), some (.int i)]) (pc' := 14) (st' := [.int (f_M_kindOf 8 9 10 11 I i)]) (r := some (.int (f_M_kindOf 8 9 10 11 I i))) (h1 := zH I P) rfl rfl rfl rfl rfl rfl rfl rfl rfl (sp_M_kindOf_8 I P i) ?_
  by_cases c1 : (f_M_kindOf 8 9 10 11 I i) = 1
  · rw [if_pos c1] at hx
    refine wp_swk (pc' := 40) (L' := [some (.ref 8), some (.int i), some (.int j), some (.int ((f_M_wordOf 8 9 10 11 I i j) - 3))]) (st' := []) (h' := zH I P) c1 rfl ?_
    refine wp_blk (pc' := 43) (L' := [some (.ref 8), some (.int i), some (.int j), some (.int ((f_M_wordOf 8 9 10 11 I i j) - 3))]) (st' := [.int (2 * ((f_M_wordOf 8 9 10 11 I i j) - 3))]) (h' := zH I P) 3 rfl ?_
    cases hx
    exact wp_end rfl rfl ⟨rfl, rfl⟩
  rw [if_neg c1] at hx
  by_cases c2 : (f_M_kindOf 8 9 10 11 I i) = 4
  · rw [if_pos c2] at hx
    refine wp_swk (pc' := 44) (L' := [some (.ref 8), some (.int i), some (.int j), some (.int ((f_M_wordOf 8 9 10 11 I i j) - 3))]) (st' := []) (h' := zH I P) c2 rfl ?_
    refine wp_blk (pc' := 46) (L' := [some (.ref 8), some (.int i), some (.int j), some (.int ((f_M_wordOf 8 9 10 11 I i j) - 3))]) (st' := [.int (-((f_M_wordOf 8 9 10 11 I i j) - 3))]) (h' := zH I P) 2 rfl ?_
    cases hx
    exact wp_end rfl rfl ⟨rfl, rfl⟩
  rw [if_neg c2] at hx
  refine wp_lookD rfl rfl rfl (pc2 := 47) rfl (by decide) (by decide) (fun z hz => by simp at hz; rcases hz with rfl | rfl <;> first | exact lv_neT c1 rfl | exact lv_neT c2 rfl) ?_
  refine wp_blk (pc' := 48) (L' := [some (.ref 8), some (.int i), some (.int j), some (.int ((f_M_wordOf 8 9 10 11 I i j) - 3))]) (st' := [.int ((f_M_wordOf 8 9 10 11 I i j) - 3)]) (h' := zH I P) 1 rfl ?_
  cases hx
  exact wp_end rfl rfl ⟨rfl, rfl⟩
def l_M_placeOf_2 (m mk ml mt : Nat) : Nat → (Nat → Nat → Int32) → Int32 → Int32 → Option (Int32 × (Nat → Nat → Int32))
  | 0, _, _, _ => none
  | n + 1, I, x1, x2 => if I m 3 ≤ x2 then (some (-1, I)) else (if f_M_whoAt m mk ml mt I x2 = x1 then (some (x2, I)) else (l_M_placeOf_2 m mk ml mt n I x1 (x2 + 1)))
def x_M_placeOf (m mk ml mt : Nat) (I : Nat → Nat → Int32) (c : Int32) : Option (Int32 × (Nat → Nat → Int32)) := l_M_placeOf_2 m mk ml mt 1000 I c 0
set_option maxRecDepth 100000 in
theorem lp_M_placeOf_2_4 {X : Nat × (Nat → Int32)} (P : Nat → Nat → Option Nat) : ∀ (n : Nat) (I : Nat → Nat → Int32) (x1 : Int32) (x2 : Int32) (r : Int32 × (Nat → Nat → Int32)), l_M_placeOf_2 4 5 6 7 n I x1 x2 = some r → Wp X 42 2 [some (.ref 4), some (.int x1), some (.int x2)] [] (zH I P) (fun r2 h2 => r2 = some (.int r.1) ∧ h2 = zH r.2 P) := by
  intro n
  induction n with
  | zero => intro I x1 x2 r hx; cases hx
  | succ n ih =>
    intro I x1 x2 r hx
    rw [l_M_placeOf_2] at hx
    refine wp_blk (pc' := 7) (L' := [some (.ref 4), some (.int x1), some (.int x2)]) (st' := [.int (I 4 3), .int x2]) (h' := zH I P) 3 rfl ?_
    refine wp_ge (a := x2) (b := I 4 3) (s1 := (27, [some (.ref 4), some (.int x1), some (.int x2)], [], zH I P)) (s2 := (10, [some (.ref 4), some (.int x1), some (.int x2)], [], zH I P)) rfl (fun c1 => ?_) (fun c1 => ?_)
    · rw [if_pos c1] at hx
      refine wp_blk (pc' := 28) (L' := [some (.ref 4), some (.int x1), some (.int x2)]) (st' := [.int (-1)]) (h' := zH I P) 1 rfl ?_
      cases hx
      exact wp_end rfl rfl ⟨rfl, rfl⟩
    · rw [if_neg c1] at hx
      refine wp_blk (pc' := 12) (L' := [some (.ref 4), some (.int x1), some (.int x2)]) (st' := [.int x2, .ref 4]) (h' := zH I P) 2 rfl ?_
      refine wp_callf (d := 43) (as := [.ref 4, .int x2]) (rest := []) (Ld := [some (.ref 4), some (.int x2)]) (pc' := 15) (st' := [.int (f_M_whoAt 4 5 6 7 I x2)]) (r := some (.int (f_M_whoAt 4 5 6 7 I x2))) (h1 := zH I P) rfl rfl rfl rfl rfl rfl rfl rfl rfl (sp_M_whoAt_4 I P x2) ?_
      refine wp_blk (pc' := 16) (L' := [some (.ref 4), some (.int x1), some (.int x2)]) (st' := [.int x1, .int (f_M_whoAt 4 5 6 7 I x2)]) (h' := zH I P) 1 rfl ?_
      refine wp_ne (a := f_M_whoAt 4 5 6 7 I x2) (b := x1) (s1 := (21, [some (.ref 4), some (.int x1), some (.int x2)], [], zH I P)) (s2 := (19, [some (.ref 4), some (.int x1), some (.int x2)], [], zH I P)) rfl (fun c2 => ?_) (fun c2 => ?_)
      · rw [if_neg c2] at hx
        refine wp_blk (pc' := 2) (L' := [some (.ref 4), some (.int x1), some (.int (x2 + 1))]) (st' := []) (h' := zH I P) 2 rfl ?_
        exact ih _ _ _ _ hx
      · rw [if_pos c2] at hx
        refine wp_blk (pc' := 20) (L' := [some (.ref 4), some (.int x1), some (.int x2)]) (st' := [.int x2]) (h' := zH I P) 1 rfl ?_
        cases hx
        exact wp_end rfl rfl ⟨rfl, rfl⟩
set_option maxRecDepth 100000 in
theorem xp_M_placeOf_4 {X : Nat × (Nat → Int32)} (I : Nat → Nat → Int32) (P : Nat → Nat → Option Nat) (c : Int32) (r : Int32 × (Nat → Nat → Int32)) (hx : x_M_placeOf 4 5 6 7 I c = some r) : Wf X 42 [some (.ref 4), some (.int c), none] (zH I P) (some (.int r.1)) (zH r.2 P) := by
  unfold Wf
  unfold x_M_placeOf at hx
  refine wp_blk (pc' := 2) (L' := [some (.ref 4), some (.int c), some (.int 0)]) (st' := []) (h' := zH I P) 2 rfl ?_
  exact lp_M_placeOf_2_4 P _ _ _ _ _ hx
set_option maxRecDepth 100000 in
theorem lp_M_placeOf_2_8 {X : Nat × (Nat → Int32)} (P : Nat → Nat → Option Nat) : ∀ (n : Nat) (I : Nat → Nat → Int32) (x1 : Int32) (x2 : Int32) (r : Int32 × (Nat → Nat → Int32)), l_M_placeOf_2 8 9 10 11 n I x1 x2 = some r → Wp X 42 2 [some (.ref 8), some (.int x1), some (.int x2)] [] (zH I P) (fun r2 h2 => r2 = some (.int r.1) ∧ h2 = zH r.2 P) := by
  intro n
  induction n with
  | zero => intro I x1 x2 r hx; cases hx
  | succ n ih =>
    intro I x1 x2 r hx
    rw [l_M_placeOf_2] at hx
    refine wp_blk (pc' := 7) (L' := [some (.ref 8), some (.int x1), some (.int x2)]) (st' := [.int (I 8 3), .int x2]) (h' := zH I P) 3 rfl ?_
    refine wp_ge (a := x2) (b := I 8 3) (s1 := (27, [some (.ref 8), some (.int x1), some (.int x2)], [], zH I P)) (s2 := (10, [some (.ref 8), some (.int x1), some (.int x2)], [], zH I P)) rfl (fun c1 => ?_) (fun c1 => ?_)
    · rw [if_pos c1] at hx
      refine wp_blk (pc' := 28) (L' := [some (.ref 8), some (.int x1), some (.int x2)]) (st' := [.int (-1)]) (h' := zH I P) 1 rfl ?_
      cases hx
      exact wp_end rfl rfl ⟨rfl, rfl⟩
    · rw [if_neg c1] at hx
      refine wp_blk (pc' := 12) (L' := [some (.ref 8), some (.int x1), some (.int x2)]) (st' := [.int x2, .ref 8]) (h' := zH I P) 2 rfl ?_
      refine wp_callf (d := 43) (as := [.ref 8, .int x2]) (rest := []) (Ld := [some (.ref 8), some (.int x2)]) (pc' := 15) (st' := [.int (f_M_whoAt 8 9 10 11 I x2)]) (r := some (.int (f_M_whoAt 8 9 10 11 I x2))) (h1 := zH I P) rfl rfl rfl rfl rfl rfl rfl rfl rfl (sp_M_whoAt_8 I P x2) ?_
      refine wp_blk (pc' := 16) (L' := [some (.ref 8), some (.int x1), some (.int x2)]) (st' := [.int x1, .int (f_M_whoAt 8 9 10 11 I x2)]) (h' := zH I P) 1 rfl ?_
      refine wp_ne (a := f_M_whoAt 8 9 10 11 I x2) (b := x1) (s1 := (21, [some (.ref 8), some (.int x1), some (.int x2)], [], zH I P)) (s2 := (19, [some (.ref 8), some (.int x1), some (.int x2)], [], zH I P)) rfl (fun c2 => ?_) (fun c2 => ?_)
      · rw [if_neg c2] at hx
        refine wp_blk (pc' := 2) (L' := [some (.ref 8), some (.int x1), some (.int (x2 + 1))]) (st' := []) (h' := zH I P) 2 rfl ?_
        exact ih _ _ _ _ hx
      · rw [if_pos c2] at hx
        refine wp_blk (pc' := 20) (L' := [some (.ref 8), some (.int x1), some (.int x2)]) (st' := [.int x2]) (h' := zH I P) 1 rfl ?_
        cases hx
        exact wp_end rfl rfl ⟨rfl, rfl⟩
set_option maxRecDepth 100000 in
theorem xp_M_placeOf_8 {X : Nat × (Nat → Int32)} (I : Nat → Nat → Int32) (P : Nat → Nat → Option Nat) (c : Int32) (r : Int32 × (Nat → Nat → Int32)) (hx : x_M_placeOf 8 9 10 11 I c = some r) : Wf X 42 [some (.ref 8), some (.int c), none] (zH I P) (some (.int r.1)) (zH r.2 P) := by
  unfold Wf
  unfold x_M_placeOf at hx
  refine wp_blk (pc' := 2) (L' := [some (.ref 8), some (.int c), some (.int 0)]) (st' := []) (h' := zH I P) 2 rfl ?_
  exact lp_M_placeOf_2_8 P _ _ _ _ _ hx
def l_R_mouthBits_17 (m mk ml mt : Nat) : Nat → (Nat → Nat → Int32) → Int32 → Int32 → Int32 → Int32 → Int32 → Option (Int32 × (Nat → Nat → Int32))
  | 0, _, _, _, _, _, _ => none
  | n + 1, I, x2, x3, x4, x5, x6 => if x2 + 3 < x6 then (some (x4, I)) else (if I 12 2 ≤ x6 then (some (x4, I)) else (if f_M_kindOf m mk ml mt I (f_R_whoIn I x6) = 2 then (if f_M_kindOf m mk ml mt I (f_R_whoIn I x6) = 2 then (l_R_mouthBits_17 m mk ml mt n I x2 x3 (x4 ||| (1 <<< ((f_R_whoIn I x6) &&& 31))) x5 (x6 + 1)) else (if f_M_kindOf m mk ml mt I (f_R_whoIn I x6) = 3 then (l_R_mouthBits_17 m mk ml mt n I x2 x3 (x4 ||| (1 <<< ((f_R_whoIn I x6) &&& 31))) x5 (x6 + 1)) else (l_R_mouthBits_17 m mk ml mt n I x2 x3 (x4 ||| (1 <<< ((f_R_whoIn I x6) &&& 31))) (x5 ||| (1 <<< ((f_M_wordOf m mk ml mt I (f_R_whoIn I x6) x3) &&& 31))) (x6 + 1)))) else (if f_M_kindOf m mk ml mt I (f_R_whoIn I x6) = 3 then (if f_M_kindOf m mk ml mt I (f_R_whoIn I x6) = 2 then (l_R_mouthBits_17 m mk ml mt n I x2 x3 x4 x5 (x6 + 1)) else (if f_M_kindOf m mk ml mt I (f_R_whoIn I x6) = 3 then (l_R_mouthBits_17 m mk ml mt n I x2 x3 x4 x5 (x6 + 1)) else (l_R_mouthBits_17 m mk ml mt n I x2 x3 x4 (x5 ||| (1 <<< ((f_M_wordOf m mk ml mt I (f_R_whoIn I x6) x3) &&& 31))) (x6 + 1)))) else (if x5 &&& (1 <<< ((f_M_wordOf m mk ml mt I (f_R_whoIn I x6) x3) &&& 31)) = 0 then (if f_M_kindOf m mk ml mt I (f_R_whoIn I x6) = 2 then (l_R_mouthBits_17 m mk ml mt n I x2 x3 (x4 ||| (1 <<< ((f_R_whoIn I x6) &&& 31))) x5 (x6 + 1)) else (if f_M_kindOf m mk ml mt I (f_R_whoIn I x6) = 3 then (l_R_mouthBits_17 m mk ml mt n I x2 x3 (x4 ||| (1 <<< ((f_R_whoIn I x6) &&& 31))) x5 (x6 + 1)) else (l_R_mouthBits_17 m mk ml mt n I x2 x3 (x4 ||| (1 <<< ((f_R_whoIn I x6) &&& 31))) (x5 ||| (1 <<< ((f_M_wordOf m mk ml mt I (f_R_whoIn I x6) x3) &&& 31))) (x6 + 1)))) else (if f_M_kindOf m mk ml mt I (f_R_whoIn I x6) = 2 then (l_R_mouthBits_17 m mk ml mt n I x2 x3 x4 x5 (x6 + 1)) else (if f_M_kindOf m mk ml mt I (f_R_whoIn I x6) = 3 then (l_R_mouthBits_17 m mk ml mt n I x2 x3 x4 x5 (x6 + 1)) else (l_R_mouthBits_17 m mk ml mt n I x2 x3 x4 (x5 ||| (1 <<< ((f_M_wordOf m mk ml mt I (f_R_whoIn I x6) x3) &&& 31))) (x6 + 1))))))))
def x_R_mouthBits (m mk ml mt : Nat) (I : Nat → Nat → Int32) (p : Int32) : Option (Int32 × (Nat → Nat → Int32)) := l_R_mouthBits_17 m mk ml mt 1000 I p (f_R_whoIn I p) 0 0 (p + 1)
set_option maxRecDepth 100000 in
theorem lp_R_mouthBits_17_4 {X : Nat × (Nat → Int32)} (P : Nat → Nat → Option Nat) : ∀ (n : Nat) (I : Nat → Nat → Int32) (x2 : Int32) (x3 : Int32) (x4 : Int32) (x5 : Int32) (x6 : Int32) (r : Int32 × (Nat → Nat → Int32)), l_R_mouthBits_17 4 5 6 7 n I x2 x3 x4 x5 x6 = some r → Wp X 58 17 [some (.ref 12), some (.ref 4), some (.int x2), some (.int x3), some (.int x4), some (.int x5), some (.int x6), none, none, none] [] (zH I P) (fun r2 h2 => r2 = some (.int r.1) ∧ h2 = zH r.2 P) := by
  intro n
  induction n with
  | zero => intro I x2 x3 x4 x5 x6 r hx; cases hx
  | succ n ih =>
    intro I x2 x3 x4 x5 x6 r hx
    rw [l_R_mouthBits_17] at hx
    refine wp_blk (pc' := 22) (L' := [some (.ref 12), some (.ref 4), some (.int x2), some (.int x3), some (.int x4), some (.int x5), some (.int x6), none, none, none]) (st' := [.int (x2 + 3), .int x6]) (h' := zH I P) 4 rfl ?_
    refine wp_gt (a := x6) (b := x2 + 3) (s1 := (115, [some (.ref 12), some (.ref 4), some (.int x2), some (.int x3), some (.int x4), some (.int x5), some (.int x6), none, none, none], [], zH I P)) (s2 := (25, [some (.ref 12), some (.ref 4), some (.int x2), some (.int x3), some (.int x4), some (.int x5), some (.int x6), none, none, none], [], zH I P)) rfl (fun c1 => ?_) (fun c1 => ?_)
    · rw [if_pos c1] at hx
      refine wp_blk (pc' := 117) (L' := [some (.ref 12), some (.ref 4), some (.int x2), some (.int x3), some (.int x4), some (.int x5), some (.int x6), none, none, none]) (st' := [.int x4]) (h' := zH I P) 1 rfl ?_
      cases hx
      exact wp_end rfl rfl ⟨rfl, rfl⟩
    · rw [if_neg c1] at hx
      refine wp_blk (pc' := 31) (L' := [some (.ref 12), some (.ref 4), some (.int x2), some (.int x3), some (.int x4), some (.int x5), some (.int x6), none, none, none]) (st' := [.int (I 12 2), .int x6]) (h' := zH I P) 3 rfl ?_
      refine wp_ge (a := x6) (b := I 12 2) (s1 := (115, [some (.ref 12), some (.ref 4), some (.int x2), some (.int x3), some (.int x4), some (.int x5), some (.int x6), none, none, none], [], zH I P)) (s2 := (34, [some (.ref 12), some (.ref 4), some (.int x2), some (.int x3), some (.int x4), some (.int x5), some (.int x6), none, none, none], [], zH I P)) rfl (fun c2 => ?_) (fun c2 => ?_)
      · rw [if_pos c2] at hx
        refine wp_blk (pc' := 117) (L' := [some (.ref 12), some (.ref 4), some (.int x2), some (.int x3), some (.int x4), some (.int x5), some (.int x6), none, none, none]) (st' := [.int x4]) (h' := zH I P) 1 rfl ?_
        cases hx
        exact wp_end rfl rfl ⟨rfl, rfl⟩
      · rw [if_neg c2] at hx
        refine wp_blk (pc' := 37) (L' := [some (.ref 12), some (.ref 4), some (.int x2), some (.int x3), some (.int x4), some (.int x5), some (.int x6), none, none, none]) (st' := [.int x6, .ref 12]) (h' := zH I P) 2 rfl ?_
        refine wp_callf (d := 56) (as := [.ref 12, .int x6]) (rest := []) (Ld := [some (.ref 12), some (.int x6)]) (pc' := 40) (st' := [.int (f_R_whoIn I x6)]) (r := some (.int (f_R_whoIn I x6))) (h1 := zH I P) rfl rfl rfl rfl rfl rfl rfl rfl rfl (sp_R_whoIn I P x6) ?_
        refine wp_blk (pc' := 45) (L' := [some (.ref 12), some (.ref 4), some (.int x2), some (.int x3), some (.int x4), some (.int x5), some (.int x6), some (.int (f_R_whoIn I x6)), none, none]) (st' := [.int (f_R_whoIn I x6), .ref 4]) (h' := zH I P) 3 rfl ?_
        refine wp_callf (d := 41) (as := [.ref 4, .int (f_R_whoIn I x6)]) (rest := []) (Ld := [some (.ref 4), some (.int (f_R_whoIn I x6))]) (pc' := 48) (st' := [.int (f_M_kindOf 4 5 6 7 I (f_R_whoIn I x6))]) (r := some (.int (f_M_kindOf 4 5 6 7 I (f_R_whoIn I x6)))) (h1 := zH I P) rfl rfl rfl rfl rfl rfl rfl rfl rfl (sp_M_kindOf_4 I P (f_R_whoIn I x6)) ?_
        refine wp_blk (pc' := 55) (L' := [some (.ref 12), some (.ref 4), some (.int x2), some (.int x3), some (.int x4), some (.int x5), some (.int x6), some (.int (f_R_whoIn I x6)), some (.int (f_M_kindOf 4 5 6 7 I (f_R_whoIn I x6))), none]) (st' := [.int x3, .int (f_R_whoIn I x6), .ref 4, .int 1]) (h' := zH I P) 5 rfl ?_
        refine wp_callf (d := 48) (as := [.ref 4, .int (f_R_whoIn I x6), .int x3]) (rest := [.int 1]) (Ld := [some (.ref 4), some (.int (f_R_whoIn I x6)), some (.int x3), none]) (pc' := 58) (st' := [.int (f_M_wordOf 4 5 6 7 I (f_R_whoIn I x6) x3), .int 1]) (r := some (.int (f_M_wordOf 4 5 6 7 I (f_R_whoIn I x6) x3))) (h1 := zH I P) rfl rfl rfl rfl rfl rfl rfl rfl rfl (sp_M_wordOf_4 I P (f_R_whoIn I x6) x3) ?_
        refine wp_blk (pc' := 64) (L' := [some (.ref 12), some (.ref 4), some (.int x2), some (.int x3), some (.int x4), some (.int x5), some (.int x6), some (.int (f_R_whoIn I x6)), some (.int (f_M_kindOf 4 5 6 7 I (f_R_whoIn I x6))), some (.int (1 <<< ((f_M_wordOf 4 5 6 7 I (f_R_whoIn I x6) x3) &&& 31)))]) (st' := [.int 2, .int (f_M_kindOf 4 5 6 7 I (f_R_whoIn I x6))]) (h' := zH I P) 4 rfl ?_
        refine wp_eq (a := f_M_kindOf 4 5 6 7 I (f_R_whoIn I x6)) (b := 2) (s1 := (81, [some (.ref 12), some (.ref 4), some (.int x2), some (.int x3), some (.int x4), some (.int x5), some (.int x6), some (.int (f_R_whoIn I x6)), some (.int (f_M_kindOf 4 5 6 7 I (f_R_whoIn I x6))), some (.int (1 <<< ((f_M_wordOf 4 5 6 7 I (f_R_whoIn I x6) x3) &&& 31)))], [], zH I P)) (s2 := (67, [some (.ref 12), some (.ref 4), some (.int x2), some (.int x3), some (.int x4), some (.int x5), some (.int x6), some (.int (f_R_whoIn I x6)), some (.int (f_M_kindOf 4 5 6 7 I (f_R_whoIn I x6))), some (.int (1 <<< ((f_M_wordOf 4 5 6 7 I (f_R_whoIn I x6) x3) &&& 31)))], [], zH I P)) rfl (fun c3 => ?_) (fun c3 => ?_)
        · rw [if_pos c3] at hx
          refine wp_blk (pc' := 93) (L' := [some (.ref 12), some (.ref 4), some (.int x2), some (.int x3), some (.int (x4 ||| (1 <<< ((f_R_whoIn I x6) &&& 31)))), some (.int x5), some (.int x6), some (.int (f_R_whoIn I x6)), some (.int (f_M_kindOf 4 5 6 7 I (f_R_whoIn I x6))), some (.int (1 <<< ((f_M_wordOf 4 5 6 7 I (f_R_whoIn I x6) x3) &&& 31)))]) (st' := [.int 2, .int (f_M_kindOf 4 5 6 7 I (f_R_whoIn I x6))]) (h' := zH I P) 8 rfl ?_
          refine wp_eq (a := f_M_kindOf 4 5 6 7 I (f_R_whoIn I x6)) (b := 2) (s1 := (109, [some (.ref 12), some (.ref 4), some (.int x2), some (.int x3), some (.int (x4 ||| (1 <<< ((f_R_whoIn I x6) &&& 31)))), some (.int x5), some (.int x6), some (.int (f_R_whoIn I x6)), some (.int (f_M_kindOf 4 5 6 7 I (f_R_whoIn I x6))), some (.int (1 <<< ((f_M_wordOf 4 5 6 7 I (f_R_whoIn I x6) x3) &&& 31)))], [], zH I P)) (s2 := (96, [some (.ref 12), some (.ref 4), some (.int x2), some (.int x3), some (.int (x4 ||| (1 <<< ((f_R_whoIn I x6) &&& 31)))), some (.int x5), some (.int x6), some (.int (f_R_whoIn I x6)), some (.int (f_M_kindOf 4 5 6 7 I (f_R_whoIn I x6))), some (.int (1 <<< ((f_M_wordOf 4 5 6 7 I (f_R_whoIn I x6) x3) &&& 31)))], [], zH I P)) rfl (fun c4 => ?_) (fun c4 => ?_)
          · rw [if_pos c4] at hx
            refine wp_blk (pc' := 17) (L' := [some (.ref 12), some (.ref 4), some (.int x2), some (.int x3), some (.int (x4 ||| (1 <<< ((f_R_whoIn I x6) &&& 31)))), some (.int x5), some (.int (x6 + 1)), some (.int (f_R_whoIn I x6)), some (.int (f_M_kindOf 4 5 6 7 I (f_R_whoIn I x6))), some (.int (1 <<< ((f_M_wordOf 4 5 6 7 I (f_R_whoIn I x6) x3) &&& 31)))]) (st' := []) (h' := zH I P) 2 rfl ?_
            exact wp_forget (ih _ _ _ _ _ _ _ hx) (zle_c (zle_c (zle_c (zle_c (zle_c (zle_c (zle_c (zle_n (zle_n (zle_n zle_nil))))))))))
          · rw [if_neg c4] at hx
            refine wp_blk (pc' := 99) (L' := [some (.ref 12), some (.ref 4), some (.int x2), some (.int x3), some (.int (x4 ||| (1 <<< ((f_R_whoIn I x6) &&& 31)))), some (.int x5), some (.int x6), some (.int (f_R_whoIn I x6)), some (.int (f_M_kindOf 4 5 6 7 I (f_R_whoIn I x6))), some (.int (1 <<< ((f_M_wordOf 4 5 6 7 I (f_R_whoIn I x6) x3) &&& 31)))]) (st' := [.int 3, .int (f_M_kindOf 4 5 6 7 I (f_R_whoIn I x6))]) (h' := zH I P) 2 rfl ?_
            refine wp_eq (a := f_M_kindOf 4 5 6 7 I (f_R_whoIn I x6)) (b := 3) (s1 := (109, [some (.ref 12), some (.ref 4), some (.int x2), some (.int x3), some (.int (x4 ||| (1 <<< ((f_R_whoIn I x6) &&& 31)))), some (.int x5), some (.int x6), some (.int (f_R_whoIn I x6)), some (.int (f_M_kindOf 4 5 6 7 I (f_R_whoIn I x6))), some (.int (1 <<< ((f_M_wordOf 4 5 6 7 I (f_R_whoIn I x6) x3) &&& 31)))], [], zH I P)) (s2 := (102, [some (.ref 12), some (.ref 4), some (.int x2), some (.int x3), some (.int (x4 ||| (1 <<< ((f_R_whoIn I x6) &&& 31)))), some (.int x5), some (.int x6), some (.int (f_R_whoIn I x6)), some (.int (f_M_kindOf 4 5 6 7 I (f_R_whoIn I x6))), some (.int (1 <<< ((f_M_wordOf 4 5 6 7 I (f_R_whoIn I x6) x3) &&& 31)))], [], zH I P)) rfl (fun c5 => ?_) (fun c5 => ?_)
            · rw [if_pos c5] at hx
              refine wp_blk (pc' := 17) (L' := [some (.ref 12), some (.ref 4), some (.int x2), some (.int x3), some (.int (x4 ||| (1 <<< ((f_R_whoIn I x6) &&& 31)))), some (.int x5), some (.int (x6 + 1)), some (.int (f_R_whoIn I x6)), some (.int (f_M_kindOf 4 5 6 7 I (f_R_whoIn I x6))), some (.int (1 <<< ((f_M_wordOf 4 5 6 7 I (f_R_whoIn I x6) x3) &&& 31)))]) (st' := []) (h' := zH I P) 2 rfl ?_
              exact wp_forget (ih _ _ _ _ _ _ _ hx) (zle_c (zle_c (zle_c (zle_c (zle_c (zle_c (zle_c (zle_n (zle_n (zle_n zle_nil))))))))))
            · rw [if_neg c5] at hx
              refine wp_blk (pc' := 17) (L' := [some (.ref 12), some (.ref 4), some (.int x2), some (.int x3), some (.int (x4 ||| (1 <<< ((f_R_whoIn I x6) &&& 31)))), some (.int (x5 ||| (1 <<< ((f_M_wordOf 4 5 6 7 I (f_R_whoIn I x6) x3) &&& 31)))), some (.int (x6 + 1)), some (.int (f_R_whoIn I x6)), some (.int (f_M_kindOf 4 5 6 7 I (f_R_whoIn I x6))), some (.int (1 <<< ((f_M_wordOf 4 5 6 7 I (f_R_whoIn I x6) x3) &&& 31)))]) (st' := []) (h' := zH I P) 6 rfl ?_
              exact wp_forget (ih _ _ _ _ _ _ _ hx) (zle_c (zle_c (zle_c (zle_c (zle_c (zle_c (zle_c (zle_n (zle_n (zle_n zle_nil))))))))))
        · rw [if_neg c3] at hx
          refine wp_blk (pc' := 70) (L' := [some (.ref 12), some (.ref 4), some (.int x2), some (.int x3), some (.int x4), some (.int x5), some (.int x6), some (.int (f_R_whoIn I x6)), some (.int (f_M_kindOf 4 5 6 7 I (f_R_whoIn I x6))), some (.int (1 <<< ((f_M_wordOf 4 5 6 7 I (f_R_whoIn I x6) x3) &&& 31)))]) (st' := [.int 3, .int (f_M_kindOf 4 5 6 7 I (f_R_whoIn I x6))]) (h' := zH I P) 2 rfl ?_
          refine wp_eq (a := f_M_kindOf 4 5 6 7 I (f_R_whoIn I x6)) (b := 3) (s1 := (90, [some (.ref 12), some (.ref 4), some (.int x2), some (.int x3), some (.int x4), some (.int x5), some (.int x6), some (.int (f_R_whoIn I x6)), some (.int (f_M_kindOf 4 5 6 7 I (f_R_whoIn I x6))), some (.int (1 <<< ((f_M_wordOf 4 5 6 7 I (f_R_whoIn I x6) x3) &&& 31)))], [], zH I P)) (s2 := (73, [some (.ref 12), some (.ref 4), some (.int x2), some (.int x3), some (.int x4), some (.int x5), some (.int x6), some (.int (f_R_whoIn I x6)), some (.int (f_M_kindOf 4 5 6 7 I (f_R_whoIn I x6))), some (.int (1 <<< ((f_M_wordOf 4 5 6 7 I (f_R_whoIn I x6) x3) &&& 31)))], [], zH I P)) rfl (fun c6 => ?_) (fun c6 => ?_)
          · rw [if_pos c6] at hx
            refine wp_blk (pc' := 93) (L' := [some (.ref 12), some (.ref 4), some (.int x2), some (.int x3), some (.int x4), some (.int x5), some (.int x6), some (.int (f_R_whoIn I x6)), some (.int (f_M_kindOf 4 5 6 7 I (f_R_whoIn I x6))), some (.int (1 <<< ((f_M_wordOf 4 5 6 7 I (f_R_whoIn I x6) x3) &&& 31)))]) (st' := [.int 2, .int (f_M_kindOf 4 5 6 7 I (f_R_whoIn I x6))]) (h' := zH I P) 2 rfl ?_
            refine wp_eq (a := f_M_kindOf 4 5 6 7 I (f_R_whoIn I x6)) (b := 2) (s1 := (109, [some (.ref 12), some (.ref 4), some (.int x2), some (.int x3), some (.int x4), some (.int x5), some (.int x6), some (.int (f_R_whoIn I x6)), some (.int (f_M_kindOf 4 5 6 7 I (f_R_whoIn I x6))), some (.int (1 <<< ((f_M_wordOf 4 5 6 7 I (f_R_whoIn I x6) x3) &&& 31)))], [], zH I P)) (s2 := (96, [some (.ref 12), some (.ref 4), some (.int x2), some (.int x3), some (.int x4), some (.int x5), some (.int x6), some (.int (f_R_whoIn I x6)), some (.int (f_M_kindOf 4 5 6 7 I (f_R_whoIn I x6))), some (.int (1 <<< ((f_M_wordOf 4 5 6 7 I (f_R_whoIn I x6) x3) &&& 31)))], [], zH I P)) rfl (fun c7 => ?_) (fun c7 => ?_)
            · rw [if_pos c7] at hx
              refine wp_blk (pc' := 17) (L' := [some (.ref 12), some (.ref 4), some (.int x2), some (.int x3), some (.int x4), some (.int x5), some (.int (x6 + 1)), some (.int (f_R_whoIn I x6)), some (.int (f_M_kindOf 4 5 6 7 I (f_R_whoIn I x6))), some (.int (1 <<< ((f_M_wordOf 4 5 6 7 I (f_R_whoIn I x6) x3) &&& 31)))]) (st' := []) (h' := zH I P) 2 rfl ?_
              exact wp_forget (ih _ _ _ _ _ _ _ hx) (zle_c (zle_c (zle_c (zle_c (zle_c (zle_c (zle_c (zle_n (zle_n (zle_n zle_nil))))))))))
            · rw [if_neg c7] at hx
              refine wp_blk (pc' := 99) (L' := [some (.ref 12), some (.ref 4), some (.int x2), some (.int x3), some (.int x4), some (.int x5), some (.int x6), some (.int (f_R_whoIn I x6)), some (.int (f_M_kindOf 4 5 6 7 I (f_R_whoIn I x6))), some (.int (1 <<< ((f_M_wordOf 4 5 6 7 I (f_R_whoIn I x6) x3) &&& 31)))]) (st' := [.int 3, .int (f_M_kindOf 4 5 6 7 I (f_R_whoIn I x6))]) (h' := zH I P) 2 rfl ?_
              refine wp_eq (a := f_M_kindOf 4 5 6 7 I (f_R_whoIn I x6)) (b := 3) (s1 := (109, [some (.ref 12), some (.ref 4), some (.int x2), some (.int x3), some (.int x4), some (.int x5), some (.int x6), some (.int (f_R_whoIn I x6)), some (.int (f_M_kindOf 4 5 6 7 I (f_R_whoIn I x6))), some (.int (1 <<< ((f_M_wordOf 4 5 6 7 I (f_R_whoIn I x6) x3) &&& 31)))], [], zH I P)) (s2 := (102, [some (.ref 12), some (.ref 4), some (.int x2), some (.int x3), some (.int x4), some (.int x5), some (.int x6), some (.int (f_R_whoIn I x6)), some (.int (f_M_kindOf 4 5 6 7 I (f_R_whoIn I x6))), some (.int (1 <<< ((f_M_wordOf 4 5 6 7 I (f_R_whoIn I x6) x3) &&& 31)))], [], zH I P)) rfl (fun c8 => ?_) (fun c8 => ?_)
              · rw [if_pos c8] at hx
                refine wp_blk (pc' := 17) (L' := [some (.ref 12), some (.ref 4), some (.int x2), some (.int x3), some (.int x4), some (.int x5), some (.int (x6 + 1)), some (.int (f_R_whoIn I x6)), some (.int (f_M_kindOf 4 5 6 7 I (f_R_whoIn I x6))), some (.int (1 <<< ((f_M_wordOf 4 5 6 7 I (f_R_whoIn I x6) x3) &&& 31)))]) (st' := []) (h' := zH I P) 2 rfl ?_
                exact wp_forget (ih _ _ _ _ _ _ _ hx) (zle_c (zle_c (zle_c (zle_c (zle_c (zle_c (zle_c (zle_n (zle_n (zle_n zle_nil))))))))))
              · rw [if_neg c8] at hx
                refine wp_blk (pc' := 17) (L' := [some (.ref 12), some (.ref 4), some (.int x2), some (.int x3), some (.int x4), some (.int (x5 ||| (1 <<< ((f_M_wordOf 4 5 6 7 I (f_R_whoIn I x6) x3) &&& 31)))), some (.int (x6 + 1)), some (.int (f_R_whoIn I x6)), some (.int (f_M_kindOf 4 5 6 7 I (f_R_whoIn I x6))), some (.int (1 <<< ((f_M_wordOf 4 5 6 7 I (f_R_whoIn I x6) x3) &&& 31)))]) (st' := []) (h' := zH I P) 6 rfl ?_
                exact wp_forget (ih _ _ _ _ _ _ _ hx) (zle_c (zle_c (zle_c (zle_c (zle_c (zle_c (zle_c (zle_n (zle_n (zle_n zle_nil))))))))))
          · rw [if_neg c6] at hx
            refine wp_blk (pc' := 78) (L' := [some (.ref 12), some (.ref 4), some (.int x2), some (.int x3), some (.int x4), some (.int x5), some (.int x6), some (.int (f_R_whoIn I x6)), some (.int (f_M_kindOf 4 5 6 7 I (f_R_whoIn I x6))), some (.int (1 <<< ((f_M_wordOf 4 5 6 7 I (f_R_whoIn I x6) x3) &&& 31)))]) (st' := [.int (x5 &&& (1 <<< ((f_M_wordOf 4 5 6 7 I (f_R_whoIn I x6) x3) &&& 31)))]) (h' := zH I P) 3 rfl ?_
            refine wp_ne (a := x5 &&& (1 <<< ((f_M_wordOf 4 5 6 7 I (f_R_whoIn I x6) x3) &&& 31))) (b := 0) (s1 := (90, [some (.ref 12), some (.ref 4), some (.int x2), some (.int x3), some (.int x4), some (.int x5), some (.int x6), some (.int (f_R_whoIn I x6)), some (.int (f_M_kindOf 4 5 6 7 I (f_R_whoIn I x6))), some (.int (1 <<< ((f_M_wordOf 4 5 6 7 I (f_R_whoIn I x6) x3) &&& 31)))], [], zH I P)) (s2 := (81, [some (.ref 12), some (.ref 4), some (.int x2), some (.int x3), some (.int x4), some (.int x5), some (.int x6), some (.int (f_R_whoIn I x6)), some (.int (f_M_kindOf 4 5 6 7 I (f_R_whoIn I x6))), some (.int (1 <<< ((f_M_wordOf 4 5 6 7 I (f_R_whoIn I x6) x3) &&& 31)))], [], zH I P)) rfl (fun c9 => ?_) (fun c9 => ?_)
            · rw [if_neg c9] at hx
              refine wp_blk (pc' := 93) (L' := [some (.ref 12), some (.ref 4), some (.int x2), some (.int x3), some (.int x4), some (.int x5), some (.int x6), some (.int (f_R_whoIn I x6)), some (.int (f_M_kindOf 4 5 6 7 I (f_R_whoIn I x6))), some (.int (1 <<< ((f_M_wordOf 4 5 6 7 I (f_R_whoIn I x6) x3) &&& 31)))]) (st' := [.int 2, .int (f_M_kindOf 4 5 6 7 I (f_R_whoIn I x6))]) (h' := zH I P) 2 rfl ?_
              refine wp_eq (a := f_M_kindOf 4 5 6 7 I (f_R_whoIn I x6)) (b := 2) (s1 := (109, [some (.ref 12), some (.ref 4), some (.int x2), some (.int x3), some (.int x4), some (.int x5), some (.int x6), some (.int (f_R_whoIn I x6)), some (.int (f_M_kindOf 4 5 6 7 I (f_R_whoIn I x6))), some (.int (1 <<< ((f_M_wordOf 4 5 6 7 I (f_R_whoIn I x6) x3) &&& 31)))], [], zH I P)) (s2 := (96, [some (.ref 12), some (.ref 4), some (.int x2), some (.int x3), some (.int x4), some (.int x5), some (.int x6), some (.int (f_R_whoIn I x6)), some (.int (f_M_kindOf 4 5 6 7 I (f_R_whoIn I x6))), some (.int (1 <<< ((f_M_wordOf 4 5 6 7 I (f_R_whoIn I x6) x3) &&& 31)))], [], zH I P)) rfl (fun c10 => ?_) (fun c10 => ?_)
              · rw [if_pos c10] at hx
                refine wp_blk (pc' := 17) (L' := [some (.ref 12), some (.ref 4), some (.int x2), some (.int x3), some (.int x4), some (.int x5), some (.int (x6 + 1)), some (.int (f_R_whoIn I x6)), some (.int (f_M_kindOf 4 5 6 7 I (f_R_whoIn I x6))), some (.int (1 <<< ((f_M_wordOf 4 5 6 7 I (f_R_whoIn I x6) x3) &&& 31)))]) (st' := []) (h' := zH I P) 2 rfl ?_
                exact wp_forget (ih _ _ _ _ _ _ _ hx) (zle_c (zle_c (zle_c (zle_c (zle_c (zle_c (zle_c (zle_n (zle_n (zle_n zle_nil))))))))))
              · rw [if_neg c10] at hx
                refine wp_blk (pc' := 99) (L' := [some (.ref 12), some (.ref 4), some (.int x2), some (.int x3), some (.int x4), some (.int x5), some (.int x6), some (.int (f_R_whoIn I x6)), some (.int (f_M_kindOf 4 5 6 7 I (f_R_whoIn I x6))), some (.int (1 <<< ((f_M_wordOf 4 5 6 7 I (f_R_whoIn I x6) x3) &&& 31)))]) (st' := [.int 3, .int (f_M_kindOf 4 5 6 7 I (f_R_whoIn I x6))]) (h' := zH I P) 2 rfl ?_
                refine wp_eq (a := f_M_kindOf 4 5 6 7 I (f_R_whoIn I x6)) (b := 3) (s1 := (109, [some (.ref 12), some (.ref 4), some (.int x2), some (.int x3), some (.int x4), some (.int x5), some (.int x6), some (.int (f_R_whoIn I x6)), some (.int (f_M_kindOf 4 5 6 7 I (f_R_whoIn I x6))), some (.int (1 <<< ((f_M_wordOf 4 5 6 7 I (f_R_whoIn I x6) x3) &&& 31)))], [], zH I P)) (s2 := (102, [some (.ref 12), some (.ref 4), some (.int x2), some (.int x3), some (.int x4), some (.int x5), some (.int x6), some (.int (f_R_whoIn I x6)), some (.int (f_M_kindOf 4 5 6 7 I (f_R_whoIn I x6))), some (.int (1 <<< ((f_M_wordOf 4 5 6 7 I (f_R_whoIn I x6) x3) &&& 31)))], [], zH I P)) rfl (fun c11 => ?_) (fun c11 => ?_)
                · rw [if_pos c11] at hx
                  refine wp_blk (pc' := 17) (L' := [some (.ref 12), some (.ref 4), some (.int x2), some (.int x3), some (.int x4), some (.int x5), some (.int (x6 + 1)), some (.int (f_R_whoIn I x6)), some (.int (f_M_kindOf 4 5 6 7 I (f_R_whoIn I x6))), some (.int (1 <<< ((f_M_wordOf 4 5 6 7 I (f_R_whoIn I x6) x3) &&& 31)))]) (st' := []) (h' := zH I P) 2 rfl ?_
                  exact wp_forget (ih _ _ _ _ _ _ _ hx) (zle_c (zle_c (zle_c (zle_c (zle_c (zle_c (zle_c (zle_n (zle_n (zle_n zle_nil))))))))))
                · rw [if_neg c11] at hx
                  refine wp_blk (pc' := 17) (L' := [some (.ref 12), some (.ref 4), some (.int x2), some (.int x3), some (.int x4), some (.int (x5 ||| (1 <<< ((f_M_wordOf 4 5 6 7 I (f_R_whoIn I x6) x3) &&& 31)))), some (.int (x6 + 1)), some (.int (f_R_whoIn I x6)), some (.int (f_M_kindOf 4 5 6 7 I (f_R_whoIn I x6))), some (.int (1 <<< ((f_M_wordOf 4 5 6 7 I (f_R_whoIn I x6) x3) &&& 31)))]) (st' := []) (h' := zH I P) 6 rfl ?_
                  exact wp_forget (ih _ _ _ _ _ _ _ hx) (zle_c (zle_c (zle_c (zle_c (zle_c (zle_c (zle_c (zle_n (zle_n (zle_n zle_nil))))))))))
            · rw [if_pos c9] at hx
              refine wp_blk (pc' := 93) (L' := [some (.ref 12), some (.ref 4), some (.int x2), some (.int x3), some (.int (x4 ||| (1 <<< ((f_R_whoIn I x6) &&& 31)))), some (.int x5), some (.int x6), some (.int (f_R_whoIn I x6)), some (.int (f_M_kindOf 4 5 6 7 I (f_R_whoIn I x6))), some (.int (1 <<< ((f_M_wordOf 4 5 6 7 I (f_R_whoIn I x6) x3) &&& 31)))]) (st' := [.int 2, .int (f_M_kindOf 4 5 6 7 I (f_R_whoIn I x6))]) (h' := zH I P) 8 rfl ?_
              refine wp_eq (a := f_M_kindOf 4 5 6 7 I (f_R_whoIn I x6)) (b := 2) (s1 := (109, [some (.ref 12), some (.ref 4), some (.int x2), some (.int x3), some (.int (x4 ||| (1 <<< ((f_R_whoIn I x6) &&& 31)))), some (.int x5), some (.int x6), some (.int (f_R_whoIn I x6)), some (.int (f_M_kindOf 4 5 6 7 I (f_R_whoIn I x6))), some (.int (1 <<< ((f_M_wordOf 4 5 6 7 I (f_R_whoIn I x6) x3) &&& 31)))], [], zH I P)) (s2 := (96, [some (.ref 12), some (.ref 4), some (.int x2), some (.int x3), some (.int (x4 ||| (1 <<< ((f_R_whoIn I x6) &&& 31)))), some (.int x5), some (.int x6), some (.int (f_R_whoIn I x6)), some (.int (f_M_kindOf 4 5 6 7 I (f_R_whoIn I x6))), some (.int (1 <<< ((f_M_wordOf 4 5 6 7 I (f_R_whoIn I x6) x3) &&& 31)))], [], zH I P)) rfl (fun c12 => ?_) (fun c12 => ?_)
              · rw [if_pos c12] at hx
                refine wp_blk (pc' := 17) (L' := [some (.ref 12), some (.ref 4), some (.int x2), some (.int x3), some (.int (x4 ||| (1 <<< ((f_R_whoIn I x6) &&& 31)))), some (.int x5), some (.int (x6 + 1)), some (.int (f_R_whoIn I x6)), some (.int (f_M_kindOf 4 5 6 7 I (f_R_whoIn I x6))), some (.int (1 <<< ((f_M_wordOf 4 5 6 7 I (f_R_whoIn I x6) x3) &&& 31)))]) (st' := []) (h' := zH I P) 2 rfl ?_
                exact wp_forget (ih _ _ _ _ _ _ _ hx) (zle_c (zle_c (zle_c (zle_c (zle_c (zle_c (zle_c (zle_n (zle_n (zle_n zle_nil))))))))))
              · rw [if_neg c12] at hx
                refine wp_blk (pc' := 99) (L' := [some (.ref 12), some (.ref 4), some (.int x2), some (.int x3), some (.int (x4 ||| (1 <<< ((f_R_whoIn I x6) &&& 31)))), some (.int x5), some (.int x6), some (.int (f_R_whoIn I x6)), some (.int (f_M_kindOf 4 5 6 7 I (f_R_whoIn I x6))), some (.int (1 <<< ((f_M_wordOf 4 5 6 7 I (f_R_whoIn I x6) x3) &&& 31)))]) (st' := [.int 3, .int (f_M_kindOf 4 5 6 7 I (f_R_whoIn I x6))]) (h' := zH I P) 2 rfl ?_
                refine wp_eq (a := f_M_kindOf 4 5 6 7 I (f_R_whoIn I x6)) (b := 3) (s1 := (109, [some (.ref 12), some (.ref 4), some (.int x2), some (.int x3), some (.int (x4 ||| (1 <<< ((f_R_whoIn I x6) &&& 31)))), some (.int x5), some (.int x6), some (.int (f_R_whoIn I x6)), some (.int (f_M_kindOf 4 5 6 7 I (f_R_whoIn I x6))), some (.int (1 <<< ((f_M_wordOf 4 5 6 7 I (f_R_whoIn I x6) x3) &&& 31)))], [], zH I P)) (s2 := (102, [some (.ref 12), some (.ref 4), some (.int x2), some (.int x3), some (.int (x4 ||| (1 <<< ((f_R_whoIn I x6) &&& 31)))), some (.int x5), some (.int x6), some (.int (f_R_whoIn I x6)), some (.int (f_M_kindOf 4 5 6 7 I (f_R_whoIn I x6))), some (.int (1 <<< ((f_M_wordOf 4 5 6 7 I (f_R_whoIn I x6) x3) &&& 31)))], [], zH I P)) rfl (fun c13 => ?_) (fun c13 => ?_)
                · rw [if_pos c13] at hx
                  refine wp_blk (pc' := 17) (L' := [some (.ref 12), some (.ref 4), some (.int x2), some (.int x3), some (.int (x4 ||| (1 <<< ((f_R_whoIn I x6) &&& 31)))), some (.int x5), some (.int (x6 + 1)), some (.int (f_R_whoIn I x6)), some (.int (f_M_kindOf 4 5 6 7 I (f_R_whoIn I x6))), some (.int (1 <<< ((f_M_wordOf 4 5 6 7 I (f_R_whoIn I x6) x3) &&& 31)))]) (st' := []) (h' := zH I P) 2 rfl ?_
                  exact wp_forget (ih _ _ _ _ _ _ _ hx) (zle_c (zle_c (zle_c (zle_c (zle_c (zle_c (zle_c (zle_n (zle_n (zle_n zle_nil))))))))))
                · rw [if_neg c13] at hx
                  refine wp_blk (pc' := 17) (L' := [some (.ref 12), some (.ref 4), some (.int x2), some (.int x3), some (.int (x4 ||| (1 <<< ((f_R_whoIn I x6) &&& 31)))), some (.int (x5 ||| (1 <<< ((f_M_wordOf 4 5 6 7 I (f_R_whoIn I x6) x3) &&& 31)))), some (.int (x6 + 1)), some (.int (f_R_whoIn I x6)), some (.int (f_M_kindOf 4 5 6 7 I (f_R_whoIn I x6))), some (.int (1 <<< ((f_M_wordOf 4 5 6 7 I (f_R_whoIn I x6) x3) &&& 31)))]) (st' := []) (h' := zH I P) 6 rfl ?_
                  exact wp_forget (ih _ _ _ _ _ _ _ hx) (zle_c (zle_c (zle_c (zle_c (zle_c (zle_c (zle_c (zle_n (zle_n (zle_n zle_nil))))))))))
set_option maxRecDepth 100000 in
theorem xp_R_mouthBits_4 {X : Nat × (Nat → Int32)} (I : Nat → Nat → Int32) (P : Nat → Nat → Option Nat) (p : Int32) (r : Int32 × (Nat → Nat → Int32)) (hx : x_R_mouthBits 4 5 6 7 I p = some r) : Wf X 58 [some (.ref 12), some (.ref 4), some (.int p), none, none, none, none, none, none, none] (zH I P) (some (.int r.1)) (zH r.2 P) := by
  unfold Wf
  unfold x_R_mouthBits at hx
  refine wp_blk (pc' := 2) (L' := [some (.ref 12), some (.ref 4), some (.int p), none, none, none, none, none, none, none]) (st' := [.int p, .ref 12]) (h' := zH I P) 2 rfl ?_
  refine wp_callf (d := 56) (as := [.ref 12, .int p]) (rest := []) (Ld := [some (.ref 12), some (.int p)]) (pc' := 5) (st' := [.int (f_R_whoIn I p)]) (r := some (.int (f_R_whoIn I p))) (h1 := zH I P) rfl rfl rfl rfl rfl rfl rfl rfl rfl (sp_R_whoIn I P p) ?_
  refine wp_blk (pc' := 17) (L' := [some (.ref 12), some (.ref 4), some (.int p), some (.int (f_R_whoIn I p)), some (.int 0), some (.int 0), some (.int (p + 1)), none, none, none]) (st' := []) (h' := zH I P) 9 rfl ?_
  exact lp_R_mouthBits_17_4 P _ _ _ _ _ _ _ _ hx
set_option maxRecDepth 100000 in
theorem lp_R_mouthBits_17_8 {X : Nat × (Nat → Int32)} (P : Nat → Nat → Option Nat) : ∀ (n : Nat) (I : Nat → Nat → Int32) (x2 : Int32) (x3 : Int32) (x4 : Int32) (x5 : Int32) (x6 : Int32) (r : Int32 × (Nat → Nat → Int32)), l_R_mouthBits_17 8 9 10 11 n I x2 x3 x4 x5 x6 = some r → Wp X 58 17 [some (.ref 12), some (.ref 8), some (.int x2), some (.int x3), some (.int x4), some (.int x5), some (.int x6), none, none, none] [] (zH I P) (fun r2 h2 => r2 = some (.int r.1) ∧ h2 = zH r.2 P) := by
  intro n
  induction n with
  | zero => intro I x2 x3 x4 x5 x6 r hx; cases hx
  | succ n ih =>
    intro I x2 x3 x4 x5 x6 r hx
    rw [l_R_mouthBits_17] at hx
    refine wp_blk (pc' := 22) (L' := [some (.ref 12), some (.ref 8), some (.int x2), some (.int x3), some (.int x4), some (.int x5), some (.int x6), none, none, none]) (st' := [.int (x2 + 3), .int x6]) (h' := zH I P) 4 rfl ?_
    refine wp_gt (a := x6) (b := x2 + 3) (s1 := (115, [some (.ref 12), some (.ref 8), some (.int x2), some (.int x3), some (.int x4), some (.int x5), some (.int x6), none, none, none], [], zH I P)) (s2 := (25, [some (.ref 12), some (.ref 8), some (.int x2), some (.int x3), some (.int x4), some (.int x5), some (.int x6), none, none, none], [], zH I P)) rfl (fun c1 => ?_) (fun c1 => ?_)
    · rw [if_pos c1] at hx
      refine wp_blk (pc' := 117) (L' := [some (.ref 12), some (.ref 8), some (.int x2), some (.int x3), some (.int x4), some (.int x5), some (.int x6), none, none, none]) (st' := [.int x4]) (h' := zH I P) 1 rfl ?_
      cases hx
      exact wp_end rfl rfl ⟨rfl, rfl⟩
    · rw [if_neg c1] at hx
      refine wp_blk (pc' := 31) (L' := [some (.ref 12), some (.ref 8), some (.int x2), some (.int x3), some (.int x4), some (.int x5), some (.int x6), none, none, none]) (st' := [.int (I 12 2), .int x6]) (h' := zH I P) 3 rfl ?_
      refine wp_ge (a := x6) (b := I 12 2) (s1 := (115, [some (.ref 12), some (.ref 8), some (.int x2), some (.int x3), some (.int x4), some (.int x5), some (.int x6), none, none, none], [], zH I P)) (s2 := (34, [some (.ref 12), some (.ref 8), some (.int x2), some (.int x3), some (.int x4), some (.int x5), some (.int x6), none, none, none], [], zH I P)) rfl (fun c2 => ?_) (fun c2 => ?_)
      · rw [if_pos c2] at hx
        refine wp_blk (pc' := 117) (L' := [some (.ref 12), some (.ref 8), some (.int x2), some (.int x3), some (.int x4), some (.int x5), some (.int x6), none, none, none]) (st' := [.int x4]) (h' := zH I P) 1 rfl ?_
        cases hx
        exact wp_end rfl rfl ⟨rfl, rfl⟩
      · rw [if_neg c2] at hx
        refine wp_blk (pc' := 37) (L' := [some (.ref 12), some (.ref 8), some (.int x2), some (.int x3), some (.int x4), some (.int x5), some (.int x6), none, none, none]) (st' := [.int x6, .ref 12]) (h' := zH I P) 2 rfl ?_
        refine wp_callf (d := 56) (as := [.ref 12, .int x6]) (rest := []) (Ld := [some (.ref 12), some (.int x6)]) (pc' := 40) (st' := [.int (f_R_whoIn I x6)]) (r := some (.int (f_R_whoIn I x6))) (h1 := zH I P) rfl rfl rfl rfl rfl rfl rfl rfl rfl (sp_R_whoIn I P x6) ?_
        refine wp_blk (pc' := 45) (L' := [some (.ref 12), some (.ref 8), some (.int x2), some (.int x3), some (.int x4), some (.int x5), some (.int x6), some (.int (f_R_whoIn I x6)), none, none]) (st' := [.int (f_R_whoIn I x6), .ref 8]) (h' := zH I P) 3 rfl ?_
        refine wp_callf (d := 41) (as := [.ref 8, .int (f_R_whoIn I x6)]) (rest := []) (Ld := [some (.ref 8), some (.int (f_R_whoIn I x6))]) (pc' := 48) (st' := [.int (f_M_kindOf 8 9 10 11 I (f_R_whoIn I x6))]) (r := some (.int (f_M_kindOf 8 9 10 11 I (f_R_whoIn I x6)))) (h1 := zH I P) rfl rfl rfl rfl rfl rfl rfl rfl rfl (sp_M_kindOf_8 I P (f_R_whoIn I x6)) ?_
        refine wp_blk (pc' := 55) (L' := [some (.ref 12), some (.ref 8), some (.int x2), some (.int x3), some (.int x4), some (.int x5), some (.int x6), some (.int (f_R_whoIn I x6)), some (.int (f_M_kindOf 8 9 10 11 I (f_R_whoIn I x6))), none]) (st' := [.int x3, .int (f_R_whoIn I x6), .ref 8, .int 1]) (h' := zH I P) 5 rfl ?_
        refine wp_callf (d := 48) (as := [.ref 8, .int (f_R_whoIn I x6), .int x3]) (rest := [.int 1]) (Ld := [some (.ref 8), some (.int (f_R_whoIn I x6)), some (.int x3), none]) (pc' := 58) (st' := [.int (f_M_wordOf 8 9 10 11 I (f_R_whoIn I x6) x3), .int 1]) (r := some (.int (f_M_wordOf 8 9 10 11 I (f_R_whoIn I x6) x3))) (h1 := zH I P) rfl rfl rfl rfl rfl rfl rfl rfl rfl (sp_M_wordOf_8 I P (f_R_whoIn I x6) x3) ?_
        refine wp_blk (pc' := 64) (L' := [some (.ref 12), some (.ref 8), some (.int x2), some (.int x3), some (.int x4), some (.int x5), some (.int x6), some (.int (f_R_whoIn I x6)), some (.int (f_M_kindOf 8 9 10 11 I (f_R_whoIn I x6))), some (.int (1 <<< ((f_M_wordOf 8 9 10 11 I (f_R_whoIn I x6) x3) &&& 31)))]) (st' := [.int 2, .int (f_M_kindOf 8 9 10 11 I (f_R_whoIn I x6))]) (h' := zH I P) 4 rfl ?_
        refine wp_eq (a := f_M_kindOf 8 9 10 11 I (f_R_whoIn I x6)) (b := 2) (s1 := (81, [some (.ref 12), some (.ref 8), some (.int x2), some (.int x3), some (.int x4), some (.int x5), some (.int x6), some (.int (f_R_whoIn I x6)), some (.int (f_M_kindOf 8 9 10 11 I (f_R_whoIn I x6))), some (.int (1 <<< ((f_M_wordOf 8 9 10 11 I (f_R_whoIn I x6) x3) &&& 31)))], [], zH I P)) (s2 := (67, [some (.ref 12), some (.ref 8), some (.int x2), some (.int x3), some (.int x4), some (.int x5), some (.int x6), some (.int (f_R_whoIn I x6)), some (.int (f_M_kindOf 8 9 10 11 I (f_R_whoIn I x6))), some (.int (1 <<< ((f_M_wordOf 8 9 10 11 I (f_R_whoIn I x6) x3) &&& 31)))], [], zH I P)) rfl (fun c3 => ?_) (fun c3 => ?_)
        · rw [if_pos c3] at hx
          refine wp_blk (pc' := 93) (L' := [some (.ref 12), some (.ref 8), some (.int x2), some (.int x3), some (.int (x4 ||| (1 <<< ((f_R_whoIn I x6) &&& 31)))), some (.int x5), some (.int x6), some (.int (f_R_whoIn I x6)), some (.int (f_M_kindOf 8 9 10 11 I (f_R_whoIn I x6))), some (.int (1 <<< ((f_M_wordOf 8 9 10 11 I (f_R_whoIn I x6) x3) &&& 31)))]) (st' := [.int 2, .int (f_M_kindOf 8 9 10 11 I (f_R_whoIn I x6))]) (h' := zH I P) 8 rfl ?_
          refine wp_eq (a := f_M_kindOf 8 9 10 11 I (f_R_whoIn I x6)) (b := 2) (s1 := (109, [some (.ref 12), some (.ref 8), some (.int x2), some (.int x3), some (.int (x4 ||| (1 <<< ((f_R_whoIn I x6) &&& 31)))), some (.int x5), some (.int x6), some (.int (f_R_whoIn I x6)), some (.int (f_M_kindOf 8 9 10 11 I (f_R_whoIn I x6))), some (.int (1 <<< ((f_M_wordOf 8 9 10 11 I (f_R_whoIn I x6) x3) &&& 31)))], [], zH I P)) (s2 := (96, [some (.ref 12), some (.ref 8), some (.int x2), some (.int x3), some (.int (x4 ||| (1 <<< ((f_R_whoIn I x6) &&& 31)))), some (.int x5), some (.int x6), some (.int (f_R_whoIn I x6)), some (.int (f_M_kindOf 8 9 10 11 I (f_R_whoIn I x6))), some (.int (1 <<< ((f_M_wordOf 8 9 10 11 I (f_R_whoIn I x6) x3) &&& 31)))], [], zH I P)) rfl (fun c4 => ?_) (fun c4 => ?_)
          · rw [if_pos c4] at hx
            refine wp_blk (pc' := 17) (L' := [some (.ref 12), some (.ref 8), some (.int x2), some (.int x3), some (.int (x4 ||| (1 <<< ((f_R_whoIn I x6) &&& 31)))), some (.int x5), some (.int (x6 + 1)), some (.int (f_R_whoIn I x6)), some (.int (f_M_kindOf 8 9 10 11 I (f_R_whoIn I x6))), some (.int (1 <<< ((f_M_wordOf 8 9 10 11 I (f_R_whoIn I x6) x3) &&& 31)))]) (st' := []) (h' := zH I P) 2 rfl ?_
            exact wp_forget (ih _ _ _ _ _ _ _ hx) (zle_c (zle_c (zle_c (zle_c (zle_c (zle_c (zle_c (zle_n (zle_n (zle_n zle_nil))))))))))
          · rw [if_neg c4] at hx
            refine wp_blk (pc' := 99) (L' := [some (.ref 12), some (.ref 8), some (.int x2), some (.int x3), some (.int (x4 ||| (1 <<< ((f_R_whoIn I x6) &&& 31)))), some (.int x5), some (.int x6), some (.int (f_R_whoIn I x6)), some (.int (f_M_kindOf 8 9 10 11 I (f_R_whoIn I x6))), some (.int (1 <<< ((f_M_wordOf 8 9 10 11 I (f_R_whoIn I x6) x3) &&& 31)))]) (st' := [.int 3, .int (f_M_kindOf 8 9 10 11 I (f_R_whoIn I x6))]) (h' := zH I P) 2 rfl ?_
            refine wp_eq (a := f_M_kindOf 8 9 10 11 I (f_R_whoIn I x6)) (b := 3) (s1 := (109, [some (.ref 12), some (.ref 8), some (.int x2), some (.int x3), some (.int (x4 ||| (1 <<< ((f_R_whoIn I x6) &&& 31)))), some (.int x5), some (.int x6), some (.int (f_R_whoIn I x6)), some (.int (f_M_kindOf 8 9 10 11 I (f_R_whoIn I x6))), some (.int (1 <<< ((f_M_wordOf 8 9 10 11 I (f_R_whoIn I x6) x3) &&& 31)))], [], zH I P)) (s2 := (102, [some (.ref 12), some (.ref 8), some (.int x2), some (.int x3), some (.int (x4 ||| (1 <<< ((f_R_whoIn I x6) &&& 31)))), some (.int x5), some (.int x6), some (.int (f_R_whoIn I x6)), some (.int (f_M_kindOf 8 9 10 11 I (f_R_whoIn I x6))), some (.int (1 <<< ((f_M_wordOf 8 9 10 11 I (f_R_whoIn I x6) x3) &&& 31)))], [], zH I P)) rfl (fun c5 => ?_) (fun c5 => ?_)
            · rw [if_pos c5] at hx
              refine wp_blk (pc' := 17) (L' := [some (.ref 12), some (.ref 8), some (.int x2), some (.int x3), some (.int (x4 ||| (1 <<< ((f_R_whoIn I x6) &&& 31)))), some (.int x5), some (.int (x6 + 1)), some (.int (f_R_whoIn I x6)), some (.int (f_M_kindOf 8 9 10 11 I (f_R_whoIn I x6))), some (.int (1 <<< ((f_M_wordOf 8 9 10 11 I (f_R_whoIn I x6) x3) &&& 31)))]) (st' := []) (h' := zH I P) 2 rfl ?_
              exact wp_forget (ih _ _ _ _ _ _ _ hx) (zle_c (zle_c (zle_c (zle_c (zle_c (zle_c (zle_c (zle_n (zle_n (zle_n zle_nil))))))))))
            · rw [if_neg c5] at hx
              refine wp_blk (pc' := 17) (L' := [some (.ref 12), some (.ref 8), some (.int x2), some (.int x3), some (.int (x4 ||| (1 <<< ((f_R_whoIn I x6) &&& 31)))), some (.int (x5 ||| (1 <<< ((f_M_wordOf 8 9 10 11 I (f_R_whoIn I x6) x3) &&& 31)))), some (.int (x6 + 1)), some (.int (f_R_whoIn I x6)), some (.int (f_M_kindOf 8 9 10 11 I (f_R_whoIn I x6))), some (.int (1 <<< ((f_M_wordOf 8 9 10 11 I (f_R_whoIn I x6) x3) &&& 31)))]) (st' := []) (h' := zH I P) 6 rfl ?_
              exact wp_forget (ih _ _ _ _ _ _ _ hx) (zle_c (zle_c (zle_c (zle_c (zle_c (zle_c (zle_c (zle_n (zle_n (zle_n zle_nil))))))))))
        · rw [if_neg c3] at hx
          refine wp_blk (pc' := 70) (L' := [some (.ref 12), some (.ref 8), some (.int x2), some (.int x3), some (.int x4), some (.int x5), some (.int x6), some (.int (f_R_whoIn I x6)), some (.int (f_M_kindOf 8 9 10 11 I (f_R_whoIn I x6))), some (.int (1 <<< ((f_M_wordOf 8 9 10 11 I (f_R_whoIn I x6) x3) &&& 31)))]) (st' := [.int 3, .int (f_M_kindOf 8 9 10 11 I (f_R_whoIn I x6))]) (h' := zH I P) 2 rfl ?_
          refine wp_eq (a := f_M_kindOf 8 9 10 11 I (f_R_whoIn I x6)) (b := 3) (s1 := (90, [some (.ref 12), some (.ref 8), some (.int x2), some (.int x3), some (.int x4), some (.int x5), some (.int x6), some (.int (f_R_whoIn I x6)), some (.int (f_M_kindOf 8 9 10 11 I (f_R_whoIn I x6))), some (.int (1 <<< ((f_M_wordOf 8 9 10 11 I (f_R_whoIn I x6) x3) &&& 31)))], [], zH I P)) (s2 := (73, [some (.ref 12), some (.ref 8), some (.int x2), some (.int x3), some (.int x4), some (.int x5), some (.int x6), some (.int (f_R_whoIn I x6)), some (.int (f_M_kindOf 8 9 10 11 I (f_R_whoIn I x6))), some (.int (1 <<< ((f_M_wordOf 8 9 10 11 I (f_R_whoIn I x6) x3) &&& 31)))], [], zH I P)) rfl (fun c6 => ?_) (fun c6 => ?_)
          · rw [if_pos c6] at hx
            refine wp_blk (pc' := 93) (L' := [some (.ref 12), some (.ref 8), some (.int x2), some (.int x3), some (.int x4), some (.int x5), some (.int x6), some (.int (f_R_whoIn I x6)), some (.int (f_M_kindOf 8 9 10 11 I (f_R_whoIn I x6))), some (.int (1 <<< ((f_M_wordOf 8 9 10 11 I (f_R_whoIn I x6) x3) &&& 31)))]) (st' := [.int 2, .int (f_M_kindOf 8 9 10 11 I (f_R_whoIn I x6))]) (h' := zH I P) 2 rfl ?_
            refine wp_eq (a := f_M_kindOf 8 9 10 11 I (f_R_whoIn I x6)) (b := 2) (s1 := (109, [some (.ref 12), some (.ref 8), some (.int x2), some (.int x3), some (.int x4), some (.int x5), some (.int x6), some (.int (f_R_whoIn I x6)), some (.int (f_M_kindOf 8 9 10 11 I (f_R_whoIn I x6))), some (.int (1 <<< ((f_M_wordOf 8 9 10 11 I (f_R_whoIn I x6) x3) &&& 31)))], [], zH I P)) (s2 := (96, [some (.ref 12), some (.ref 8), some (.int x2), some (.int x3), some (.int x4), some (.int x5), some (.int x6), some (.int (f_R_whoIn I x6)), some (.int (f_M_kindOf 8 9 10 11 I (f_R_whoIn I x6))), some (.int (1 <<< ((f_M_wordOf 8 9 10 11 I (f_R_whoIn I x6) x3) &&& 31)))], [], zH I P)) rfl (fun c7 => ?_) (fun c7 => ?_)
            · rw [if_pos c7] at hx
              refine wp_blk (pc' := 17) (L' := [some (.ref 12), some (.ref 8), some (.int x2), some (.int x3), some (.int x4), some (.int x5), some (.int (x6 + 1)), some (.int (f_R_whoIn I x6)), some (.int (f_M_kindOf 8 9 10 11 I (f_R_whoIn I x6))), some (.int (1 <<< ((f_M_wordOf 8 9 10 11 I (f_R_whoIn I x6) x3) &&& 31)))]) (st' := []) (h' := zH I P) 2 rfl ?_
              exact wp_forget (ih _ _ _ _ _ _ _ hx) (zle_c (zle_c (zle_c (zle_c (zle_c (zle_c (zle_c (zle_n (zle_n (zle_n zle_nil))))))))))
            · rw [if_neg c7] at hx
              refine wp_blk (pc' := 99) (L' := [some (.ref 12), some (.ref 8), some (.int x2), some (.int x3), some (.int x4), some (.int x5), some (.int x6), some (.int (f_R_whoIn I x6)), some (.int (f_M_kindOf 8 9 10 11 I (f_R_whoIn I x6))), some (.int (1 <<< ((f_M_wordOf 8 9 10 11 I (f_R_whoIn I x6) x3) &&& 31)))]) (st' := [.int 3, .int (f_M_kindOf 8 9 10 11 I (f_R_whoIn I x6))]) (h' := zH I P) 2 rfl ?_
              refine wp_eq (a := f_M_kindOf 8 9 10 11 I (f_R_whoIn I x6)) (b := 3) (s1 := (109, [some (.ref 12), some (.ref 8), some (.int x2), some (.int x3), some (.int x4), some (.int x5), some (.int x6), some (.int (f_R_whoIn I x6)), some (.int (f_M_kindOf 8 9 10 11 I (f_R_whoIn I x6))), some (.int (1 <<< ((f_M_wordOf 8 9 10 11 I (f_R_whoIn I x6) x3) &&& 31)))], [], zH I P)) (s2 := (102, [some (.ref 12), some (.ref 8), some (.int x2), some (.int x3), some (.int x4), some (.int x5), some (.int x6), some (.int (f_R_whoIn I x6)), some (.int (f_M_kindOf 8 9 10 11 I (f_R_whoIn I x6))), some (.int (1 <<< ((f_M_wordOf 8 9 10 11 I (f_R_whoIn I x6) x3) &&& 31)))], [], zH I P)) rfl (fun c8 => ?_) (fun c8 => ?_)
              · rw [if_pos c8] at hx
                refine wp_blk (pc' := 17) (L' := [some (.ref 12), some (.ref 8), some (.int x2), some (.int x3), some (.int x4), some (.int x5), some (.int (x6 + 1)), some (.int (f_R_whoIn I x6)), some (.int (f_M_kindOf 8 9 10 11 I (f_R_whoIn I x6))), some (.int (1 <<< ((f_M_wordOf 8 9 10 11 I (f_R_whoIn I x6) x3) &&& 31)))]) (st' := []) (h' := zH I P) 2 rfl ?_
                exact wp_forget (ih _ _ _ _ _ _ _ hx) (zle_c (zle_c (zle_c (zle_c (zle_c (zle_c (zle_c (zle_n (zle_n (zle_n zle_nil))))))))))
              · rw [if_neg c8] at hx
                refine wp_blk (pc' := 17) (L' := [some (.ref 12), some (.ref 8), some (.int x2), some (.int x3), some (.int x4), some (.int (x5 ||| (1 <<< ((f_M_wordOf 8 9 10 11 I (f_R_whoIn I x6) x3) &&& 31)))), some (.int (x6 + 1)), some (.int (f_R_whoIn I x6)), some (.int (f_M_kindOf 8 9 10 11 I (f_R_whoIn I x6))), some (.int (1 <<< ((f_M_wordOf 8 9 10 11 I (f_R_whoIn I x6) x3) &&& 31)))]) (st' := []) (h' := zH I P) 6 rfl ?_
                exact wp_forget (ih _ _ _ _ _ _ _ hx) (zle_c (zle_c (zle_c (zle_c (zle_c (zle_c (zle_c (zle_n (zle_n (zle_n zle_nil))))))))))
          · rw [if_neg c6] at hx
            refine wp_blk (pc' := 78) (L' := [some (.ref 12), some (.ref 8), some (.int x2), some (.int x3), some (.int x4), some (.int x5), some (.int x6), some (.int (f_R_whoIn I x6)), some (.int (f_M_kindOf 8 9 10 11 I (f_R_whoIn I x6))), some (.int (1 <<< ((f_M_wordOf 8 9 10 11 I (f_R_whoIn I x6) x3) &&& 31)))]) (st' := [.int (x5 &&& (1 <<< ((f_M_wordOf 8 9 10 11 I (f_R_whoIn I x6) x3) &&& 31)))]) (h' := zH I P) 3 rfl ?_
            refine wp_ne (a := x5 &&& (1 <<< ((f_M_wordOf 8 9 10 11 I (f_R_whoIn I x6) x3) &&& 31))) (b := 0) (s1 := (90, [some (.ref 12), some (.ref 8), some (.int x2), some (.int x3), some (.int x4), some (.int x5), some (.int x6), some (.int (f_R_whoIn I x6)), some (.int (f_M_kindOf 8 9 10 11 I (f_R_whoIn I x6))), some (.int (1 <<< ((f_M_wordOf 8 9 10 11 I (f_R_whoIn I x6) x3) &&& 31)))], [], zH I P)) (s2 := (81, [some (.ref 12), some (.ref 8), some (.int x2), some (.int x3), some (.int x4), some (.int x5), some (.int x6), some (.int (f_R_whoIn I x6)), some (.int (f_M_kindOf 8 9 10 11 I (f_R_whoIn I x6))), some (.int (1 <<< ((f_M_wordOf 8 9 10 11 I (f_R_whoIn I x6) x3) &&& 31)))], [], zH I P)) rfl (fun c9 => ?_) (fun c9 => ?_)
            · rw [if_neg c9] at hx
              refine wp_blk (pc' := 93) (L' := [some (.ref 12), some (.ref 8), some (.int x2), some (.int x3), some (.int x4), some (.int x5), some (.int x6), some (.int (f_R_whoIn I x6)), some (.int (f_M_kindOf 8 9 10 11 I (f_R_whoIn I x6))), some (.int (1 <<< ((f_M_wordOf 8 9 10 11 I (f_R_whoIn I x6) x3) &&& 31)))]) (st' := [.int 2, .int (f_M_kindOf 8 9 10 11 I (f_R_whoIn I x6))]) (h' := zH I P) 2 rfl ?_
              refine wp_eq (a := f_M_kindOf 8 9 10 11 I (f_R_whoIn I x6)) (b := 2) (s1 := (109, [some (.ref 12), some (.ref 8), some (.int x2), some (.int x3), some (.int x4), some (.int x5), some (.int x6), some (.int (f_R_whoIn I x6)), some (.int (f_M_kindOf 8 9 10 11 I (f_R_whoIn I x6))), some (.int (1 <<< ((f_M_wordOf 8 9 10 11 I (f_R_whoIn I x6) x3) &&& 31)))], [], zH I P)) (s2 := (96, [some (.ref 12), some (.ref 8), some (.int x2), some (.int x3), some (.int x4), some (.int x5), some (.int x6), some (.int (f_R_whoIn I x6)), some (.int (f_M_kindOf 8 9 10 11 I (f_R_whoIn I x6))), some (.int (1 <<< ((f_M_wordOf 8 9 10 11 I (f_R_whoIn I x6) x3) &&& 31)))], [], zH I P)) rfl (fun c10 => ?_) (fun c10 => ?_)
              · rw [if_pos c10] at hx
                refine wp_blk (pc' := 17) (L' := [some (.ref 12), some (.ref 8), some (.int x2), some (.int x3), some (.int x4), some (.int x5), some (.int (x6 + 1)), some (.int (f_R_whoIn I x6)), some (.int (f_M_kindOf 8 9 10 11 I (f_R_whoIn I x6))), some (.int (1 <<< ((f_M_wordOf 8 9 10 11 I (f_R_whoIn I x6) x3) &&& 31)))]) (st' := []) (h' := zH I P) 2 rfl ?_
                exact wp_forget (ih _ _ _ _ _ _ _ hx) (zle_c (zle_c (zle_c (zle_c (zle_c (zle_c (zle_c (zle_n (zle_n (zle_n zle_nil))))))))))
              · rw [if_neg c10] at hx
                refine wp_blk (pc' := 99) (L' := [some (.ref 12), some (.ref 8), some (.int x2), some (.int x3), some (.int x4), some (.int x5), some (.int x6), some (.int (f_R_whoIn I x6)), some (.int (f_M_kindOf 8 9 10 11 I (f_R_whoIn I x6))), some (.int (1 <<< ((f_M_wordOf 8 9 10 11 I (f_R_whoIn I x6) x3) &&& 31)))]) (st' := [.int 3, .int (f_M_kindOf 8 9 10 11 I (f_R_whoIn I x6))]) (h' := zH I P) 2 rfl ?_
                refine wp_eq (a := f_M_kindOf 8 9 10 11 I (f_R_whoIn I x6)) (b := 3) (s1 := (109, [some (.ref 12), some (.ref 8), some (.int x2), some (.int x3), some (.int x4), some (.int x5), some (.int x6), some (.int (f_R_whoIn I x6)), some (.int (f_M_kindOf 8 9 10 11 I (f_R_whoIn I x6))), some (.int (1 <<< ((f_M_wordOf 8 9 10 11 I (f_R_whoIn I x6) x3) &&& 31)))], [], zH I P)) (s2 := (102, [some (.ref 12), some (.ref 8), some (.int x2), some (.int x3), some (.int x4), some (.int x5), some (.int x6), some (.int (f_R_whoIn I x6)), some (.int (f_M_kindOf 8 9 10 11 I (f_R_whoIn I x6))), some (.int (1 <<< ((f_M_wordOf 8 9 10 11 I (f_R_whoIn I x6) x3) &&& 31)))], [], zH I P)) rfl (fun c11 => ?_) (fun c11 => ?_)
                · rw [if_pos c11] at hx
                  refine wp_blk (pc' := 17) (L' := [some (.ref 12), some (.ref 8), some (.int x2), some (.int x3), some (.int x4), some (.int x5), some (.int (x6 + 1)), some (.int (f_R_whoIn I x6)), some (.int (f_M_kindOf 8 9 10 11 I (f_R_whoIn I x6))), some (.int (1 <<< ((f_M_wordOf 8 9 10 11 I (f_R_whoIn I x6) x3) &&& 31)))]) (st' := []) (h' := zH I P) 2 rfl ?_
                  exact wp_forget (ih _ _ _ _ _ _ _ hx) (zle_c (zle_c (zle_c (zle_c (zle_c (zle_c (zle_c (zle_n (zle_n (zle_n zle_nil))))))))))
                · rw [if_neg c11] at hx
                  refine wp_blk (pc' := 17) (L' := [some (.ref 12), some (.ref 8), some (.int x2), some (.int x3), some (.int x4), some (.int (x5 ||| (1 <<< ((f_M_wordOf 8 9 10 11 I (f_R_whoIn I x6) x3) &&& 31)))), some (.int (x6 + 1)), some (.int (f_R_whoIn I x6)), some (.int (f_M_kindOf 8 9 10 11 I (f_R_whoIn I x6))), some (.int (1 <<< ((f_M_wordOf 8 9 10 11 I (f_R_whoIn I x6) x3) &&& 31)))]) (st' := []) (h' := zH I P) 6 rfl ?_
                  exact wp_forget (ih _ _ _ _ _ _ _ hx) (zle_c (zle_c (zle_c (zle_c (zle_c (zle_c (zle_c (zle_n (zle_n (zle_n zle_nil))))))))))
            · rw [if_pos c9] at hx
              refine wp_blk (pc' := 93) (L' := [some (.ref 12), some (.ref 8), some (.int x2), some (.int x3), some (.int (x4 ||| (1 <<< ((f_R_whoIn I x6) &&& 31)))), some (.int x5), some (.int x6), some (.int (f_R_whoIn I x6)), some (.int (f_M_kindOf 8 9 10 11 I (f_R_whoIn I x6))), some (.int (1 <<< ((f_M_wordOf 8 9 10 11 I (f_R_whoIn I x6) x3) &&& 31)))]) (st' := [.int 2, .int (f_M_kindOf 8 9 10 11 I (f_R_whoIn I x6))]) (h' := zH I P) 8 rfl ?_
              refine wp_eq (a := f_M_kindOf 8 9 10 11 I (f_R_whoIn I x6)) (b := 2) (s1 := (109, [some (.ref 12), some (.ref 8), some (.int x2), some (.int x3), some (.int (x4 ||| (1 <<< ((f_R_whoIn I x6) &&& 31)))), some (.int x5), some (.int x6), some (.int (f_R_whoIn I x6)), some (.int (f_M_kindOf 8 9 10 11 I (f_R_whoIn I x6))), some (.int (1 <<< ((f_M_wordOf 8 9 10 11 I (f_R_whoIn I x6) x3) &&& 31)))], [], zH I P)) (s2 := (96, [some (.ref 12), some (.ref 8), some (.int x2), some (.int x3), some (.int (x4 ||| (1 <<< ((f_R_whoIn I x6) &&& 31)))), some (.int x5), some (.int x6), some (.int (f_R_whoIn I x6)), some (.int (f_M_kindOf 8 9 10 11 I (f_R_whoIn I x6))), some (.int (1 <<< ((f_M_wordOf 8 9 10 11 I (f_R_whoIn I x6) x3) &&& 31)))], [], zH I P)) rfl (fun c12 => ?_) (fun c12 => ?_)
              · rw [if_pos c12] at hx
                refine wp_blk (pc' := 17) (L' := [some (.ref 12), some (.ref 8), some (.int x2), some (.int x3), some (.int (x4 ||| (1 <<< ((f_R_whoIn I x6) &&& 31)))), some (.int x5), some (.int (x6 + 1)), some (.int (f_R_whoIn I x6)), some (.int (f_M_kindOf 8 9 10 11 I (f_R_whoIn I x6))), some (.int (1 <<< ((f_M_wordOf 8 9 10 11 I (f_R_whoIn I x6) x3) &&& 31)))]) (st' := []) (h' := zH I P) 2 rfl ?_
                exact wp_forget (ih _ _ _ _ _ _ _ hx) (zle_c (zle_c (zle_c (zle_c (zle_c (zle_c (zle_c (zle_n (zle_n (zle_n zle_nil))))))))))
              · rw [if_neg c12] at hx
                refine wp_blk (pc' := 99) (L' := [some (.ref 12), some (.ref 8), some (.int x2), some (.int x3), some (.int (x4 ||| (1 <<< ((f_R_whoIn I x6) &&& 31)))), some (.int x5), some (.int x6), some (.int (f_R_whoIn I x6)), some (.int (f_M_kindOf 8 9 10 11 I (f_R_whoIn I x6))), some (.int (1 <<< ((f_M_wordOf 8 9 10 11 I (f_R_whoIn I x6) x3) &&& 31)))]) (st' := [.int 3, .int (f_M_kindOf 8 9 10 11 I (f_R_whoIn I x6))]) (h' := zH I P) 2 rfl ?_
                refine wp_eq (a := f_M_kindOf 8 9 10 11 I (f_R_whoIn I x6)) (b := 3) (s1 := (109, [some (.ref 12), some (.ref 8), some (.int x2), some (.int x3), some (.int (x4 ||| (1 <<< ((f_R_whoIn I x6) &&& 31)))), some (.int x5), some (.int x6), some (.int (f_R_whoIn I x6)), some (.int (f_M_kindOf 8 9 10 11 I (f_R_whoIn I x6))), some (.int (1 <<< ((f_M_wordOf 8 9 10 11 I (f_R_whoIn I x6) x3) &&& 31)))], [], zH I P)) (s2 := (102, [some (.ref 12), some (.ref 8), some (.int x2), some (.int x3), some (.int (x4 ||| (1 <<< ((f_R_whoIn I x6) &&& 31)))), some (.int x5), some (.int x6), some (.int (f_R_whoIn I x6)), some (.int (f_M_kindOf 8 9 10 11 I (f_R_whoIn I x6))), some (.int (1 <<< ((f_M_wordOf 8 9 10 11 I (f_R_whoIn I x6) x3) &&& 31)))], [], zH I P)) rfl (fun c13 => ?_) (fun c13 => ?_)
                · rw [if_pos c13] at hx
                  refine wp_blk (pc' := 17) (L' := [some (.ref 12), some (.ref 8), some (.int x2), some (.int x3), some (.int (x4 ||| (1 <<< ((f_R_whoIn I x6) &&& 31)))), some (.int x5), some (.int (x6 + 1)), some (.int (f_R_whoIn I x6)), some (.int (f_M_kindOf 8 9 10 11 I (f_R_whoIn I x6))), some (.int (1 <<< ((f_M_wordOf 8 9 10 11 I (f_R_whoIn I x6) x3) &&& 31)))]) (st' := []) (h' := zH I P) 2 rfl ?_
                  exact wp_forget (ih _ _ _ _ _ _ _ hx) (zle_c (zle_c (zle_c (zle_c (zle_c (zle_c (zle_c (zle_n (zle_n (zle_n zle_nil))))))))))
                · rw [if_neg c13] at hx
                  refine wp_blk (pc' := 17) (L' := [some (.ref 12), some (.ref 8), some (.int x2), some (.int x3), some (.int (x4 ||| (1 <<< ((f_R_whoIn I x6) &&& 31)))), some (.int (x5 ||| (1 <<< ((f_M_wordOf 8 9 10 11 I (f_R_whoIn I x6) x3) &&& 31)))), some (.int (x6 + 1)), some (.int (f_R_whoIn I x6)), some (.int (f_M_kindOf 8 9 10 11 I (f_R_whoIn I x6))), some (.int (1 <<< ((f_M_wordOf 8 9 10 11 I (f_R_whoIn I x6) x3) &&& 31)))]) (st' := []) (h' := zH I P) 6 rfl ?_
                  exact wp_forget (ih _ _ _ _ _ _ _ hx) (zle_c (zle_c (zle_c (zle_c (zle_c (zle_c (zle_c (zle_n (zle_n (zle_n zle_nil))))))))))
set_option maxRecDepth 100000 in
theorem xp_R_mouthBits_8 {X : Nat × (Nat → Int32)} (I : Nat → Nat → Int32) (P : Nat → Nat → Option Nat) (p : Int32) (r : Int32 × (Nat → Nat → Int32)) (hx : x_R_mouthBits 8 9 10 11 I p = some r) : Wf X 58 [some (.ref 12), some (.ref 8), some (.int p), none, none, none, none, none, none, none] (zH I P) (some (.int r.1)) (zH r.2 P) := by
  unfold Wf
  unfold x_R_mouthBits at hx
  refine wp_blk (pc' := 2) (L' := [some (.ref 12), some (.ref 8), some (.int p), none, none, none, none, none, none, none]) (st' := [.int p, .ref 12]) (h' := zH I P) 2 rfl ?_
  refine wp_callf (d := 56) (as := [.ref 12, .int p]) (rest := []) (Ld := [some (.ref 12), some (.int p)]) (pc' := 5) (st' := [.int (f_R_whoIn I p)]) (r := some (.int (f_R_whoIn I p))) (h1 := zH I P) rfl rfl rfl rfl rfl rfl rfl rfl rfl (sp_R_whoIn I P p) ?_
  refine wp_blk (pc' := 17) (L' := [some (.ref 12), some (.ref 8), some (.int p), some (.int (f_R_whoIn I p)), some (.int 0), some (.int 0), some (.int (p + 1)), none, none, none]) (st' := []) (h' := zH I P) 9 rfl ?_
  exact lp_R_mouthBits_17_8 P _ _ _ _ _ _ _ _ hx
def l_R_hearsay_13 (m mk ml mt : Nat) : Nat → (Nat → Nat → Int32) → Int32 → Int32 → Int32 → Int32 → Option (Int32 × (Nat → Nat → Int32))
  | 0, _, _, _, _, _ => none
  | n + 1, I, x2, x3, x4, x5 => if f_M_size m mk ml mt I ≤ x5 then (some (x4, I)) else (if f_G_isIn I x3 x5 = 0 then (l_R_hearsay_13 m mk ml mt n I x2 x3 x4 (x5 + 1)) else ((x_M_worthOf m mk ml mt I x5 (f_R_whoIn I x2)).bind (fun q2 => l_R_hearsay_13 m mk ml mt n q2.2 x2 x3 (x4 + q2.1) (x5 + 1))))
def x_R_hearsay (m mk ml mt : Nat) (I : Nat → Nat → Int32) (p : Int32) : Option (Int32 × (Nat → Nat → Int32)) := (x_R_mouthBits m mk ml mt I p).bind (fun q1 => l_R_hearsay_13 m mk ml mt 1000 q1.2 p q1.1 0 0)
set_option maxRecDepth 100000 in
theorem lp_R_hearsay_13_4 {X : Nat × (Nat → Int32)} (P : Nat → Nat → Option Nat) : ∀ (n : Nat) (I : Nat → Nat → Int32) (x2 : Int32) (x3 : Int32) (x4 : Int32) (x5 : Int32) (r : Int32 × (Nat → Nat → Int32)), l_R_hearsay_13 4 5 6 7 n I x2 x3 x4 x5 = some r → Wp X 57 13 [some (.ref 12), some (.ref 4), some (.int x2), some (.int x3), some (.int x4), some (.int x5)] [] (zH I P) (fun r2 h2 => r2 = some (.int r.1) ∧ h2 = zH r.2 P) := by
  intro n
  induction n with
  | zero => intro I x2 x3 x4 x5 r hx; cases hx
  | succ n ih =>
    intro I x2 x3 x4 x5 r hx
    rw [l_R_hearsay_13] at hx
    refine wp_blk (pc' := 16) (L' := [some (.ref 12), some (.ref 4), some (.int x2), some (.int x3), some (.int x4), some (.int x5)]) (st' := [.ref 4, .int x5]) (h' := zH I P) 2 rfl ?_
    refine wp_callf (d := 36) (as := [.ref 4]) (rest := [.int x5]) (Ld := [some (.ref 4)]) (pc' := 19) (st' := [.int (f_M_size 4 5 6 7 I), .int x5]) (r := some (.int (f_M_size 4 5 6 7 I))) (h1 := zH I P) rfl rfl rfl rfl rfl rfl rfl rfl rfl (sp_M_size_4 I P) ?_
    refine wp_ge (a := x5) (b := f_M_size 4 5 6 7 I) (s1 := (53, [some (.ref 12), some (.ref 4), some (.int x2), some (.int x3), some (.int x4), some (.int x5)], [], zH I P)) (s2 := (22, [some (.ref 12), some (.ref 4), some (.int x2), some (.int x3), some (.int x4), some (.int x5)], [], zH I P)) rfl (fun c1 => ?_) (fun c1 => ?_)
    · rw [if_pos c1] at hx
      refine wp_blk (pc' := 55) (L' := [some (.ref 12), some (.ref 4), some (.int x2), some (.int x3), some (.int x4), some (.int x5)]) (st' := [.int x4]) (h' := zH I P) 1 rfl ?_
      cases hx
      exact wp_end rfl rfl ⟨rfl, rfl⟩
    · rw [if_neg c1] at hx
      refine wp_blk (pc' := 25) (L' := [some (.ref 12), some (.ref 4), some (.int x2), some (.int x3), some (.int x4), some (.int x5)]) (st' := [.int x5, .int x3]) (h' := zH I P) 2 rfl ?_
      refine wp_callf (d := 45) (as := [.int x3, .int x5]) (rest := []) (Ld := [some (.int x3), some (.int x5)]) (pc' := 28) (st' := [.int (f_G_isIn I x3 x5)]) (r := some (.int (f_G_isIn I x3 x5))) (h1 := zH I P) rfl rfl rfl rfl rfl rfl rfl rfl rfl (sp_G_isIn I P x3 x5) ?_
      refine wp_eq (a := f_G_isIn I x3 x5) (b := 0) (s1 := (47, [some (.ref 12), some (.ref 4), some (.int x2), some (.int x3), some (.int x4), some (.int x5)], [], zH I P)) (s2 := (31, [some (.ref 12), some (.ref 4), some (.int x2), some (.int x3), some (.int x4), some (.int x5)], [], zH I P)) rfl (fun c2 => ?_) (fun c2 => ?_)
      · rw [if_pos c2] at hx
        refine wp_blk (pc' := 13) (L' := [some (.ref 12), some (.ref 4), some (.int x2), some (.int x3), some (.int x4), some (.int (x5 + 1))]) (st' := []) (h' := zH I P) 2 rfl ?_
        exact ih _ _ _ _ _ _ hx
      · rw [if_neg c2] at hx
        refine wp_blk (pc' := 38) (L' := [some (.ref 12), some (.ref 4), some (.int x2), some (.int x3), some (.int x4), some (.int x5)]) (st' := [.int x2, .ref 12, .int x5, .ref 4, .int x4]) (h' := zH I P) 5 rfl ?_
        refine wp_callf (d := 56) (as := [.ref 12, .int x2]) (rest := [.int x5, .ref 4, .int x4]) (Ld := [some (.ref 12), some (.int x2)]) (pc' := 41) (st' := [.int (f_R_whoIn I x2), .int x5, .ref 4, .int x4]) (r := some (.int (f_R_whoIn I x2))) (h1 := zH I P) rfl rfl rfl rfl rfl rfl rfl rfl rfl (sp_R_whoIn I P x2) ?_
        obtain ⟨y1, hy1, hx⟩ := zbind hx
        refine wp_callf (d := 59) (as := [.ref 4, .int x5, .int (f_R_whoIn I x2)]) (rest := [.int x4]) (Ld := [some (.ref 4), some (.int x5), some (.int (f_R_whoIn I x2)), none]) (pc' := 44) (st' := [.int y1.1, .int x4]) (r := some (.int y1.1)) (h1 := zH y1.2 P) rfl rfl rfl rfl rfl rfl rfl rfl rfl (xp_M_worthOf_4 _ _ _ _ _ hy1) ?_
        refine wp_blk (pc' := 13) (L' := [some (.ref 12), some (.ref 4), some (.int x2), some (.int x3), some (.int (x4 + y1.1)), some (.int (x5 + 1))]) (st' := []) (h' := zH y1.2 P) 4 rfl ?_
        exact ih _ _ _ _ _ _ hx
set_option maxRecDepth 100000 in
theorem xp_R_hearsay_4 {X : Nat × (Nat → Int32)} (I : Nat → Nat → Int32) (P : Nat → Nat → Option Nat) (p : Int32) (r : Int32 × (Nat → Nat → Int32)) (hx : x_R_hearsay 4 5 6 7 I p = some r) : Wf X 57 [some (.ref 12), some (.ref 4), some (.int p), none, none, none] (zH I P) (some (.int r.1)) (zH r.2 P) := by
  unfold Wf
  unfold x_R_hearsay at hx
  refine wp_blk (pc' := 3) (L' := [some (.ref 12), some (.ref 4), some (.int p), none, none, none]) (st' := [.int p, .ref 4, .ref 12]) (h' := zH I P) 3 rfl ?_
  obtain ⟨y1, hy1, hx⟩ := zbind hx
  refine wp_callf (d := 58) (as := [.ref 12, .ref 4, .int p]) (rest := []) (Ld := [some (.ref 12), some (.ref 4), some (.int p), none, none, none, none, none, none, none]) (pc' := 6) (st' := [.int y1.1]) (r := some (.int y1.1)) (h1 := zH y1.2 P) rfl rfl rfl rfl rfl rfl rfl rfl rfl (xp_R_mouthBits_4 _ _ _ _ hy1) ?_
  refine wp_blk (pc' := 13) (L' := [some (.ref 12), some (.ref 4), some (.int p), some (.int y1.1), some (.int 0), some (.int 0)]) (st' := []) (h' := zH y1.2 P) 5 rfl ?_
  exact lp_R_hearsay_13_4 P _ _ _ _ _ _ _ hx
set_option maxRecDepth 100000 in
theorem lp_R_hearsay_13_8 {X : Nat × (Nat → Int32)} (P : Nat → Nat → Option Nat) : ∀ (n : Nat) (I : Nat → Nat → Int32) (x2 : Int32) (x3 : Int32) (x4 : Int32) (x5 : Int32) (r : Int32 × (Nat → Nat → Int32)), l_R_hearsay_13 8 9 10 11 n I x2 x3 x4 x5 = some r → Wp X 57 13 [some (.ref 12), some (.ref 8), some (.int x2), some (.int x3), some (.int x4), some (.int x5)] [] (zH I P) (fun r2 h2 => r2 = some (.int r.1) ∧ h2 = zH r.2 P) := by
  intro n
  induction n with
  | zero => intro I x2 x3 x4 x5 r hx; cases hx
  | succ n ih =>
    intro I x2 x3 x4 x5 r hx
    rw [l_R_hearsay_13] at hx
    refine wp_blk (pc' := 16) (L' := [some (.ref 12), some (.ref 8), some (.int x2), some (.int x3), some (.int x4), some (.int x5)]) (st' := [.ref 8, .int x5]) (h' := zH I P) 2 rfl ?_
    refine wp_callf (d := 36) (as := [.ref 8]) (rest := [.int x5]) (Ld := [some (.ref 8)]) (pc' := 19) (st' := [.int (f_M_size 8 9 10 11 I), .int x5]) (r := some (.int (f_M_size 8 9 10 11 I))) (h1 := zH I P) rfl rfl rfl rfl rfl rfl rfl rfl rfl (sp_M_size_8 I P) ?_
    refine wp_ge (a := x5) (b := f_M_size 8 9 10 11 I) (s1 := (53, [some (.ref 12), some (.ref 8), some (.int x2), some (.int x3), some (.int x4), some (.int x5)], [], zH I P)) (s2 := (22, [some (.ref 12), some (.ref 8), some (.int x2), some (.int x3), some (.int x4), some (.int x5)], [], zH I P)) rfl (fun c1 => ?_) (fun c1 => ?_)
    · rw [if_pos c1] at hx
      refine wp_blk (pc' := 55) (L' := [some (.ref 12), some (.ref 8), some (.int x2), some (.int x3), some (.int x4), some (.int x5)]) (st' := [.int x4]) (h' := zH I P) 1 rfl ?_
      cases hx
      exact wp_end rfl rfl ⟨rfl, rfl⟩
    · rw [if_neg c1] at hx
      refine wp_blk (pc' := 25) (L' := [some (.ref 12), some (.ref 8), some (.int x2), some (.int x3), some (.int x4), some (.int x5)]) (st' := [.int x5, .int x3]) (h' := zH I P) 2 rfl ?_
      refine wp_callf (d := 45) (as := [.int x3, .int x5]) (rest := []) (Ld := [some (.int x3), some (.int x5)]) (pc' := 28) (st' := [.int (f_G_isIn I x3 x5)]) (r := some (.int (f_G_isIn I x3 x5))) (h1 := zH I P) rfl rfl rfl rfl rfl rfl rfl rfl rfl (sp_G_isIn I P x3 x5) ?_
      refine wp_eq (a := f_G_isIn I x3 x5) (b := 0) (s1 := (47, [some (.ref 12), some (.ref 8), some (.int x2), some (.int x3), some (.int x4), some (.int x5)], [], zH I P)) (s2 := (31, [some (.ref 12), some (.ref 8), some (.int x2), some (.int x3), some (.int x4), some (.int x5)], [], zH I P)) rfl (fun c2 => ?_) (fun c2 => ?_)
      · rw [if_pos c2] at hx
        refine wp_blk (pc' := 13) (L' := [some (.ref 12), some (.ref 8), some (.int x2), some (.int x3), some (.int x4), some (.int (x5 + 1))]) (st' := []) (h' := zH I P) 2 rfl ?_
        exact ih _ _ _ _ _ _ hx
      · rw [if_neg c2] at hx
        refine wp_blk (pc' := 38) (L' := [some (.ref 12), some (.ref 8), some (.int x2), some (.int x3), some (.int x4), some (.int x5)]) (st' := [.int x2, .ref 12, .int x5, .ref 8, .int x4]) (h' := zH I P) 5 rfl ?_
        refine wp_callf (d := 56) (as := [.ref 12, .int x2]) (rest := [.int x5, .ref 8, .int x4]) (Ld := [some (.ref 12), some (.int x2)]) (pc' := 41) (st' := [.int (f_R_whoIn I x2), .int x5, .ref 8, .int x4]) (r := some (.int (f_R_whoIn I x2))) (h1 := zH I P) rfl rfl rfl rfl rfl rfl rfl rfl rfl (sp_R_whoIn I P x2) ?_
        obtain ⟨y1, hy1, hx⟩ := zbind hx
        refine wp_callf (d := 59) (as := [.ref 8, .int x5, .int (f_R_whoIn I x2)]) (rest := [.int x4]) (Ld := [some (.ref 8), some (.int x5), some (.int (f_R_whoIn I x2)), none]) (pc' := 44) (st' := [.int y1.1, .int x4]) (r := some (.int y1.1)) (h1 := zH y1.2 P) rfl rfl rfl rfl rfl rfl rfl rfl rfl (xp_M_worthOf_8 _ _ _ _ _ hy1) ?_
        refine wp_blk (pc' := 13) (L' := [some (.ref 12), some (.ref 8), some (.int x2), some (.int x3), some (.int (x4 + y1.1)), some (.int (x5 + 1))]) (st' := []) (h' := zH y1.2 P) 4 rfl ?_
        exact ih _ _ _ _ _ _ hx
set_option maxRecDepth 100000 in
theorem xp_R_hearsay_8 {X : Nat × (Nat → Int32)} (I : Nat → Nat → Int32) (P : Nat → Nat → Option Nat) (p : Int32) (r : Int32 × (Nat → Nat → Int32)) (hx : x_R_hearsay 8 9 10 11 I p = some r) : Wf X 57 [some (.ref 12), some (.ref 8), some (.int p), none, none, none] (zH I P) (some (.int r.1)) (zH r.2 P) := by
  unfold Wf
  unfold x_R_hearsay at hx
  refine wp_blk (pc' := 3) (L' := [some (.ref 12), some (.ref 8), some (.int p), none, none, none]) (st' := [.int p, .ref 8, .ref 12]) (h' := zH I P) 3 rfl ?_
  obtain ⟨y1, hy1, hx⟩ := zbind hx
  refine wp_callf (d := 58) (as := [.ref 12, .ref 8, .int p]) (rest := []) (Ld := [some (.ref 12), some (.ref 8), some (.int p), none, none, none, none, none, none, none]) (pc' := 6) (st' := [.int y1.1]) (r := some (.int y1.1)) (h1 := zH y1.2 P) rfl rfl rfl rfl rfl rfl rfl rfl rfl (xp_R_mouthBits_8 _ _ _ _ hy1) ?_
  refine wp_blk (pc' := 13) (L' := [some (.ref 12), some (.ref 8), some (.int p), some (.int y1.1), some (.int 0), some (.int 0)]) (st' := []) (h' := zH y1.2 P) 5 rfl ?_
  exact lp_R_hearsay_13_8 P _ _ _ _ _ _ _ hx
def l_R_grind_8 (m mk ml mt : Nat) : Nat → (Nat → Nat → Int32) → Int32 → Int32 → Int32 → Option (Int32 × (Nat → Nat → Int32))
  | 0, _, _, _, _ => none
  | n + 1, I, x2, x3, x4 => if I 12 2 ≤ x4 then (some (1, I)) else (if f_R_whoIn I x4 = I 12 3 then (l_R_grind_8 m mk ml mt n I x2 x3 (x4 + 1)) else ((x_R_hearsay m mk ml mt I x4).bind (fun q1 => if x3 ≤ f_G_breadOf (g_R_wear (g_R_hand q1.2 (f_R_whoIn I x4) (if 0 < if (I 12 4) + q1.1 < 9 then (I 12 4) + q1.1 else 9 then if (I 12 4) + q1.1 < 9 then (I 12 4) + q1.1 else 9 else 0)) (if 0 < if (I 12 4) + q1.1 < 9 then (I 12 4) + q1.1 else 9 then if (I 12 4) + q1.1 < 9 then (I 12 4) + q1.1 else 9 else 0)) (if 0 < if (I 12 4) + q1.1 < 9 then (I 12 4) + q1.1 else 9 then if (I 12 4) + q1.1 < 9 then (I 12 4) + q1.1 else 9 else 0) then (l_R_grind_8 m mk ml mt n (g_R_wear (g_R_hand q1.2 (f_R_whoIn I x4) (if 0 < if (I 12 4) + q1.1 < 9 then (I 12 4) + q1.1 else 9 then if (I 12 4) + q1.1 < 9 then (I 12 4) + q1.1 else 9 else 0)) (if 0 < if (I 12 4) + q1.1 < 9 then (I 12 4) + q1.1 else 9 then if (I 12 4) + q1.1 < 9 then (I 12 4) + q1.1 else 9 else 0)) x2 x3 (x4 + 1)) else (some (0, (g_R_wear (g_R_hand q1.2 (f_R_whoIn I x4) (if 0 < if (I 12 4) + q1.1 < 9 then (I 12 4) + q1.1 else 9 then if (I 12 4) + q1.1 < 9 then (I 12 4) + q1.1 else 9 else 0)) (if 0 < if (I 12 4) + q1.1 < 9 then (I 12 4) + q1.1 else 9 then if (I 12 4) + q1.1 < 9 then (I 12 4) + q1.1 else 9 else 0)))))))
def x_R_grind (m mk ml mt : Nat) (I : Nat → Nat → Int32) (s b : Int32) : Option (Int32 × (Nat → Nat → Int32)) := l_R_grind_8 m mk ml mt 1000 (zui I 12 4 s) s b 0
set_option maxRecDepth 100000 in
theorem lp_R_grind_8_4 {X : Nat × (Nat → Int32)} (P : Nat → Nat → Option Nat) : ∀ (n : Nat) (I : Nat → Nat → Int32) (x2 : Int32) (x3 : Int32) (x4 : Int32) (r : Int32 × (Nat → Nat → Int32)), l_R_grind_8 4 5 6 7 n I x2 x3 x4 = some r → Wp X 55 8 [some (.ref 12), some (.ref 4), some (.int x2), some (.int x3), some (.int x4), none, none] [] (zH I P) (fun r2 h2 => r2 = some (.int r.1) ∧ h2 = zH r.2 P) := by
  intro n
  induction n with
  | zero => intro I x2 x3 x4 r hx; cases hx
  | succ n ih =>
    intro I x2 x3 x4 r hx
    rw [l_R_grind_8] at hx
    refine wp_blk (pc' := 14) (L' := [some (.ref 12), some (.ref 4), some (.int x2), some (.int x3), some (.int x4), none, none]) (st' := [.int (I 12 2), .int x4]) (h' := zH I P) 3 rfl ?_
    refine wp_ge (a := x4) (b := I 12 2) (s1 := (88, [some (.ref 12), some (.ref 4), some (.int x2), some (.int x3), some (.int x4), none, none], [], zH I P)) (s2 := (17, [some (.ref 12), some (.ref 4), some (.int x2), some (.int x3), some (.int x4), none, none], [], zH I P)) rfl (fun c1 => ?_) (fun c1 => ?_)
    · rw [if_pos c1] at hx
      refine wp_blk (pc' := 89) (L' := [some (.ref 12), some (.ref 4), some (.int x2), some (.int x3), some (.int x4), none, none]) (st' := [.int 1]) (h' := zH I P) 1 rfl ?_
      cases hx
      exact wp_end rfl rfl ⟨rfl, rfl⟩
    · rw [if_neg c1] at hx
      refine wp_blk (pc' := 20) (L' := [some (.ref 12), some (.ref 4), some (.int x2), some (.int x3), some (.int x4), none, none]) (st' := [.int x4, .ref 12]) (h' := zH I P) 2 rfl ?_
      refine wp_callf (d := 56) (as := [.ref 12, .int x4]) (rest := []) (Ld := [some (.ref 12), some (.int x4)]) (pc' := 23) (st' := [.int (f_R_whoIn I x4)]) (r := some (.int (f_R_whoIn I x4))) (h1 := zH I P) rfl rfl rfl rfl rfl rfl rfl rfl rfl (sp_R_whoIn I P x4) ?_
      refine wp_blk (pc' := 31) (L' := [some (.ref 12), some (.ref 4), some (.int x2), some (.int x3), some (.int x4), some (.int (f_R_whoIn I x4)), none]) (st' := [.int (I 12 3), .int (f_R_whoIn I x4)]) (h' := zH I P) 4 rfl ?_
      refine wp_eq (a := f_R_whoIn I x4) (b := I 12 3) (s1 := (82, [some (.ref 12), some (.ref 4), some (.int x2), some (.int x3), some (.int x4), some (.int (f_R_whoIn I x4)), none], [], zH I P)) (s2 := (34, [some (.ref 12), some (.ref 4), some (.int x2), some (.int x3), some (.int x4), some (.int (f_R_whoIn I x4)), none], [], zH I P)) rfl (fun c2 => ?_) (fun c2 => ?_)
      · rw [if_pos c2] at hx
        refine wp_blk (pc' := 8) (L' := [some (.ref 12), some (.ref 4), some (.int x2), some (.int x3), some (.int (x4 + 1)), some (.int (f_R_whoIn I x4)), none]) (st' := []) (h' := zH I P) 2 rfl ?_
        exact wp_forget (ih _ _ _ _ _ hx) (zle_c (zle_c (zle_c (zle_c (zle_c (zle_n (zle_n zle_nil)))))))
      · rw [if_neg c2] at hx
        refine wp_blk (pc' := 45) (L' := [some (.ref 12), some (.ref 4), some (.int x2), some (.int x3), some (.int x4), some (.int (f_R_whoIn I x4)), none]) (st' := [.int x4, .ref 4, .ref 12, .int (I 12 4), .int 9, .int 0]) (h' := zH I P) 7 rfl ?_
        obtain ⟨y1, hy1, hx⟩ := zbind hx
        refine wp_callf (d := 57) (as := [.ref 12, .ref 4, .int x4]) (rest := [.int (I 12 4), .int 9, .int 0]) (Ld := [some (.ref 12), some (.ref 4), some (.int x4), none, none, none]) (pc' := 48) (st' := [.int y1.1, .int (I 12 4), .int 9, .int 0]) (r := some (.int y1.1)) (h1 := zH y1.2 P) rfl rfl rfl rfl rfl rfl rfl rfl rfl (xp_R_hearsay_4 _ _ _ _ hy1) ?_
        refine wp_blk (pc' := 62) (L' := [some (.ref 12), some (.ref 4), some (.int x2), some (.int x3), some (.int x4), some (.int (f_R_whoIn I x4)), some (.int (if 0 < if (I 12 4) + y1.1 < 9 then (I 12 4) + y1.1 else 9 then if (I 12 4) + y1.1 < 9 then (I 12 4) + y1.1 else 9 else 0))]) (st' := [.int (if 0 < if (I 12 4) + y1.1 < 9 then (I 12 4) + y1.1 else 9 then if (I 12 4) + y1.1 < 9 then (I 12 4) + y1.1 else 9 else 0), .int (f_R_whoIn I x4), .ref 12]) (h' := zH y1.2 P) 7 rfl ?_
        refine wp_callf (d := 60) (as := [.ref 12, .int (f_R_whoIn I x4), .int (if 0 < if (I 12 4) + y1.1 < 9 then (I 12 4) + y1.1 else 9 then if (I 12 4) + y1.1 < 9 then (I 12 4) + y1.1 else 9 else 0)]) (rest := []) (Ld := [some (.ref 12), some (.int (f_R_whoIn I x4)), some (.int (if 0 < if (I 12 4) + y1.1 < 9 then (I 12 4) + y1.1 else 9 then if (I 12 4) + y1.1 < 9 then (I 12 4) + y1.1 else 9 else 0))]) (pc' := 65) (st' := []) (r := none) (h1 := zH (g_R_hand y1.2 (f_R_whoIn I x4) (if 0 < if (I 12 4) + y1.1 < 9 then (I 12 4) + y1.1 else 9 then if (I 12 4) + y1.1 < 9 then (I 12 4) + y1.1 else 9 else 0)) P) rfl rfl rfl rfl rfl rfl rfl rfl rfl (sp_R_hand y1.2 P (f_R_whoIn I x4) (if 0 < if (I 12 4) + y1.1 < 9 then (I 12 4) + y1.1 else 9 then if (I 12 4) + y1.1 < 9 then (I 12 4) + y1.1 else 9 else 0)) ?_
        refine wp_blk (pc' := 68) (L' := [some (.ref 12), some (.ref 4), some (.int x2), some (.int x3), some (.int x4), some (.int (f_R_whoIn I x4)), some (.int (if 0 < if (I 12 4) + y1.1 < 9 then (I 12 4) + y1.1 else 9 then if (I 12 4) + y1.1 < 9 then (I 12 4) + y1.1 else 9 else 0))]) (st' := [.int (if 0 < if (I 12 4) + y1.1 < 9 then (I 12 4) + y1.1 else 9 then if (I 12 4) + y1.1 < 9 then (I 12 4) + y1.1 else 9 else 0), .ref 12]) (h' := zH (g_R_hand y1.2 (f_R_whoIn I x4) (if 0 < if (I 12 4) + y1.1 < 9 then (I 12 4) + y1.1 else 9 then if (I 12 4) + y1.1 < 9 then (I 12 4) + y1.1 else 9 else 0)) P) 2 rfl ?_
        refine wp_callf (d := 61) (as := [.ref 12, .int (if 0 < if (I 12 4) + y1.1 < 9 then (I 12 4) + y1.1 else 9 then if (I 12 4) + y1.1 < 9 then (I 12 4) + y1.1 else 9 else 0)]) (rest := []) (Ld := [some (.ref 12), some (.int (if 0 < if (I 12 4) + y1.1 < 9 then (I 12 4) + y1.1 else 9 then if (I 12 4) + y1.1 < 9 then (I 12 4) + y1.1 else 9 else 0))]) (pc' := 71) (st' := []) (r := none) (h1 := zH (g_R_wear (g_R_hand y1.2 (f_R_whoIn I x4) (if 0 < if (I 12 4) + y1.1 < 9 then (I 12 4) + y1.1 else 9 then if (I 12 4) + y1.1 < 9 then (I 12 4) + y1.1 else 9 else 0)) (if 0 < if (I 12 4) + y1.1 < 9 then (I 12 4) + y1.1 else 9 then if (I 12 4) + y1.1 < 9 then (I 12 4) + y1.1 else 9 else 0)) P) rfl rfl rfl rfl rfl rfl rfl rfl rfl (sp_R_wear (g_R_hand y1.2 (f_R_whoIn I x4) (if 0 < if (I 12 4) + y1.1 < 9 then (I 12 4) + y1.1 else 9 then if (I 12 4) + y1.1 < 9 then (I 12 4) + y1.1 else 9 else 0)) P (if 0 < if (I 12 4) + y1.1 < 9 then (I 12 4) + y1.1 else 9 then if (I 12 4) + y1.1 < 9 then (I 12 4) + y1.1 else 9 else 0)) ?_
        refine wp_blk (pc' := 73) (L' := [some (.ref 12), some (.ref 4), some (.int x2), some (.int x3), some (.int x4), some (.int (f_R_whoIn I x4)), some (.int (if 0 < if (I 12 4) + y1.1 < 9 then (I 12 4) + y1.1 else 9 then if (I 12 4) + y1.1 < 9 then (I 12 4) + y1.1 else 9 else 0))]) (st' := [.int (if 0 < if (I 12 4) + y1.1 < 9 then (I 12 4) + y1.1 else 9 then if (I 12 4) + y1.1 < 9 then (I 12 4) + y1.1 else 9 else 0)]) (h' := zH (g_R_wear (g_R_hand y1.2 (f_R_whoIn I x4) (if 0 < if (I 12 4) + y1.1 < 9 then (I 12 4) + y1.1 else 9 then if (I 12 4) + y1.1 < 9 then (I 12 4) + y1.1 else 9 else 0)) (if 0 < if (I 12 4) + y1.1 < 9 then (I 12 4) + y1.1 else 9 then if (I 12 4) + y1.1 < 9 then (I 12 4) + y1.1 else 9 else 0)) P) 1 rfl ?_
        refine wp_callf (d := 62) (as := [.int (if 0 < if (I 12 4) + y1.1 < 9 then (I 12 4) + y1.1 else 9 then if (I 12 4) + y1.1 < 9 then (I 12 4) + y1.1 else 9 else 0)]) (rest := []) (Ld := [some (.int (if 0 < if (I 12 4) + y1.1 < 9 then (I 12 4) + y1.1 else 9 then if (I 12 4) + y1.1 < 9 then (I 12 4) + y1.1 else 9 else 0))]) (pc' := 76) (st' := [.int (f_G_breadOf (g_R_wear (g_R_hand y1.2 (f_R_whoIn I x4) (if 0 < if (I 12 4) + y1.1 < 9 then (I 12 4) + y1.1 else 9 then if (I 12 4) + y1.1 < 9 then (I 12 4) + y1.1 else 9 else 0)) (if 0 < if (I 12 4) + y1.1 < 9 then (I 12 4) + y1.1 else 9 then if (I 12 4) + y1.1 < 9 then (I 12 4) + y1.1 else 9 else 0)) (if 0 < if (I 12 4) + y1.1 < 9 then (I 12 4) + y1.1 else 9 then if (I 12 4) + y1.1 < 9 then (I 12 4) + y1.1 else 9 else 0))]) (r := some (.int (f_G_breadOf (g_R_wear (g_R_hand y1.2 (f_R_whoIn I x4) (if 0 < if (I 12 4) + y1.1 < 9 then (I 12 4) + y1.1 else 9 then if (I 12 4) + y1.1 < 9 then (I 12 4) + y1.1 else 9 else 0)) (if 0 < if (I 12 4) + y1.1 < 9 then (I 12 4) + y1.1 else 9 then if (I 12 4) + y1.1 < 9 then (I 12 4) + y1.1 else 9 else 0)) (if 0 < if (I 12 4) + y1.1 < 9 then (I 12 4) + y1.1 else 9 then if (I 12 4) + y1.1 < 9 then (I 12 4) + y1.1 else 9 else 0)))) (h1 := zH (g_R_wear (g_R_hand y1.2 (f_R_whoIn I x4) (if 0 < if (I 12 4) + y1.1 < 9 then (I 12 4) + y1.1 else 9 then if (I 12 4) + y1.1 < 9 then (I 12 4) + y1.1 else 9 else 0)) (if 0 < if (I 12 4) + y1.1 < 9 then (I 12 4) + y1.1 else 9 then if (I 12 4) + y1.1 < 9 then (I 12 4) + y1.1 else 9 else 0)) P) rfl rfl rfl rfl rfl rfl rfl rfl rfl (sp_G_breadOf (g_R_wear (g_R_hand y1.2 (f_R_whoIn I x4) (if 0 < if (I 12 4) + y1.1 < 9 then (I 12 4) + y1.1 else 9 then if (I 12 4) + y1.1 < 9 then (I 12 4) + y1.1 else 9 else 0)) (if 0 < if (I 12 4) + y1.1 < 9 then (I 12 4) + y1.1 else 9 then if (I 12 4) + y1.1 < 9 then (I 12 4) + y1.1 else 9 else 0)) P (if 0 < if (I 12 4) + y1.1 < 9 then (I 12 4) + y1.1 else 9 then if (I 12 4) + y1.1 < 9 then (I 12 4) + y1.1 else 9 else 0)) ?_
        refine wp_blk (pc' := 77) (L' := [some (.ref 12), some (.ref 4), some (.int x2), some (.int x3), some (.int x4), some (.int (f_R_whoIn I x4)), some (.int (if 0 < if (I 12 4) + y1.1 < 9 then (I 12 4) + y1.1 else 9 then if (I 12 4) + y1.1 < 9 then (I 12 4) + y1.1 else 9 else 0))]) (st' := [.int x3, .int (f_G_breadOf (g_R_wear (g_R_hand y1.2 (f_R_whoIn I x4) (if 0 < if (I 12 4) + y1.1 < 9 then (I 12 4) + y1.1 else 9 then if (I 12 4) + y1.1 < 9 then (I 12 4) + y1.1 else 9 else 0)) (if 0 < if (I 12 4) + y1.1 < 9 then (I 12 4) + y1.1 else 9 then if (I 12 4) + y1.1 < 9 then (I 12 4) + y1.1 else 9 else 0)) (if 0 < if (I 12 4) + y1.1 < 9 then (I 12 4) + y1.1 else 9 then if (I 12 4) + y1.1 < 9 then (I 12 4) + y1.1 else 9 else 0))]) (h' := zH (g_R_wear (g_R_hand y1.2 (f_R_whoIn I x4) (if 0 < if (I 12 4) + y1.1 < 9 then (I 12 4) + y1.1 else 9 then if (I 12 4) + y1.1 < 9 then (I 12 4) + y1.1 else 9 else 0)) (if 0 < if (I 12 4) + y1.1 < 9 then (I 12 4) + y1.1 else 9 then if (I 12 4) + y1.1 < 9 then (I 12 4) + y1.1 else 9 else 0)) P) 1 rfl ?_
        refine wp_ge (a := f_G_breadOf (g_R_wear (g_R_hand y1.2 (f_R_whoIn I x4) (if 0 < if (I 12 4) + y1.1 < 9 then (I 12 4) + y1.1 else 9 then if (I 12 4) + y1.1 < 9 then (I 12 4) + y1.1 else 9 else 0)) (if 0 < if (I 12 4) + y1.1 < 9 then (I 12 4) + y1.1 else 9 then if (I 12 4) + y1.1 < 9 then (I 12 4) + y1.1 else 9 else 0)) (if 0 < if (I 12 4) + y1.1 < 9 then (I 12 4) + y1.1 else 9 then if (I 12 4) + y1.1 < 9 then (I 12 4) + y1.1 else 9 else 0)) (b := x3) (s1 := (82, [some (.ref 12), some (.ref 4), some (.int x2), some (.int x3), some (.int x4), some (.int (f_R_whoIn I x4)), some (.int (if 0 < if (I 12 4) + y1.1 < 9 then (I 12 4) + y1.1 else 9 then if (I 12 4) + y1.1 < 9 then (I 12 4) + y1.1 else 9 else 0))], [], zH (g_R_wear (g_R_hand y1.2 (f_R_whoIn I x4) (if 0 < if (I 12 4) + y1.1 < 9 then (I 12 4) + y1.1 else 9 then if (I 12 4) + y1.1 < 9 then (I 12 4) + y1.1 else 9 else 0)) (if 0 < if (I 12 4) + y1.1 < 9 then (I 12 4) + y1.1 else 9 then if (I 12 4) + y1.1 < 9 then (I 12 4) + y1.1 else 9 else 0)) P)) (s2 := (80, [some (.ref 12), some (.ref 4), some (.int x2), some (.int x3), some (.int x4), some (.int (f_R_whoIn I x4)), some (.int (if 0 < if (I 12 4) + y1.1 < 9 then (I 12 4) + y1.1 else 9 then if (I 12 4) + y1.1 < 9 then (I 12 4) + y1.1 else 9 else 0))], [], zH (g_R_wear (g_R_hand y1.2 (f_R_whoIn I x4) (if 0 < if (I 12 4) + y1.1 < 9 then (I 12 4) + y1.1 else 9 then if (I 12 4) + y1.1 < 9 then (I 12 4) + y1.1 else 9 else 0)) (if 0 < if (I 12 4) + y1.1 < 9 then (I 12 4) + y1.1 else 9 then if (I 12 4) + y1.1 < 9 then (I 12 4) + y1.1 else 9 else 0)) P)) rfl (fun c3 => ?_) (fun c3 => ?_)
        · rw [if_pos c3] at hx
          refine wp_blk (pc' := 8) (L' := [some (.ref 12), some (.ref 4), some (.int x2), some (.int x3), some (.int (x4 + 1)), some (.int (f_R_whoIn I x4)), some (.int (if 0 < if (I 12 4) + y1.1 < 9 then (I 12 4) + y1.1 else 9 then if (I 12 4) + y1.1 < 9 then (I 12 4) + y1.1 else 9 else 0))]) (st' := []) (h' := zH (g_R_wear (g_R_hand y1.2 (f_R_whoIn I x4) (if 0 < if (I 12 4) + y1.1 < 9 then (I 12 4) + y1.1 else 9 then if (I 12 4) + y1.1 < 9 then (I 12 4) + y1.1 else 9 else 0)) (if 0 < if (I 12 4) + y1.1 < 9 then (I 12 4) + y1.1 else 9 then if (I 12 4) + y1.1 < 9 then (I 12 4) + y1.1 else 9 else 0)) P) 2 rfl ?_
          exact wp_forget (ih _ _ _ _ _ hx) (zle_c (zle_c (zle_c (zle_c (zle_c (zle_n (zle_n zle_nil)))))))
        · rw [if_neg c3] at hx
          refine wp_blk (pc' := 81) (L' := [some (.ref 12), some (.ref 4), some (.int x2), some (.int x3), some (.int x4), some (.int (f_R_whoIn I x4)), some (.int (if 0 < if (I 12 4) + y1.1 < 9 then (I 12 4) + y1.1 else 9 then if (I 12 4) + y1.1 < 9 then (I 12 4) + y1.1 else 9 else 0))]) (st' := [.int 0]) (h' := zH (g_R_wear (g_R_hand y1.2 (f_R_whoIn I x4) (if 0 < if (I 12 4) + y1.1 < 9 then (I 12 4) + y1.1 else 9 then if (I 12 4) + y1.1 < 9 then (I 12 4) + y1.1 else 9 else 0)) (if 0 < if (I 12 4) + y1.1 < 9 then (I 12 4) + y1.1 else 9 then if (I 12 4) + y1.1 < 9 then (I 12 4) + y1.1 else 9 else 0)) P) 1 rfl ?_
          cases hx
          exact wp_end rfl rfl ⟨rfl, rfl⟩
set_option maxRecDepth 100000 in
theorem xp_R_grind_4 {X : Nat × (Nat → Int32)} (I : Nat → Nat → Int32) (P : Nat → Nat → Option Nat) (s b : Int32) (r : Int32 × (Nat → Nat → Int32)) (hx : x_R_grind 4 5 6 7 I s b = some r) : Wf X 55 [some (.ref 12), some (.ref 4), some (.int s), some (.int b), none, none, none] (zH I P) (some (.int r.1)) (zH r.2 P) := by
  unfold Wf
  unfold x_R_grind at hx
  refine wp_blk (pc' := 8) (L' := [some (.ref 12), some (.ref 4), some (.int s), some (.int b), some (.int 0), none, none]) (st' := []) (h' := zH (zui I 12 4 s) P) 5 rfl ?_
  exact lp_R_grind_8_4 P _ _ _ _ _ _ hx
set_option maxRecDepth 100000 in
theorem lp_R_grind_8_8 {X : Nat × (Nat → Int32)} (P : Nat → Nat → Option Nat) : ∀ (n : Nat) (I : Nat → Nat → Int32) (x2 : Int32) (x3 : Int32) (x4 : Int32) (r : Int32 × (Nat → Nat → Int32)), l_R_grind_8 8 9 10 11 n I x2 x3 x4 = some r → Wp X 55 8 [some (.ref 12), some (.ref 8), some (.int x2), some (.int x3), some (.int x4), none, none] [] (zH I P) (fun r2 h2 => r2 = some (.int r.1) ∧ h2 = zH r.2 P) := by
  intro n
  induction n with
  | zero => intro I x2 x3 x4 r hx; cases hx
  | succ n ih =>
    intro I x2 x3 x4 r hx
    rw [l_R_grind_8] at hx
    refine wp_blk (pc' := 14) (L' := [some (.ref 12), some (.ref 8), some (.int x2), some (.int x3), some (.int x4), none, none]) (st' := [.int (I 12 2), .int x4]) (h' := zH I P) 3 rfl ?_
    refine wp_ge (a := x4) (b := I 12 2) (s1 := (88, [some (.ref 12), some (.ref 8), some (.int x2), some (.int x3), some (.int x4), none, none], [], zH I P)) (s2 := (17, [some (.ref 12), some (.ref 8), some (.int x2), some (.int x3), some (.int x4), none, none], [], zH I P)) rfl (fun c1 => ?_) (fun c1 => ?_)
    · rw [if_pos c1] at hx
      refine wp_blk (pc' := 89) (L' := [some (.ref 12), some (.ref 8), some (.int x2), some (.int x3), some (.int x4), none, none]) (st' := [.int 1]) (h' := zH I P) 1 rfl ?_
      cases hx
      exact wp_end rfl rfl ⟨rfl, rfl⟩
    · rw [if_neg c1] at hx
      refine wp_blk (pc' := 20) (L' := [some (.ref 12), some (.ref 8), some (.int x2), some (.int x3), some (.int x4), none, none]) (st' := [.int x4, .ref 12]) (h' := zH I P) 2 rfl ?_
      refine wp_callf (d := 56) (as := [.ref 12, .int x4]) (rest := []) (Ld := [some (.ref 12), some (.int x4)]) (pc' := 23) (st' := [.int (f_R_whoIn I x4)]) (r := some (.int (f_R_whoIn I x4))) (h1 := zH I P) rfl rfl rfl rfl rfl rfl rfl rfl rfl (sp_R_whoIn I P x4) ?_
      refine wp_blk (pc' := 31) (L' := [some (.ref 12), some (.ref 8), some (.int x2), some (.int x3), some (.int x4), some (.int (f_R_whoIn I x4)), none]) (st' := [.int (I 12 3), .int (f_R_whoIn I x4)]) (h' := zH I P) 4 rfl ?_
      refine wp_eq (a := f_R_whoIn I x4) (b := I 12 3) (s1 := (82, [some (.ref 12), some (.ref 8), some (.int x2), some (.int x3), some (.int x4), some (.int (f_R_whoIn I x4)), none], [], zH I P)) (s2 := (34, [some (.ref 12), some (.ref 8), some (.int x2), some (.int x3), some (.int x4), some (.int (f_R_whoIn I x4)), none], [], zH I P)) rfl (fun c2 => ?_) (fun c2 => ?_)
      · rw [if_pos c2] at hx
        refine wp_blk (pc' := 8) (L' := [some (.ref 12), some (.ref 8), some (.int x2), some (.int x3), some (.int (x4 + 1)), some (.int (f_R_whoIn I x4)), none]) (st' := []) (h' := zH I P) 2 rfl ?_
        exact wp_forget (ih _ _ _ _ _ hx) (zle_c (zle_c (zle_c (zle_c (zle_c (zle_n (zle_n zle_nil)))))))
      · rw [if_neg c2] at hx
        refine wp_blk (pc' := 45) (L' := [some (.ref 12), some (.ref 8), some (.int x2), some (.int x3), some (.int x4), some (.int (f_R_whoIn I x4)), none]) (st' := [.int x4, .ref 8, .ref 12, .int (I 12 4), .int 9, .int 0]) (h' := zH I P) 7 rfl ?_
        obtain ⟨y1, hy1, hx⟩ := zbind hx
        refine wp_callf (d := 57) (as := [.ref 12, .ref 8, .int x4]) (rest := [.int (I 12 4), .int 9, .int 0]) (Ld := [some (.ref 12), some (.ref 8), some (.int x4), none, none, none]) (pc' := 48) (st' := [.int y1.1, .int (I 12 4), .int 9, .int 0]) (r := some (.int y1.1)) (h1 := zH y1.2 P) rfl rfl rfl rfl rfl rfl rfl rfl rfl (xp_R_hearsay_8 _ _ _ _ hy1) ?_
        refine wp_blk (pc' := 62) (L' := [some (.ref 12), some (.ref 8), some (.int x2), some (.int x3), some (.int x4), some (.int (f_R_whoIn I x4)), some (.int (if 0 < if (I 12 4) + y1.1 < 9 then (I 12 4) + y1.1 else 9 then if (I 12 4) + y1.1 < 9 then (I 12 4) + y1.1 else 9 else 0))]) (st' := [.int (if 0 < if (I 12 4) + y1.1 < 9 then (I 12 4) + y1.1 else 9 then if (I 12 4) + y1.1 < 9 then (I 12 4) + y1.1 else 9 else 0), .int (f_R_whoIn I x4), .ref 12]) (h' := zH y1.2 P) 7 rfl ?_
        refine wp_callf (d := 60) (as := [.ref 12, .int (f_R_whoIn I x4), .int (if 0 < if (I 12 4) + y1.1 < 9 then (I 12 4) + y1.1 else 9 then if (I 12 4) + y1.1 < 9 then (I 12 4) + y1.1 else 9 else 0)]) (rest := []) (Ld := [some (.ref 12), some (.int (f_R_whoIn I x4)), some (.int (if 0 < if (I 12 4) + y1.1 < 9 then (I 12 4) + y1.1 else 9 then if (I 12 4) + y1.1 < 9 then (I 12 4) + y1.1 else 9 else 0))]) (pc' := 65) (st' := []) (r := none) (h1 := zH (g_R_hand y1.2 (f_R_whoIn I x4) (if 0 < if (I 12 4) + y1.1 < 9 then (I 12 4) + y1.1 else 9 then if (I 12 4) + y1.1 < 9 then (I 12 4) + y1.1 else 9 else 0)) P) rfl rfl rfl rfl rfl rfl rfl rfl rfl (sp_R_hand y1.2 P (f_R_whoIn I x4) (if 0 < if (I 12 4) + y1.1 < 9 then (I 12 4) + y1.1 else 9 then if (I 12 4) + y1.1 < 9 then (I 12 4) + y1.1 else 9 else 0)) ?_
        refine wp_blk (pc' := 68) (L' := [some (.ref 12), some (.ref 8), some (.int x2), some (.int x3), some (.int x4), some (.int (f_R_whoIn I x4)), some (.int (if 0 < if (I 12 4) + y1.1 < 9 then (I 12 4) + y1.1 else 9 then if (I 12 4) + y1.1 < 9 then (I 12 4) + y1.1 else 9 else 0))]) (st' := [.int (if 0 < if (I 12 4) + y1.1 < 9 then (I 12 4) + y1.1 else 9 then if (I 12 4) + y1.1 < 9 then (I 12 4) + y1.1 else 9 else 0), .ref 12]) (h' := zH (g_R_hand y1.2 (f_R_whoIn I x4) (if 0 < if (I 12 4) + y1.1 < 9 then (I 12 4) + y1.1 else 9 then if (I 12 4) + y1.1 < 9 then (I 12 4) + y1.1 else 9 else 0)) P) 2 rfl ?_
        refine wp_callf (d := 61) (as := [.ref 12, .int (if 0 < if (I 12 4) + y1.1 < 9 then (I 12 4) + y1.1 else 9 then if (I 12 4) + y1.1 < 9 then (I 12 4) + y1.1 else 9 else 0)]) (rest := []) (Ld := [some (.ref 12), some (.int (if 0 < if (I 12 4) + y1.1 < 9 then (I 12 4) + y1.1 else 9 then if (I 12 4) + y1.1 < 9 then (I 12 4) + y1.1 else 9 else 0))]) (pc' := 71) (st' := []) (r := none) (h1 := zH (g_R_wear (g_R_hand y1.2 (f_R_whoIn I x4) (if 0 < if (I 12 4) + y1.1 < 9 then (I 12 4) + y1.1 else 9 then if (I 12 4) + y1.1 < 9 then (I 12 4) + y1.1 else 9 else 0)) (if 0 < if (I 12 4) + y1.1 < 9 then (I 12 4) + y1.1 else 9 then if (I 12 4) + y1.1 < 9 then (I 12 4) + y1.1 else 9 else 0)) P) rfl rfl rfl rfl rfl rfl rfl rfl rfl (sp_R_wear (g_R_hand y1.2 (f_R_whoIn I x4) (if 0 < if (I 12 4) + y1.1 < 9 then (I 12 4) + y1.1 else 9 then if (I 12 4) + y1.1 < 9 then (I 12 4) + y1.1 else 9 else 0)) P (if 0 < if (I 12 4) + y1.1 < 9 then (I 12 4) + y1.1 else 9 then if (I 12 4) + y1.1 < 9 then (I 12 4) + y1.1 else 9 else 0)) ?_
        refine wp_blk (pc' := 73) (L' := [some (.ref 12), some (.ref 8), some (.int x2), some (.int x3), some (.int x4), some (.int (f_R_whoIn I x4)), some (.int (if 0 < if (I 12 4) + y1.1 < 9 then (I 12 4) + y1.1 else 9 then if (I 12 4) + y1.1 < 9 then (I 12 4) + y1.1 else 9 else 0))]) (st' := [.int (if 0 < if (I 12 4) + y1.1 < 9 then (I 12 4) + y1.1 else 9 then if (I 12 4) + y1.1 < 9 then (I 12 4) + y1.1 else 9 else 0)]) (h' := zH (g_R_wear (g_R_hand y1.2 (f_R_whoIn I x4) (if 0 < if (I 12 4) + y1.1 < 9 then (I 12 4) + y1.1 else 9 then if (I 12 4) + y1.1 < 9 then (I 12 4) + y1.1 else 9 else 0)) (if 0 < if (I 12 4) + y1.1 < 9 then (I 12 4) + y1.1 else 9 then if (I 12 4) + y1.1 < 9 then (I 12 4) + y1.1 else 9 else 0)) P) 1 rfl ?_
        refine wp_callf (d := 62) (as := [.int (if 0 < if (I 12 4) + y1.1 < 9 then (I 12 4) + y1.1 else 9 then if (I 12 4) + y1.1 < 9 then (I 12 4) + y1.1 else 9 else 0)]) (rest := []) (Ld := [some (.int (if 0 < if (I 12 4) + y1.1 < 9 then (I 12 4) + y1.1 else 9 then if (I 12 4) + y1.1 < 9 then (I 12 4) + y1.1 else 9 else 0))]) (pc' := 76) (st' := [.int (f_G_breadOf (g_R_wear (g_R_hand y1.2 (f_R_whoIn I x4) (if 0 < if (I 12 4) + y1.1 < 9 then (I 12 4) + y1.1 else 9 then if (I 12 4) + y1.1 < 9 then (I 12 4) + y1.1 else 9 else 0)) (if 0 < if (I 12 4) + y1.1 < 9 then (I 12 4) + y1.1 else 9 then if (I 12 4) + y1.1 < 9 then (I 12 4) + y1.1 else 9 else 0)) (if 0 < if (I 12 4) + y1.1 < 9 then (I 12 4) + y1.1 else 9 then if (I 12 4) + y1.1 < 9 then (I 12 4) + y1.1 else 9 else 0))]) (r := some (.int (f_G_breadOf (g_R_wear (g_R_hand y1.2 (f_R_whoIn I x4) (if 0 < if (I 12 4) + y1.1 < 9 then (I 12 4) + y1.1 else 9 then if (I 12 4) + y1.1 < 9 then (I 12 4) + y1.1 else 9 else 0)) (if 0 < if (I 12 4) + y1.1 < 9 then (I 12 4) + y1.1 else 9 then if (I 12 4) + y1.1 < 9 then (I 12 4) + y1.1 else 9 else 0)) (if 0 < if (I 12 4) + y1.1 < 9 then (I 12 4) + y1.1 else 9 then if (I 12 4) + y1.1 < 9 then (I 12 4) + y1.1 else 9 else 0)))) (h1 := zH (g_R_wear (g_R_hand y1.2 (f_R_whoIn I x4) (if 0 < if (I 12 4) + y1.1 < 9 then (I 12 4) + y1.1 else 9 then if (I 12 4) + y1.1 < 9 then (I 12 4) + y1.1 else 9 else 0)) (if 0 < if (I 12 4) + y1.1 < 9 then (I 12 4) + y1.1 else 9 then if (I 12 4) + y1.1 < 9 then (I 12 4) + y1.1 else 9 else 0)) P) rfl rfl rfl rfl rfl rfl rfl rfl rfl (sp_G_breadOf (g_R_wear (g_R_hand y1.2 (f_R_whoIn I x4) (if 0 < if (I 12 4) + y1.1 < 9 then (I 12 4) + y1.1 else 9 then if (I 12 4) + y1.1 < 9 then (I 12 4) + y1.1 else 9 else 0)) (if 0 < if (I 12 4) + y1.1 < 9 then (I 12 4) + y1.1 else 9 then if (I 12 4) + y1.1 < 9 then (I 12 4) + y1.1 else 9 else 0)) P (if 0 < if (I 12 4) + y1.1 < 9 then (I 12 4) + y1.1 else 9 then if (I 12 4) + y1.1 < 9 then (I 12 4) + y1.1 else 9 else 0)) ?_
        refine wp_blk (pc' := 77) (L' := [some (.ref 12), some (.ref 8), some (.int x2), some (.int x3), some (.int x4), some (.int (f_R_whoIn I x4)), some (.int (if 0 < if (I 12 4) + y1.1 < 9 then (I 12 4) + y1.1 else 9 then if (I 12 4) + y1.1 < 9 then (I 12 4) + y1.1 else 9 else 0))]) (st' := [.int x3, .int (f_G_breadOf (g_R_wear (g_R_hand y1.2 (f_R_whoIn I x4) (if 0 < if (I 12 4) + y1.1 < 9 then (I 12 4) + y1.1 else 9 then if (I 12 4) + y1.1 < 9 then (I 12 4) + y1.1 else 9 else 0)) (if 0 < if (I 12 4) + y1.1 < 9 then (I 12 4) + y1.1 else 9 then if (I 12 4) + y1.1 < 9 then (I 12 4) + y1.1 else 9 else 0)) (if 0 < if (I 12 4) + y1.1 < 9 then (I 12 4) + y1.1 else 9 then if (I 12 4) + y1.1 < 9 then (I 12 4) + y1.1 else 9 else 0))]) (h' := zH (g_R_wear (g_R_hand y1.2 (f_R_whoIn I x4) (if 0 < if (I 12 4) + y1.1 < 9 then (I 12 4) + y1.1 else 9 then if (I 12 4) + y1.1 < 9 then (I 12 4) + y1.1 else 9 else 0)) (if 0 < if (I 12 4) + y1.1 < 9 then (I 12 4) + y1.1 else 9 then if (I 12 4) + y1.1 < 9 then (I 12 4) + y1.1 else 9 else 0)) P) 1 rfl ?_
        refine wp_ge (a := f_G_breadOf (g_R_wear (g_R_hand y1.2 (f_R_whoIn I x4) (if 0 < if (I 12 4) + y1.1 < 9 then (I 12 4) + y1.1 else 9 then if (I 12 4) + y1.1 < 9 then (I 12 4) + y1.1 else 9 else 0)) (if 0 < if (I 12 4) + y1.1 < 9 then (I 12 4) + y1.1 else 9 then if (I 12 4) + y1.1 < 9 then (I 12 4) + y1.1 else 9 else 0)) (if 0 < if (I 12 4) + y1.1 < 9 then (I 12 4) + y1.1 else 9 then if (I 12 4) + y1.1 < 9 then (I 12 4) + y1.1 else 9 else 0)) (b := x3) (s1 := (82, [some (.ref 12), some (.ref 8), some (.int x2), some (.int x3), some (.int x4), some (.int (f_R_whoIn I x4)), some (.int (if 0 < if (I 12 4) + y1.1 < 9 then (I 12 4) + y1.1 else 9 then if (I 12 4) + y1.1 < 9 then (I 12 4) + y1.1 else 9 else 0))], [], zH (g_R_wear (g_R_hand y1.2 (f_R_whoIn I x4) (if 0 < if (I 12 4) + y1.1 < 9 then (I 12 4) + y1.1 else 9 then if (I 12 4) + y1.1 < 9 then (I 12 4) + y1.1 else 9 else 0)) (if 0 < if (I 12 4) + y1.1 < 9 then (I 12 4) + y1.1 else 9 then if (I 12 4) + y1.1 < 9 then (I 12 4) + y1.1 else 9 else 0)) P)) (s2 := (80, [some (.ref 12), some (.ref 8), some (.int x2), some (.int x3), some (.int x4), some (.int (f_R_whoIn I x4)), some (.int (if 0 < if (I 12 4) + y1.1 < 9 then (I 12 4) + y1.1 else 9 then if (I 12 4) + y1.1 < 9 then (I 12 4) + y1.1 else 9 else 0))], [], zH (g_R_wear (g_R_hand y1.2 (f_R_whoIn I x4) (if 0 < if (I 12 4) + y1.1 < 9 then (I 12 4) + y1.1 else 9 then if (I 12 4) + y1.1 < 9 then (I 12 4) + y1.1 else 9 else 0)) (if 0 < if (I 12 4) + y1.1 < 9 then (I 12 4) + y1.1 else 9 then if (I 12 4) + y1.1 < 9 then (I 12 4) + y1.1 else 9 else 0)) P)) rfl (fun c3 => ?_) (fun c3 => ?_)
        · rw [if_pos c3] at hx
          refine wp_blk (pc' := 8) (L' := [some (.ref 12), some (.ref 8), some (.int x2), some (.int x3), some (.int (x4 + 1)), some (.int (f_R_whoIn I x4)), some (.int (if 0 < if (I 12 4) + y1.1 < 9 then (I 12 4) + y1.1 else 9 then if (I 12 4) + y1.1 < 9 then (I 12 4) + y1.1 else 9 else 0))]) (st' := []) (h' := zH (g_R_wear (g_R_hand y1.2 (f_R_whoIn I x4) (if 0 < if (I 12 4) + y1.1 < 9 then (I 12 4) + y1.1 else 9 then if (I 12 4) + y1.1 < 9 then (I 12 4) + y1.1 else 9 else 0)) (if 0 < if (I 12 4) + y1.1 < 9 then (I 12 4) + y1.1 else 9 then if (I 12 4) + y1.1 < 9 then (I 12 4) + y1.1 else 9 else 0)) P) 2 rfl ?_
          exact wp_forget (ih _ _ _ _ _ hx) (zle_c (zle_c (zle_c (zle_c (zle_c (zle_n (zle_n zle_nil)))))))
        · rw [if_neg c3] at hx
          refine wp_blk (pc' := 81) (L' := [some (.ref 12), some (.ref 8), some (.int x2), some (.int x3), some (.int x4), some (.int (f_R_whoIn I x4)), some (.int (if 0 < if (I 12 4) + y1.1 < 9 then (I 12 4) + y1.1 else 9 then if (I 12 4) + y1.1 < 9 then (I 12 4) + y1.1 else 9 else 0))]) (st' := [.int 0]) (h' := zH (g_R_wear (g_R_hand y1.2 (f_R_whoIn I x4) (if 0 < if (I 12 4) + y1.1 < 9 then (I 12 4) + y1.1 else 9 then if (I 12 4) + y1.1 < 9 then (I 12 4) + y1.1 else 9 else 0)) (if 0 < if (I 12 4) + y1.1 < 9 then (I 12 4) + y1.1 else 9 then if (I 12 4) + y1.1 < 9 then (I 12 4) + y1.1 else 9 else 0)) P) 1 rfl ?_
          cases hx
          exact wp_end rfl rfl ⟨rfl, rfl⟩
set_option maxRecDepth 100000 in
theorem xp_R_grind_8 {X : Nat × (Nat → Int32)} (I : Nat → Nat → Int32) (P : Nat → Nat → Option Nat) (s b : Int32) (r : Int32 × (Nat → Nat → Int32)) (hx : x_R_grind 8 9 10 11 I s b = some r) : Wf X 55 [some (.ref 12), some (.ref 8), some (.int s), some (.int b), none, none, none] (zH I P) (some (.int r.1)) (zH r.2 P) := by
  unfold Wf
  unfold x_R_grind at hx
  refine wp_blk (pc' := 8) (L' := [some (.ref 12), some (.ref 8), some (.int s), some (.int b), some (.int 0), none, none]) (st' := []) (h' := zH (zui I 12 4 s) P) 5 rfl ?_
  exact lp_R_grind_8_8 P _ _ _ _ _ _ hx
