/-! THE MILL AND SMALL THINGS, without loops (printed) -/
theorem zinb_a {i : Int32} {n : Nat} (h0 : ¬ i < 0) (h1 : ¬ Int32.ofNat n ≤ i) (hn : n < 2 ^ 31 := by decide) : zinb i n = true := by
  refine decide_eq_true (fun q => ?_)
  rcases q with q | q
  · exact h0 q
  · refine h1 (Int32.le_iff_toInt_le.mpr ?_)
    have e1 : (Int32.ofNat n).toInt = n := nI_toInt hn
    have e2 : i.toInt = (i.toNatClampNeg : Int) := by
      have h3 : 0 ≤ i.toInt := by
        have := Int32.not_lt.mp h0
        simpa using Int32.le_iff_toInt_le.mp this
      show i.toInt = ((i.toInt.toNat : Nat) : Int)
      omega
    omega
def f_G_isOutside (I : Nat → Nat → Int32) (a b : Int32) : Int32 := if a < 0 then 1 else (if a ≤ b then 0 else 1)
theorem fb_G_isOutside (I : Nat → Nat → Int32) (a b : Int32) : f_G_isOutside I a b = 1 ∨ f_G_isOutside I a b = 0 := by
  unfold f_G_isOutside
  (repeat' split) <;> first | exact Or.inl rfl | exact Or.inr rfl
set_option maxRecDepth 100000 in
theorem sp_G_isOutside {X : Nat × (Nat → Int32)} (I : Nat → Nat → Int32) (P : Nat → Nat → Option Nat) (a b : Int32) : Wf X 25 [some (.int a), some (.int b)] (zH I P) (some (.int (f_G_isOutside I a b))) (zH I P) := by
  unfold Wf
  refine wp_blk (pc' := 1) (L' := [some (.int a), some (.int b)]) (st' := [.int a]) (h' := zH I P) 1 rfl ?_
  refine wp_lt (a := a) (b := 0) (s1 := (9, [some (.int a), some (.int b)], [], zH I P)) (s2 := (4, [some (.int a), some (.int b)], [], zH I P)) rfl (fun c1 => ?_) (fun c1 => ?_)
  · refine wp_blk (pc' := 14) (L' := [some (.int a), some (.int b)]) (st' := [.int 1]) (h' := zH I P) 2 rfl ?_
    exact wp_end rfl rfl ⟨by rw [f_G_isOutside, if_pos c1], rfl⟩
  · refine wp_blk (pc' := 6) (L' := [some (.int a), some (.int b)]) (st' := [.int b, .int a]) (h' := zH I P) 2 rfl ?_
    refine wp_le (a := a) (b := b) (s1 := (13, [some (.int a), some (.int b)], [], zH I P)) (s2 := (9, [some (.int a), some (.int b)], [], zH I P)) rfl (fun c2 => ?_) (fun c2 => ?_)
    · refine wp_blk (pc' := 14) (L' := [some (.int a), some (.int b)]) (st' := [.int 0]) (h' := zH I P) 1 rfl ?_
      exact wp_end rfl rfl ⟨by rw [f_G_isOutside, if_neg c1, if_pos c2], rfl⟩
    · refine wp_blk (pc' := 14) (L' := [some (.int a), some (.int b)]) (st' := [.int 1]) (h' := zH I P) 2 rfl ?_
      exact wp_end rfl rfl ⟨by rw [f_G_isOutside, if_neg c1, if_neg c2], rfl⟩
set_option maxRecDepth 100000 in
theorem sp_G_isOutside_G {X : Nat × (Nat → Int32)} (I : Nat → Nat → Int32) (P : Nat → Nat → Option Nat) (a b : Int32) : Wf X 25 [some (.int a), some (.int b)] (zG I P) (some (.int (f_G_isOutside I a b))) (zG I P) := by
  unfold Wf
  refine wp_blk (pc' := 1) (L' := [some (.int a), some (.int b)]) (st' := [.int a]) (h' := zG I P) 1 rfl ?_
  refine wp_lt (a := a) (b := 0) (s1 := (9, [some (.int a), some (.int b)], [], zG I P)) (s2 := (4, [some (.int a), some (.int b)], [], zG I P)) rfl (fun c1 => ?_) (fun c1 => ?_)
  · refine wp_blk (pc' := 14) (L' := [some (.int a), some (.int b)]) (st' := [.int 1]) (h' := zG I P) 2 rfl ?_
    exact wp_end rfl rfl ⟨by rw [f_G_isOutside, if_pos c1], rfl⟩
  · refine wp_blk (pc' := 6) (L' := [some (.int a), some (.int b)]) (st' := [.int b, .int a]) (h' := zG I P) 2 rfl ?_
    refine wp_le (a := a) (b := b) (s1 := (13, [some (.int a), some (.int b)], [], zG I P)) (s2 := (9, [some (.int a), some (.int b)], [], zG I P)) rfl (fun c2 => ?_) (fun c2 => ?_)
    · refine wp_blk (pc' := 14) (L' := [some (.int a), some (.int b)]) (st' := [.int 0]) (h' := zG I P) 1 rfl ?_
      exact wp_end rfl rfl ⟨by rw [f_G_isOutside, if_neg c1, if_pos c2], rfl⟩
    · refine wp_blk (pc' := 14) (L' := [some (.int a), some (.int b)]) (st' := [.int 1]) (h' := zG I P) 2 rfl ?_
      exact wp_end rfl rfl ⟨by rw [f_G_isOutside, if_neg c1, if_neg c2], rfl⟩
def f_G_isIn (I : Nat → Nat → Int32) (a b : Int32) : Int32 := if (a >>> (b &&& 31)) &&& 1 = 1 then 1 else 0
theorem fb_G_isIn (I : Nat → Nat → Int32) (a b : Int32) : f_G_isIn I a b = 1 ∨ f_G_isIn I a b = 0 := by
  unfold f_G_isIn
  (repeat' split) <;> first | exact Or.inl rfl | exact Or.inr rfl
set_option maxRecDepth 100000 in
theorem sp_G_isIn {X : Nat × (Nat → Int32)} (I : Nat → Nat → Int32) (P : Nat → Nat → Option Nat) (a b : Int32) : Wf X 45 [some (.int a), some (.int b)] (zH I P) (some (.int (f_G_isIn I a b))) (zH I P) := by
  unfold Wf
  refine wp_blk (pc' := 6) (L' := [some (.int a), some (.int b)]) (st' := [.int 1, .int ((a >>> (b &&& 31)) &&& 1)]) (h' := zH I P) 6 rfl ?_
  refine wp_ne (a := (a >>> (b &&& 31)) &&& 1) (b := 1) (s1 := (13, [some (.int a), some (.int b)], [], zH I P)) (s2 := (9, [some (.int a), some (.int b)], [], zH I P)) rfl (fun c1 => ?_) (fun c1 => ?_)
  · refine wp_blk (pc' := 14) (L' := [some (.int a), some (.int b)]) (st' := [.int 0]) (h' := zH I P) 1 rfl ?_
    exact wp_end rfl rfl ⟨by rw [f_G_isIn, if_neg c1], rfl⟩
  · refine wp_blk (pc' := 14) (L' := [some (.int a), some (.int b)]) (st' := [.int 1]) (h' := zH I P) 2 rfl ?_
    exact wp_end rfl rfl ⟨by rw [f_G_isIn, if_pos c1], rfl⟩
def f_G_breadOf (I : Nat → Nat → Int32) (a : Int32) : Int32 := if 2 ≤ a then (if 5 ≤ a then (if 8 ≤ a then 3 else 2) else 1) else 0
set_option maxRecDepth 100000 in
theorem sp_G_breadOf {X : Nat × (Nat → Int32)} (I : Nat → Nat → Int32) (P : Nat → Nat → Option Nat) (a : Int32) : Wf X 62 [some (.int a)] (zH I P) (some (.int (f_G_breadOf I a))) (zH I P) := by
  unfold Wf
  refine wp_blk (pc' := 2) (L' := [some (.int a)]) (st' := [.int 2, .int a]) (h' := zH I P) 2 rfl ?_
  refine wp_ge (a := a) (b := 2) (s1 := (7, [some (.int a)], [], zH I P)) (s2 := (5, [some (.int a)], [], zH I P)) rfl (fun c1 => ?_) (fun c1 => ?_)
  · refine wp_blk (pc' := 9) (L' := [some (.int a)]) (st' := [.int 5, .int a]) (h' := zH I P) 2 rfl ?_
    refine wp_ge (a := a) (b := 5) (s1 := (14, [some (.int a)], [], zH I P)) (s2 := (12, [some (.int a)], [], zH I P)) rfl (fun c2 => ?_) (fun c2 => ?_)
    · refine wp_blk (pc' := 17) (L' := [some (.int a)]) (st' := [.int 8, .int a]) (h' := zH I P) 2 rfl ?_
      refine wp_ge (a := a) (b := 8) (s1 := (24, [some (.int a)], [], zH I P)) (s2 := (20, [some (.int a)], [], zH I P)) rfl (fun c3 => ?_) (fun c3 => ?_)
      · refine wp_blk (pc' := 25) (L' := [some (.int a)]) (st' := [.int 3]) (h' := zH I P) 1 rfl ?_
        exact wp_end rfl rfl ⟨by rw [f_G_breadOf, if_pos c1, if_pos c2, if_pos c3], rfl⟩
      · refine wp_blk (pc' := 25) (L' := [some (.int a)]) (st' := [.int 2]) (h' := zH I P) 2 rfl ?_
        exact wp_end rfl rfl ⟨by rw [f_G_breadOf, if_pos c1, if_pos c2, if_neg c3], rfl⟩
    · refine wp_blk (pc' := 13) (L' := [some (.int a)]) (st' := [.int 1]) (h' := zH I P) 1 rfl ?_
      exact wp_end rfl rfl ⟨by rw [f_G_breadOf, if_pos c1, if_neg c2], rfl⟩
  · refine wp_blk (pc' := 6) (L' := [some (.int a)]) (st' := [.int 0]) (h' := zH I P) 1 rfl ?_
    exact wp_end rfl rfl ⟨by rw [f_G_breadOf, if_neg c1], rfl⟩
def f_M_has (m mk ml mt : Nat) (I : Nat → Nat → Int32) (c : Int32) : Int32 := if c < 0 then 0 else (if I m 3 ≤ c then 0 else 1)
theorem fb_M_has (m mk ml mt : Nat) (I : Nat → Nat → Int32) (c : Int32) : f_M_has m mk ml mt I c = 1 ∨ f_M_has m mk ml mt I c = 0 := by
  unfold f_M_has
  (repeat' split) <;> first | exact Or.inl rfl | exact Or.inr rfl
set_option maxRecDepth 100000 in
theorem sp_M_has_4 {X : Nat × (Nat → Int32)} (I : Nat → Nat → Int32) (P : Nat → Nat → Option Nat) (c : Int32) : Wf X 24 [some (.ref 4), some (.int c)] (zH I P) (some (.int (f_M_has 4 5 6 7 I c))) (zH I P) := by
  unfold Wf
  refine wp_blk (pc' := 1) (L' := [some (.ref 4), some (.int c)]) (st' := [.int c]) (h' := zH I P) 1 rfl ?_
  refine wp_lt (a := c) (b := 0) (s1 := (16, [some (.ref 4), some (.int c)], [], zH I P)) (s2 := (4, [some (.ref 4), some (.int c)], [], zH I P)) rfl (fun c1 => ?_) (fun c1 => ?_)
  · refine wp_blk (pc' := 17) (L' := [some (.ref 4), some (.int c)]) (st' := [.int 0]) (h' := zH I P) 1 rfl ?_
    exact wp_end rfl rfl ⟨by rw [f_M_has, if_pos c1], rfl⟩
  · refine wp_blk (pc' := 9) (L' := [some (.ref 4), some (.int c)]) (st' := [.int (I 4 3), .int c]) (h' := zH I P) 3 rfl ?_
    refine wp_ge (a := c) (b := I 4 3) (s1 := (16, [some (.ref 4), some (.int c)], [], zH I P)) (s2 := (12, [some (.ref 4), some (.int c)], [], zH I P)) rfl (fun c2 => ?_) (fun c2 => ?_)
    · refine wp_blk (pc' := 17) (L' := [some (.ref 4), some (.int c)]) (st' := [.int 0]) (h' := zH I P) 1 rfl ?_
      exact wp_end rfl rfl ⟨by rw [f_M_has, if_neg c1, if_pos c2], rfl⟩
    · refine wp_blk (pc' := 17) (L' := [some (.ref 4), some (.int c)]) (st' := [.int 1]) (h' := zH I P) 2 rfl ?_
      exact wp_end rfl rfl ⟨by rw [f_M_has, if_neg c1, if_neg c2], rfl⟩
set_option maxRecDepth 100000 in
theorem sp_M_has_4_G {X : Nat × (Nat → Int32)} (I : Nat → Nat → Int32) (P : Nat → Nat → Option Nat) (c : Int32) : Wf X 24 [some (.ref 4), some (.int c)] (zG I P) (some (.int (f_M_has 4 5 6 7 I c))) (zG I P) := by
  unfold Wf
  refine wp_blk (pc' := 1) (L' := [some (.ref 4), some (.int c)]) (st' := [.int c]) (h' := zG I P) 1 rfl ?_
  refine wp_lt (a := c) (b := 0) (s1 := (16, [some (.ref 4), some (.int c)], [], zG I P)) (s2 := (4, [some (.ref 4), some (.int c)], [], zG I P)) rfl (fun c1 => ?_) (fun c1 => ?_)
  · refine wp_blk (pc' := 17) (L' := [some (.ref 4), some (.int c)]) (st' := [.int 0]) (h' := zG I P) 1 rfl ?_
    exact wp_end rfl rfl ⟨by rw [f_M_has, if_pos c1], rfl⟩
  · refine wp_blk (pc' := 9) (L' := [some (.ref 4), some (.int c)]) (st' := [.int (I 4 3), .int c]) (h' := zG I P) 3 rfl ?_
    refine wp_ge (a := c) (b := I 4 3) (s1 := (16, [some (.ref 4), some (.int c)], [], zG I P)) (s2 := (12, [some (.ref 4), some (.int c)], [], zG I P)) rfl (fun c2 => ?_) (fun c2 => ?_)
    · refine wp_blk (pc' := 17) (L' := [some (.ref 4), some (.int c)]) (st' := [.int 0]) (h' := zG I P) 1 rfl ?_
      exact wp_end rfl rfl ⟨by rw [f_M_has, if_neg c1, if_pos c2], rfl⟩
    · refine wp_blk (pc' := 17) (L' := [some (.ref 4), some (.int c)]) (st' := [.int 1]) (h' := zG I P) 2 rfl ?_
      exact wp_end rfl rfl ⟨by rw [f_M_has, if_neg c1, if_neg c2], rfl⟩
set_option maxRecDepth 100000 in
theorem sp_M_has_8 {X : Nat × (Nat → Int32)} (I : Nat → Nat → Int32) (P : Nat → Nat → Option Nat) (c : Int32) : Wf X 24 [some (.ref 8), some (.int c)] (zH I P) (some (.int (f_M_has 8 9 10 11 I c))) (zH I P) := by
  unfold Wf
  refine wp_blk (pc' := 1) (L' := [some (.ref 8), some (.int c)]) (st' := [.int c]) (h' := zH I P) 1 rfl ?_
  refine wp_lt (a := c) (b := 0) (s1 := (16, [some (.ref 8), some (.int c)], [], zH I P)) (s2 := (4, [some (.ref 8), some (.int c)], [], zH I P)) rfl (fun c1 => ?_) (fun c1 => ?_)
  · refine wp_blk (pc' := 17) (L' := [some (.ref 8), some (.int c)]) (st' := [.int 0]) (h' := zH I P) 1 rfl ?_
    exact wp_end rfl rfl ⟨by rw [f_M_has, if_pos c1], rfl⟩
  · refine wp_blk (pc' := 9) (L' := [some (.ref 8), some (.int c)]) (st' := [.int (I 8 3), .int c]) (h' := zH I P) 3 rfl ?_
    refine wp_ge (a := c) (b := I 8 3) (s1 := (16, [some (.ref 8), some (.int c)], [], zH I P)) (s2 := (12, [some (.ref 8), some (.int c)], [], zH I P)) rfl (fun c2 => ?_) (fun c2 => ?_)
    · refine wp_blk (pc' := 17) (L' := [some (.ref 8), some (.int c)]) (st' := [.int 0]) (h' := zH I P) 1 rfl ?_
      exact wp_end rfl rfl ⟨by rw [f_M_has, if_neg c1, if_pos c2], rfl⟩
    · refine wp_blk (pc' := 17) (L' := [some (.ref 8), some (.int c)]) (st' := [.int 1]) (h' := zH I P) 2 rfl ?_
      exact wp_end rfl rfl ⟨by rw [f_M_has, if_neg c1, if_neg c2], rfl⟩
set_option maxRecDepth 100000 in
theorem sp_M_has_8_G {X : Nat × (Nat → Int32)} (I : Nat → Nat → Int32) (P : Nat → Nat → Option Nat) (c : Int32) : Wf X 24 [some (.ref 8), some (.int c)] (zG I P) (some (.int (f_M_has 8 9 10 11 I c))) (zG I P) := by
  unfold Wf
  refine wp_blk (pc' := 1) (L' := [some (.ref 8), some (.int c)]) (st' := [.int c]) (h' := zG I P) 1 rfl ?_
  refine wp_lt (a := c) (b := 0) (s1 := (16, [some (.ref 8), some (.int c)], [], zG I P)) (s2 := (4, [some (.ref 8), some (.int c)], [], zG I P)) rfl (fun c1 => ?_) (fun c1 => ?_)
  · refine wp_blk (pc' := 17) (L' := [some (.ref 8), some (.int c)]) (st' := [.int 0]) (h' := zG I P) 1 rfl ?_
    exact wp_end rfl rfl ⟨by rw [f_M_has, if_pos c1], rfl⟩
  · refine wp_blk (pc' := 9) (L' := [some (.ref 8), some (.int c)]) (st' := [.int (I 8 3), .int c]) (h' := zG I P) 3 rfl ?_
    refine wp_ge (a := c) (b := I 8 3) (s1 := (16, [some (.ref 8), some (.int c)], [], zG I P)) (s2 := (12, [some (.ref 8), some (.int c)], [], zG I P)) rfl (fun c2 => ?_) (fun c2 => ?_)
    · refine wp_blk (pc' := 17) (L' := [some (.ref 8), some (.int c)]) (st' := [.int 0]) (h' := zG I P) 1 rfl ?_
      exact wp_end rfl rfl ⟨by rw [f_M_has, if_neg c1, if_pos c2], rfl⟩
    · refine wp_blk (pc' := 17) (L' := [some (.ref 8), some (.int c)]) (st' := [.int 1]) (h' := zG I P) 2 rfl ?_
      exact wp_end rfl rfl ⟨by rw [f_M_has, if_neg c1, if_neg c2], rfl⟩
def f_M_size (m mk ml mt : Nat) (I : Nat → Nat → Int32) : Int32 := I m 3
set_option maxRecDepth 100000 in
theorem sp_M_size_4 {X : Nat × (Nat → Int32)} (I : Nat → Nat → Int32) (P : Nat → Nat → Option Nat) : Wf X 36 [some (.ref 4)] (zH I P) (some (.int (f_M_size 4 5 6 7 I))) (zH I P) := by
  unfold Wf
  refine wp_blk (pc' := 4) (L' := [some (.ref 4)]) (st' := [.int (I 4 3)]) (h' := zH I P) 2 rfl ?_
  exact wp_end rfl rfl ⟨rfl, rfl⟩
set_option maxRecDepth 100000 in
theorem sp_M_size_8 {X : Nat × (Nat → Int32)} (I : Nat → Nat → Int32) (P : Nat → Nat → Option Nat) : Wf X 36 [some (.ref 8)] (zH I P) (some (.int (f_M_size 8 9 10 11 I))) (zH I P) := by
  unfold Wf
  refine wp_blk (pc' := 4) (L' := [some (.ref 8)]) (st' := [.int (I 8 3)]) (h' := zH I P) 2 rfl ?_
  exact wp_end rfl rfl ⟨rfl, rfl⟩
def f_M_kindOf (m mk ml mt : Nat) (I : Nat → Nat → Int32) (c : Int32) : Int32 := if c < 0 then 0 else (if Int32.ofNat 6 ≤ c then 0 else (I mk c.toNatClampNeg))
set_option maxRecDepth 100000 in
theorem sp_M_kindOf_4 {X : Nat × (Nat → Int32)} (I : Nat → Nat → Int32) (P : Nat → Nat → Option Nat) (c : Int32) : Wf X 41 [some (.ref 4), some (.int c)] (zH I P) (some (.int (f_M_kindOf 4 5 6 7 I c))) (zH I P) := by
  unfold Wf
  refine wp_blk (pc' := 1) (L' := [some (.ref 4), some (.int c)]) (st' := [.int c]) (h' := zH I P) 1 rfl ?_
  refine wp_lt (a := c) (b := 0) (s1 := (22, [some (.ref 4), some (.int c)], [], zH I P)) (s2 := (4, [some (.ref 4), some (.int c)], [], zH I P)) rfl (fun c1 => ?_) (fun c1 => ?_)
  · refine wp_blk (pc' := 23) (L' := [some (.ref 4), some (.int c)]) (st' := [.int 0]) (h' := zH I P) 1 rfl ?_
    exact wp_end rfl rfl ⟨by rw [f_M_kindOf, if_pos c1], rfl⟩
  · refine wp_blk (pc' := 10) (L' := [some (.ref 4), some (.int c)]) (st' := [.int (Int32.ofNat 6), .int c]) (h' := zH I P) 4 rfl ?_
    refine wp_ge (a := c) (b := Int32.ofNat 6) (s1 := (22, [some (.ref 4), some (.int c)], [], zH I P)) (s2 := (13, [some (.ref 4), some (.int c)], [], zH I P)) rfl (fun c2 => ?_) (fun c2 => ?_)
    · refine wp_blk (pc' := 23) (L' := [some (.ref 4), some (.int c)]) (st' := [.int 0]) (h' := zH I P) 1 rfl ?_
      exact wp_end rfl rfl ⟨by rw [f_M_kindOf, if_neg c1, if_pos c2], rfl⟩
    · refine wp_blk (pc' := 18) (L' := [some (.ref 4), some (.int c)]) (st' := [.int c, .ref 5]) (h' := zH I P) 3 rfl ?_
      refine wp_chk (P := zinb c 6 = true) (pc' := 19) (L' := [some (.ref 4), some (.int c)]) (st' := [.int (I 5 c.toNatClampNeg)]) (h' := zH I P) rfl (by exact zinb_a (by assumption) (by assumption)) ?_
      refine wp_blk (pc' := 23) (L' := [some (.ref 4), some (.int c)]) (st' := [.int (I 5 c.toNatClampNeg)]) (h' := zH I P) 1 rfl ?_
      exact wp_end rfl rfl ⟨by rw [f_M_kindOf, if_neg c1, if_neg c2], rfl⟩
set_option maxRecDepth 100000 in
theorem sp_M_kindOf_8 {X : Nat × (Nat → Int32)} (I : Nat → Nat → Int32) (P : Nat → Nat → Option Nat) (c : Int32) : Wf X 41 [some (.ref 8), some (.int c)] (zH I P) (some (.int (f_M_kindOf 8 9 10 11 I c))) (zH I P) := by
  unfold Wf
  refine wp_blk (pc' := 1) (L' := [some (.ref 8), some (.int c)]) (st' := [.int c]) (h' := zH I P) 1 rfl ?_
  refine wp_lt (a := c) (b := 0) (s1 := (22, [some (.ref 8), some (.int c)], [], zH I P)) (s2 := (4, [some (.ref 8), some (.int c)], [], zH I P)) rfl (fun c1 => ?_) (fun c1 => ?_)
  · refine wp_blk (pc' := 23) (L' := [some (.ref 8), some (.int c)]) (st' := [.int 0]) (h' := zH I P) 1 rfl ?_
    exact wp_end rfl rfl ⟨by rw [f_M_kindOf, if_pos c1], rfl⟩
  · refine wp_blk (pc' := 10) (L' := [some (.ref 8), some (.int c)]) (st' := [.int (Int32.ofNat 6), .int c]) (h' := zH I P) 4 rfl ?_
    refine wp_ge (a := c) (b := Int32.ofNat 6) (s1 := (22, [some (.ref 8), some (.int c)], [], zH I P)) (s2 := (13, [some (.ref 8), some (.int c)], [], zH I P)) rfl (fun c2 => ?_) (fun c2 => ?_)
    · refine wp_blk (pc' := 23) (L' := [some (.ref 8), some (.int c)]) (st' := [.int 0]) (h' := zH I P) 1 rfl ?_
      exact wp_end rfl rfl ⟨by rw [f_M_kindOf, if_neg c1, if_pos c2], rfl⟩
    · refine wp_blk (pc' := 18) (L' := [some (.ref 8), some (.int c)]) (st' := [.int c, .ref 9]) (h' := zH I P) 3 rfl ?_
      refine wp_chk (P := zinb c 6 = true) (pc' := 19) (L' := [some (.ref 8), some (.int c)]) (st' := [.int (I 9 c.toNatClampNeg)]) (h' := zH I P) rfl (by exact zinb_a (by assumption) (by assumption)) ?_
      refine wp_blk (pc' := 23) (L' := [some (.ref 8), some (.int c)]) (st' := [.int (I 9 c.toNatClampNeg)]) (h' := zH I P) 1 rfl ?_
      exact wp_end rfl rfl ⟨by rw [f_M_kindOf, if_neg c1, if_neg c2], rfl⟩
def f_M_isGone (m mk ml mt : Nat) (I : Nat → Nat → Int32) (c : Int32) : Int32 := f_G_isIn I (I m 4) c
theorem fb_M_isGone (m mk ml mt : Nat) (I : Nat → Nat → Int32) (c : Int32) : f_M_isGone m mk ml mt I c = 1 ∨ f_M_isGone m mk ml mt I c = 0 := by
  unfold f_M_isGone
  (repeat' split) <;> first | exact Or.inl rfl | exact Or.inr rfl | exact fb_G_isIn I (I m 4) c
set_option maxRecDepth 100000 in
theorem sp_M_isGone_4 {X : Nat × (Nat → Int32)} (I : Nat → Nat → Int32) (P : Nat → Nat → Option Nat) (c : Int32) : Wf X 44 [some (.ref 4), some (.int c)] (zH I P) (some (.int (f_M_isGone 4 5 6 7 I c))) (zH I P) := by
  unfold Wf
  refine wp_blk (pc' := 5) (L' := [some (.ref 4), some (.int c)]) (st' := [.int c, .int (I 4 4)]) (h' := zH I P) 3 rfl ?_
  refine wp_callf (d := 45) (as := [.int (I 4 4), .int c]) (rest := []) (Ld := [some (.int (I 4 4)), some (.int c)]) (pc' := 8) (st' := [.int (f_G_isIn I (I 4 4) c)]) (r := some (.int (f_G_isIn I (I 4 4) c))) (h1 := zH I P) rfl rfl rfl rfl rfl rfl rfl rfl rfl (sp_G_isIn I P (I 4 4) c) ?_
  exact wp_endb rfl rfl (fb_G_isIn I (I 4 4) c) ⟨rfl, rfl⟩
set_option maxRecDepth 100000 in
theorem sp_M_isGone_8 {X : Nat × (Nat → Int32)} (I : Nat → Nat → Int32) (P : Nat → Nat → Option Nat) (c : Int32) : Wf X 44 [some (.ref 8), some (.int c)] (zH I P) (some (.int (f_M_isGone 8 9 10 11 I c))) (zH I P) := by
  unfold Wf
  refine wp_blk (pc' := 5) (L' := [some (.ref 8), some (.int c)]) (st' := [.int c, .int (I 8 4)]) (h' := zH I P) 3 rfl ?_
  refine wp_callf (d := 45) (as := [.int (I 8 4), .int c]) (rest := []) (Ld := [some (.int (I 8 4)), some (.int c)]) (pc' := 8) (st' := [.int (f_G_isIn I (I 8 4) c)]) (r := some (.int (f_G_isIn I (I 8 4) c))) (h1 := zH I P) rfl rfl rfl rfl rfl rfl rfl rfl rfl (sp_G_isIn I P (I 8 4) c) ?_
  exact wp_endb rfl rfl (fb_G_isIn I (I 8 4) c) ⟨rfl, rfl⟩
def f_M_goneBits (m mk ml mt : Nat) (I : Nat → Nat → Int32) : Int32 := I m 4
set_option maxRecDepth 100000 in
theorem sp_M_goneBits_4 {X : Nat × (Nat → Int32)} (I : Nat → Nat → Int32) (P : Nat → Nat → Option Nat) : Wf X 71 [some (.ref 4)] (zH I P) (some (.int (f_M_goneBits 4 5 6 7 I))) (zH I P) := by
  unfold Wf
  refine wp_blk (pc' := 4) (L' := [some (.ref 4)]) (st' := [.int (I 4 4)]) (h' := zH I P) 2 rfl ?_
  exact wp_end rfl rfl ⟨rfl, rfl⟩
set_option maxRecDepth 100000 in
theorem sp_M_goneBits_8 {X : Nat × (Nat → Int32)} (I : Nat → Nat → Int32) (P : Nat → Nat → Option Nat) : Wf X 71 [some (.ref 8)] (zH I P) (some (.int (f_M_goneBits 8 9 10 11 I))) (zH I P) := by
  unfold Wf
  refine wp_blk (pc' := 4) (L' := [some (.ref 8)]) (st' := [.int (I 8 4)]) (h' := zH I P) 2 rfl ?_
  exact wp_end rfl rfl ⟨rfl, rfl⟩
def f_M_presentBits (m mk ml mt : Nat) (I : Nat → Nat → Int32) : Int32 := ((1 <<< ((I m 3) &&& 31)) - 1) &&& ((I m 4) ^^^ (-1))
set_option maxRecDepth 100000 in
theorem sp_M_presentBits_4 {X : Nat × (Nat → Int32)} (I : Nat → Nat → Int32) (P : Nat → Nat → Option Nat) : Wf X 90 [some (.ref 4)] (zH I P) (some (.int (f_M_presentBits 4 5 6 7 I))) (zH I P) := by
  unfold Wf
  refine wp_blk (pc' := 15) (L' := [some (.ref 4)]) (st' := [.int (((1 <<< ((I 4 3) &&& 31)) - 1) &&& ((I 4 4) ^^^ (-1)))]) (h' := zH I P) 11 rfl ?_
  exact wp_end rfl rfl ⟨rfl, rfl⟩
set_option maxRecDepth 100000 in
theorem sp_M_presentBits_8 {X : Nat × (Nat → Int32)} (I : Nat → Nat → Int32) (P : Nat → Nat → Option Nat) : Wf X 90 [some (.ref 8)] (zH I P) (some (.int (f_M_presentBits 8 9 10 11 I))) (zH I P) := by
  unfold Wf
  refine wp_blk (pc' := 15) (L' := [some (.ref 8)]) (st' := [.int (((1 <<< ((I 8 3) &&& 31)) - 1) &&& ((I 8 4) ^^^ (-1)))]) (h' := zH I P) 11 rfl ?_
  exact wp_end rfl rfl ⟨rfl, rfl⟩
def g_M_setGone (m mk ml mt : Nat) (I : Nat → Nat → Int32) (b : Int32) : Nat → Nat → Int32 := (zui I m 4 b)
set_option maxRecDepth 100000 in
theorem sp_M_setGone_4 {X : Nat × (Nat → Int32)} (I : Nat → Nat → Int32) (P : Nat → Nat → Option Nat) (b : Int32) : Wf X 72 [some (.ref 4), some (.int b)] (zH I P) none (zH (g_M_setGone 4 5 6 7 I b) P) := by
  unfold Wf
  refine wp_blk (pc' := 5) (L' := [some (.ref 4), some (.int b)]) (st' := []) (h' := zH (zui I 4 4 b) P) 3 rfl ?_
  exact wp_end rfl rfl ⟨rfl, rfl⟩
set_option maxRecDepth 100000 in
theorem sp_M_setGone_8 {X : Nat × (Nat → Int32)} (I : Nat → Nat → Int32) (P : Nat → Nat → Option Nat) (b : Int32) : Wf X 72 [some (.ref 8), some (.int b)] (zH I P) none (zH (g_M_setGone 8 9 10 11 I b) P) := by
  unfold Wf
  refine wp_blk (pc' := 5) (L' := [some (.ref 8), some (.int b)]) (st' := []) (h' := zH (zui I 8 4 b) P) 3 rfl ?_
  exact wp_end rfl rfl ⟨rfl, rfl⟩
def f_M_wordOf (m mk ml mt : Nat) (I : Nat → Nat → Int32) (i j : Int32) : Int32 := if (i * 6) + j < 0 then 3 else (if Int32.ofNat 36 ≤ (i * 6) + j then 3 else (I mt (((i * 6) + j).toNatClampNeg)))
set_option maxRecDepth 100000 in
theorem sp_M_wordOf_4 {X : Nat × (Nat → Int32)} (I : Nat → Nat → Int32) (P : Nat → Nat → Option Nat) (i j : Int32) : Wf X 48 [some (.ref 4), some (.int i), some (.int j), none] (zH I P) (some (.int (f_M_wordOf 4 5 6 7 I i j))) (zH I P) := by
  unfold Wf
  refine wp_blk (pc' := 8) (L' := [some (.ref 4), some (.int i), some (.int j), some (.int ((i * 6) + j))]) (st' := [.int ((i * 6) + j)]) (h' := zH I P) 7 rfl ?_
  refine wp_lt (a := (i * 6) + j) (b := 0) (s1 := (29, [some (.ref 4), some (.int i), some (.int j), some (.int ((i * 6) + j))], [], zH I P)) (s2 := (11, [some (.ref 4), some (.int i), some (.int j), some (.int ((i * 6) + j))], [], zH I P)) rfl (fun c1 => ?_) (fun c1 => ?_)
  · refine wp_blk (pc' := 30) (L' := [some (.ref 4), some (.int i), some (.int j), some (.int ((i * 6) + j))]) (st' := [.int 3]) (h' := zH I P) 1 rfl ?_
    exact wp_end rfl rfl ⟨by rw [f_M_wordOf, if_pos c1], rfl⟩
  · refine wp_blk (pc' := 17) (L' := [some (.ref 4), some (.int i), some (.int j), some (.int ((i * 6) + j))]) (st' := [.int (Int32.ofNat 36), .int ((i * 6) + j)]) (h' := zH I P) 4 rfl ?_
    refine wp_ge (a := (i * 6) + j) (b := Int32.ofNat 36) (s1 := (29, [some (.ref 4), some (.int i), some (.int j), some (.int ((i * 6) + j))], [], zH I P)) (s2 := (20, [some (.ref 4), some (.int i), some (.int j), some (.int ((i * 6) + j))], [], zH I P)) rfl (fun c2 => ?_) (fun c2 => ?_)
    · refine wp_blk (pc' := 30) (L' := [some (.ref 4), some (.int i), some (.int j), some (.int ((i * 6) + j))]) (st' := [.int 3]) (h' := zH I P) 1 rfl ?_
      exact wp_end rfl rfl ⟨by rw [f_M_wordOf, if_neg c1, if_pos c2], rfl⟩
    · refine wp_blk (pc' := 25) (L' := [some (.ref 4), some (.int i), some (.int j), some (.int ((i * 6) + j))]) (st' := [.int ((i * 6) + j), .ref 7]) (h' := zH I P) 3 rfl ?_
      refine wp_chk (P := zinb ((i * 6) + j) 36 = true) (pc' := 26) (L' := [some (.ref 4), some (.int i), some (.int j), some (.int ((i * 6) + j))]) (st' := [.int (I 7 (((i * 6) + j).toNatClampNeg))]) (h' := zH I P) rfl (by exact zinb_a (by assumption) (by assumption)) ?_
      refine wp_blk (pc' := 30) (L' := [some (.ref 4), some (.int i), some (.int j), some (.int ((i * 6) + j))]) (st' := [.int (I 7 (((i * 6) + j).toNatClampNeg))]) (h' := zH I P) 1 rfl ?_
      exact wp_end rfl rfl ⟨by rw [f_M_wordOf, if_neg c1, if_neg c2], rfl⟩
set_option maxRecDepth 100000 in
theorem sp_M_wordOf_8 {X : Nat × (Nat → Int32)} (I : Nat → Nat → Int32) (P : Nat → Nat → Option Nat) (i j : Int32) : Wf X 48 [some (.ref 8), some (.int i), some (.int j), none] (zH I P) (some (.int (f_M_wordOf 8 9 10 11 I i j))) (zH I P) := by
  unfold Wf
  refine wp_blk (pc' := 8) (L' := [some (.ref 8), some (.int i), some (.int j), some (.int ((i * 6) + j))]) (st' := [.int ((i * 6) + j)]) (h' := zH I P) 7 rfl ?_
  refine wp_lt (a := (i * 6) + j) (b := 0) (s1 := (29, [some (.ref 8), some (.int i), some (.int j), some (.int ((i * 6) + j))], [], zH I P)) (s2 := (11, [some (.ref 8), some (.int i), some (.int j), some (.int ((i * 6) + j))], [], zH I P)) rfl (fun c1 => ?_) (fun c1 => ?_)
  · refine wp_blk (pc' := 30) (L' := [some (.ref 8), some (.int i), some (.int j), some (.int ((i * 6) + j))]) (st' := [.int 3]) (h' := zH I P) 1 rfl ?_
    exact wp_end rfl rfl ⟨by rw [f_M_wordOf, if_pos c1], rfl⟩
  · refine wp_blk (pc' := 17) (L' := [some (.ref 8), some (.int i), some (.int j), some (.int ((i * 6) + j))]) (st' := [.int (Int32.ofNat 36), .int ((i * 6) + j)]) (h' := zH I P) 4 rfl ?_
    refine wp_ge (a := (i * 6) + j) (b := Int32.ofNat 36) (s1 := (29, [some (.ref 8), some (.int i), some (.int j), some (.int ((i * 6) + j))], [], zH I P)) (s2 := (20, [some (.ref 8), some (.int i), some (.int j), some (.int ((i * 6) + j))], [], zH I P)) rfl (fun c2 => ?_) (fun c2 => ?_)
    · refine wp_blk (pc' := 30) (L' := [some (.ref 8), some (.int i), some (.int j), some (.int ((i * 6) + j))]) (st' := [.int 3]) (h' := zH I P) 1 rfl ?_
      exact wp_end rfl rfl ⟨by rw [f_M_wordOf, if_neg c1, if_pos c2], rfl⟩
    · refine wp_blk (pc' := 25) (L' := [some (.ref 8), some (.int i), some (.int j), some (.int ((i * 6) + j))]) (st' := [.int ((i * 6) + j), .ref 11]) (h' := zH I P) 3 rfl ?_
      refine wp_chk (P := zinb ((i * 6) + j) 36 = true) (pc' := 26) (L' := [some (.ref 8), some (.int i), some (.int j), some (.int ((i * 6) + j))]) (st' := [.int (I 11 (((i * 6) + j).toNatClampNeg))]) (h' := zH I P) rfl (by exact zinb_a (by assumption) (by assumption)) ?_
      refine wp_blk (pc' := 30) (L' := [some (.ref 8), some (.int i), some (.int j), some (.int ((i * 6) + j))]) (st' := [.int (I 11 (((i * 6) + j).toNatClampNeg))]) (h' := zH I P) 1 rfl ?_
      exact wp_end rfl rfl ⟨by rw [f_M_wordOf, if_neg c1, if_neg c2], rfl⟩
def g_M_setWord (m mk ml mt : Nat) (I : Nat → Nat → Int32) (i j v : Int32) : Nat → Nat → Int32 := if (i * 6) + j < 0 then I else (if Int32.ofNat 36 ≤ (i * 6) + j then I else (zui I mt (((i * 6) + j).toNatClampNeg) v))
set_option maxRecDepth 100000 in
theorem sp_M_setWord_4 {X : Nat × (Nat → Int32)} (I : Nat → Nat → Int32) (P : Nat → Nat → Option Nat) (i j v : Int32) : Wf X 26 [some (.ref 4), some (.int i), some (.int j), some (.int v), none] (zH I P) none (zH (g_M_setWord 4 5 6 7 I i j v) P) := by
  unfold Wf
  refine wp_blk (pc' := 10) (L' := [some (.ref 4), some (.int i), some (.int j), some (.int v), some (.int ((i * 6) + j))]) (st' := [.int ((i * 6) + j)]) (h' := zH I P) 7 rfl ?_
  refine wp_lt (a := (i * 6) + j) (b := 0) (s1 := (31, [some (.ref 4), some (.int i), some (.int j), some (.int v), some (.int ((i * 6) + j))], [], zH I P)) (s2 := (13, [some (.ref 4), some (.int i), some (.int j), some (.int v), some (.int ((i * 6) + j))], [], zH I P)) rfl (fun c1 => ?_) (fun c1 => ?_)
  · exact wp_end rfl rfl ⟨rfl, by rw [g_M_setWord, if_pos c1]⟩
  · refine wp_blk (pc' := 20) (L' := [some (.ref 4), some (.int i), some (.int j), some (.int v), some (.int ((i * 6) + j))]) (st' := [.int (Int32.ofNat 36), .int ((i * 6) + j)]) (h' := zH I P) 4 rfl ?_
    refine wp_ge (a := (i * 6) + j) (b := Int32.ofNat 36) (s1 := (31, [some (.ref 4), some (.int i), some (.int j), some (.int v), some (.int ((i * 6) + j))], [], zH I P)) (s2 := (23, [some (.ref 4), some (.int i), some (.int j), some (.int v), some (.int ((i * 6) + j))], [], zH I P)) rfl (fun c2 => ?_) (fun c2 => ?_)
    · exact wp_end rfl rfl ⟨rfl, by rw [g_M_setWord, if_neg c1, if_pos c2]⟩
    · refine wp_blk (pc' := 30) (L' := [some (.ref 4), some (.int i), some (.int j), some (.int v), some (.int ((i * 6) + j))]) (st' := [.int v, .int ((i * 6) + j), .ref 7]) (h' := zH I P) 4 rfl ?_
      refine wp_chk (P := zinb ((i * 6) + j) 36 = true) (pc' := 31) (L' := [some (.ref 4), some (.int i), some (.int j), some (.int v), some (.int ((i * 6) + j))]) (st' := []) (h' := zH (zui I 7 (((i * 6) + j).toNatClampNeg) v) P) rfl (by exact zinb_a (by assumption) (by assumption)) ?_
      exact wp_end rfl rfl ⟨rfl, by rw [g_M_setWord, if_neg c1, if_neg c2]⟩
set_option maxRecDepth 100000 in
theorem sp_M_setWord_4_G {X : Nat × (Nat → Int32)} (I : Nat → Nat → Int32) (P : Nat → Nat → Option Nat) (i j v : Int32) : Wf X 26 [some (.ref 4), some (.int i), some (.int j), some (.int v), none] (zG I P) none (zG (g_M_setWord 4 5 6 7 I i j v) P) := by
  unfold Wf
  refine wp_blk (pc' := 10) (L' := [some (.ref 4), some (.int i), some (.int j), some (.int v), some (.int ((i * 6) + j))]) (st' := [.int ((i * 6) + j)]) (h' := zG I P) 7 rfl ?_
  refine wp_lt (a := (i * 6) + j) (b := 0) (s1 := (31, [some (.ref 4), some (.int i), some (.int j), some (.int v), some (.int ((i * 6) + j))], [], zG I P)) (s2 := (13, [some (.ref 4), some (.int i), some (.int j), some (.int v), some (.int ((i * 6) + j))], [], zG I P)) rfl (fun c1 => ?_) (fun c1 => ?_)
  · exact wp_end rfl rfl ⟨rfl, by rw [g_M_setWord, if_pos c1]⟩
  · refine wp_blk (pc' := 20) (L' := [some (.ref 4), some (.int i), some (.int j), some (.int v), some (.int ((i * 6) + j))]) (st' := [.int (Int32.ofNat 36), .int ((i * 6) + j)]) (h' := zG I P) 4 rfl ?_
    refine wp_ge (a := (i * 6) + j) (b := Int32.ofNat 36) (s1 := (31, [some (.ref 4), some (.int i), some (.int j), some (.int v), some (.int ((i * 6) + j))], [], zG I P)) (s2 := (23, [some (.ref 4), some (.int i), some (.int j), some (.int v), some (.int ((i * 6) + j))], [], zG I P)) rfl (fun c2 => ?_) (fun c2 => ?_)
    · exact wp_end rfl rfl ⟨rfl, by rw [g_M_setWord, if_neg c1, if_pos c2]⟩
    · refine wp_blk (pc' := 30) (L' := [some (.ref 4), some (.int i), some (.int j), some (.int v), some (.int ((i * 6) + j))]) (st' := [.int v, .int ((i * 6) + j), .ref 7]) (h' := zG I P) 4 rfl ?_
      refine wp_chk (P := zinb ((i * 6) + j) 36 = true) (pc' := 31) (L' := [some (.ref 4), some (.int i), some (.int j), some (.int v), some (.int ((i * 6) + j))]) (st' := []) (h' := zG (zui I 7 (((i * 6) + j).toNatClampNeg) v) P) rfl (by exact zinb_a (by assumption) (by assumption)) ?_
      exact wp_end rfl rfl ⟨rfl, by rw [g_M_setWord, if_neg c1, if_neg c2]⟩
set_option maxRecDepth 100000 in
theorem sp_M_setWord_8 {X : Nat × (Nat → Int32)} (I : Nat → Nat → Int32) (P : Nat → Nat → Option Nat) (i j v : Int32) : Wf X 26 [some (.ref 8), some (.int i), some (.int j), some (.int v), none] (zH I P) none (zH (g_M_setWord 8 9 10 11 I i j v) P) := by
  unfold Wf
  refine wp_blk (pc' := 10) (L' := [some (.ref 8), some (.int i), some (.int j), some (.int v), some (.int ((i * 6) + j))]) (st' := [.int ((i * 6) + j)]) (h' := zH I P) 7 rfl ?_
  refine wp_lt (a := (i * 6) + j) (b := 0) (s1 := (31, [some (.ref 8), some (.int i), some (.int j), some (.int v), some (.int ((i * 6) + j))], [], zH I P)) (s2 := (13, [some (.ref 8), some (.int i), some (.int j), some (.int v), some (.int ((i * 6) + j))], [], zH I P)) rfl (fun c1 => ?_) (fun c1 => ?_)
  · exact wp_end rfl rfl ⟨rfl, by rw [g_M_setWord, if_pos c1]⟩
  · refine wp_blk (pc' := 20) (L' := [some (.ref 8), some (.int i), some (.int j), some (.int v), some (.int ((i * 6) + j))]) (st' := [.int (Int32.ofNat 36), .int ((i * 6) + j)]) (h' := zH I P) 4 rfl ?_
    refine wp_ge (a := (i * 6) + j) (b := Int32.ofNat 36) (s1 := (31, [some (.ref 8), some (.int i), some (.int j), some (.int v), some (.int ((i * 6) + j))], [], zH I P)) (s2 := (23, [some (.ref 8), some (.int i), some (.int j), some (.int v), some (.int ((i * 6) + j))], [], zH I P)) rfl (fun c2 => ?_) (fun c2 => ?_)
    · exact wp_end rfl rfl ⟨rfl, by rw [g_M_setWord, if_neg c1, if_pos c2]⟩
    · refine wp_blk (pc' := 30) (L' := [some (.ref 8), some (.int i), some (.int j), some (.int v), some (.int ((i * 6) + j))]) (st' := [.int v, .int ((i * 6) + j), .ref 11]) (h' := zH I P) 4 rfl ?_
      refine wp_chk (P := zinb ((i * 6) + j) 36 = true) (pc' := 31) (L' := [some (.ref 8), some (.int i), some (.int j), some (.int v), some (.int ((i * 6) + j))]) (st' := []) (h' := zH (zui I 11 (((i * 6) + j).toNatClampNeg) v) P) rfl (by exact zinb_a (by assumption) (by assumption)) ?_
      exact wp_end rfl rfl ⟨rfl, by rw [g_M_setWord, if_neg c1, if_neg c2]⟩
set_option maxRecDepth 100000 in
theorem sp_M_setWord_8_G {X : Nat × (Nat → Int32)} (I : Nat → Nat → Int32) (P : Nat → Nat → Option Nat) (i j v : Int32) : Wf X 26 [some (.ref 8), some (.int i), some (.int j), some (.int v), none] (zG I P) none (zG (g_M_setWord 8 9 10 11 I i j v) P) := by
  unfold Wf
  refine wp_blk (pc' := 10) (L' := [some (.ref 8), some (.int i), some (.int j), some (.int v), some (.int ((i * 6) + j))]) (st' := [.int ((i * 6) + j)]) (h' := zG I P) 7 rfl ?_
  refine wp_lt (a := (i * 6) + j) (b := 0) (s1 := (31, [some (.ref 8), some (.int i), some (.int j), some (.int v), some (.int ((i * 6) + j))], [], zG I P)) (s2 := (13, [some (.ref 8), some (.int i), some (.int j), some (.int v), some (.int ((i * 6) + j))], [], zG I P)) rfl (fun c1 => ?_) (fun c1 => ?_)
  · exact wp_end rfl rfl ⟨rfl, by rw [g_M_setWord, if_pos c1]⟩
  · refine wp_blk (pc' := 20) (L' := [some (.ref 8), some (.int i), some (.int j), some (.int v), some (.int ((i * 6) + j))]) (st' := [.int (Int32.ofNat 36), .int ((i * 6) + j)]) (h' := zG I P) 4 rfl ?_
    refine wp_ge (a := (i * 6) + j) (b := Int32.ofNat 36) (s1 := (31, [some (.ref 8), some (.int i), some (.int j), some (.int v), some (.int ((i * 6) + j))], [], zG I P)) (s2 := (23, [some (.ref 8), some (.int i), some (.int j), some (.int v), some (.int ((i * 6) + j))], [], zG I P)) rfl (fun c2 => ?_) (fun c2 => ?_)
    · exact wp_end rfl rfl ⟨rfl, by rw [g_M_setWord, if_neg c1, if_pos c2]⟩
    · refine wp_blk (pc' := 30) (L' := [some (.ref 8), some (.int i), some (.int j), some (.int v), some (.int ((i * 6) + j))]) (st' := [.int v, .int ((i * 6) + j), .ref 11]) (h' := zG I P) 4 rfl ?_
      refine wp_chk (P := zinb ((i * 6) + j) 36 = true) (pc' := 31) (L' := [some (.ref 8), some (.int i), some (.int j), some (.int v), some (.int ((i * 6) + j))]) (st' := []) (h' := zG (zui I 11 (((i * 6) + j).toNatClampNeg) v) P) rfl (by exact zinb_a (by assumption) (by assumption)) ?_
      exact wp_end rfl rfl ⟨rfl, by rw [g_M_setWord, if_neg c1, if_neg c2]⟩
def f_M_whoAt (m mk ml mt : Nat) (I : Nat → Nat → Int32) (p : Int32) : Int32 := if p < 0 then (-1) else (if I m 3 ≤ p then (-1) else (if Int32.ofNat 6 ≤ p then (-1) else (I ml p.toNatClampNeg)))
set_option maxRecDepth 100000 in
theorem sp_M_whoAt_4 {X : Nat × (Nat → Int32)} (I : Nat → Nat → Int32) (P : Nat → Nat → Option Nat) (p : Int32) : Wf X 43 [some (.ref 4), some (.int p)] (zH I P) (some (.int (f_M_whoAt 4 5 6 7 I p))) (zH I P) := by
  unfold Wf
  refine wp_blk (pc' := 1) (L' := [some (.ref 4), some (.int p)]) (st' := [.int p]) (h' := zH I P) 1 rfl ?_
  refine wp_lt (a := p) (b := 0) (s1 := (30, [some (.ref 4), some (.int p)], [], zH I P)) (s2 := (4, [some (.ref 4), some (.int p)], [], zH I P)) rfl (fun c1 => ?_) (fun c1 => ?_)
  · refine wp_blk (pc' := 31) (L' := [some (.ref 4), some (.int p)]) (st' := [.int (-1)]) (h' := zH I P) 1 rfl ?_
    exact wp_end rfl rfl ⟨by rw [f_M_whoAt, if_pos c1], rfl⟩
  · refine wp_blk (pc' := 9) (L' := [some (.ref 4), some (.int p)]) (st' := [.int (I 4 3), .int p]) (h' := zH I P) 3 rfl ?_
    refine wp_ge (a := p) (b := I 4 3) (s1 := (30, [some (.ref 4), some (.int p)], [], zH I P)) (s2 := (12, [some (.ref 4), some (.int p)], [], zH I P)) rfl (fun c2 => ?_) (fun c2 => ?_)
    · refine wp_blk (pc' := 31) (L' := [some (.ref 4), some (.int p)]) (st' := [.int (-1)]) (h' := zH I P) 1 rfl ?_
      exact wp_end rfl rfl ⟨by rw [f_M_whoAt, if_neg c1, if_pos c2], rfl⟩
    · refine wp_blk (pc' := 18) (L' := [some (.ref 4), some (.int p)]) (st' := [.int (Int32.ofNat 6), .int p]) (h' := zH I P) 4 rfl ?_
      refine wp_ge (a := p) (b := Int32.ofNat 6) (s1 := (30, [some (.ref 4), some (.int p)], [], zH I P)) (s2 := (21, [some (.ref 4), some (.int p)], [], zH I P)) rfl (fun c3 => ?_) (fun c3 => ?_)
      · refine wp_blk (pc' := 31) (L' := [some (.ref 4), some (.int p)]) (st' := [.int (-1)]) (h' := zH I P) 1 rfl ?_
        exact wp_end rfl rfl ⟨by rw [f_M_whoAt, if_neg c1, if_neg c2, if_pos c3], rfl⟩
      · refine wp_blk (pc' := 26) (L' := [some (.ref 4), some (.int p)]) (st' := [.int p, .ref 6]) (h' := zH I P) 3 rfl ?_
        refine wp_chk (P := zinb p 6 = true) (pc' := 27) (L' := [some (.ref 4), some (.int p)]) (st' := [.int (I 6 p.toNatClampNeg)]) (h' := zH I P) rfl (by exact zinb_a (by assumption) (by assumption)) ?_
        refine wp_blk (pc' := 31) (L' := [some (.ref 4), some (.int p)]) (st' := [.int (I 6 p.toNatClampNeg)]) (h' := zH I P) 1 rfl ?_
        exact wp_end rfl rfl ⟨by rw [f_M_whoAt, if_neg c1, if_neg c2, if_neg c3], rfl⟩
set_option maxRecDepth 100000 in
theorem sp_M_whoAt_8 {X : Nat × (Nat → Int32)} (I : Nat → Nat → Int32) (P : Nat → Nat → Option Nat) (p : Int32) : Wf X 43 [some (.ref 8), some (.int p)] (zH I P) (some (.int (f_M_whoAt 8 9 10 11 I p))) (zH I P) := by
  unfold Wf
  refine wp_blk (pc' := 1) (L' := [some (.ref 8), some (.int p)]) (st' := [.int p]) (h' := zH I P) 1 rfl ?_
  refine wp_lt (a := p) (b := 0) (s1 := (30, [some (.ref 8), some (.int p)], [], zH I P)) (s2 := (4, [some (.ref 8), some (.int p)], [], zH I P)) rfl (fun c1 => ?_) (fun c1 => ?_)
  · refine wp_blk (pc' := 31) (L' := [some (.ref 8), some (.int p)]) (st' := [.int (-1)]) (h' := zH I P) 1 rfl ?_
    exact wp_end rfl rfl ⟨by rw [f_M_whoAt, if_pos c1], rfl⟩
  · refine wp_blk (pc' := 9) (L' := [some (.ref 8), some (.int p)]) (st' := [.int (I 8 3), .int p]) (h' := zH I P) 3 rfl ?_
    refine wp_ge (a := p) (b := I 8 3) (s1 := (30, [some (.ref 8), some (.int p)], [], zH I P)) (s2 := (12, [some (.ref 8), some (.int p)], [], zH I P)) rfl (fun c2 => ?_) (fun c2 => ?_)
    · refine wp_blk (pc' := 31) (L' := [some (.ref 8), some (.int p)]) (st' := [.int (-1)]) (h' := zH I P) 1 rfl ?_
      exact wp_end rfl rfl ⟨by rw [f_M_whoAt, if_neg c1, if_pos c2], rfl⟩
    · refine wp_blk (pc' := 18) (L' := [some (.ref 8), some (.int p)]) (st' := [.int (Int32.ofNat 6), .int p]) (h' := zH I P) 4 rfl ?_
      refine wp_ge (a := p) (b := Int32.ofNat 6) (s1 := (30, [some (.ref 8), some (.int p)], [], zH I P)) (s2 := (21, [some (.ref 8), some (.int p)], [], zH I P)) rfl (fun c3 => ?_) (fun c3 => ?_)
      · refine wp_blk (pc' := 31) (L' := [some (.ref 8), some (.int p)]) (st' := [.int (-1)]) (h' := zH I P) 1 rfl ?_
        exact wp_end rfl rfl ⟨by rw [f_M_whoAt, if_neg c1, if_neg c2, if_pos c3], rfl⟩
      · refine wp_blk (pc' := 26) (L' := [some (.ref 8), some (.int p)]) (st' := [.int p, .ref 10]) (h' := zH I P) 3 rfl ?_
        refine wp_chk (P := zinb p 6 = true) (pc' := 27) (L' := [some (.ref 8), some (.int p)]) (st' := [.int (I 10 p.toNatClampNeg)]) (h' := zH I P) rfl (by exact zinb_a (by assumption) (by assumption)) ?_
        refine wp_blk (pc' := 31) (L' := [some (.ref 8), some (.int p)]) (st' := [.int (I 10 p.toNatClampNeg)]) (h' := zH I P) 1 rfl ?_
        exact wp_end rfl rfl ⟨by rw [f_M_whoAt, if_neg c1, if_neg c2, if_neg c3], rfl⟩
def f_M_stoneNow (m mk ml mt : Nat) (I : Nat → Nat → Int32) : Int32 := I m 5
set_option maxRecDepth 100000 in
theorem sp_M_stoneNow_4 {X : Nat × (Nat → Int32)} (I : Nat → Nat → Int32) (P : Nat → Nat → Option Nat) : Wf X 54 [some (.ref 4)] (zH I P) (some (.int (f_M_stoneNow 4 5 6 7 I))) (zH I P) := by
  unfold Wf
  refine wp_blk (pc' := 4) (L' := [some (.ref 4)]) (st' := [.int (I 4 5)]) (h' := zH I P) 2 rfl ?_
  exact wp_end rfl rfl ⟨rfl, rfl⟩
set_option maxRecDepth 100000 in
theorem sp_M_stoneNow_8 {X : Nat × (Nat → Int32)} (I : Nat → Nat → Int32) (P : Nat → Nat → Option Nat) : Wf X 54 [some (.ref 8)] (zH I P) (some (.int (f_M_stoneNow 8 9 10 11 I))) (zH I P) := by
  unfold Wf
  refine wp_blk (pc' := 4) (L' := [some (.ref 8)]) (st' := [.int (I 8 5)]) (h' := zH I P) 2 rfl ?_
  exact wp_end rfl rfl ⟨rfl, rfl⟩
def f_M_daysGone (m mk ml mt : Nat) (I : Nat → Nat → Int32) : Int32 := I m 6
set_option maxRecDepth 100000 in
theorem sp_M_daysGone_4 {X : Nat × (Nat → Int32)} (I : Nat → Nat → Int32) (P : Nat → Nat → Option Nat) : Wf X 77 [some (.ref 4)] (zH I P) (some (.int (f_M_daysGone 4 5 6 7 I))) (zH I P) := by
  unfold Wf
  refine wp_blk (pc' := 4) (L' := [some (.ref 4)]) (st' := [.int (I 4 6)]) (h' := zH I P) 2 rfl ?_
  exact wp_end rfl rfl ⟨rfl, rfl⟩
set_option maxRecDepth 100000 in
theorem sp_M_daysGone_8 {X : Nat × (Nat → Int32)} (I : Nat → Nat → Int32) (P : Nat → Nat → Option Nat) : Wf X 77 [some (.ref 8)] (zH I P) (some (.int (f_M_daysGone 8 9 10 11 I))) (zH I P) := by
  unfold Wf
  refine wp_blk (pc' := 4) (L' := [some (.ref 8)]) (st' := [.int (I 8 6)]) (h' := zH I P) 2 rfl ?_
  exact wp_end rfl rfl ⟨rfl, rfl⟩
def g_M_endDay (m mk ml mt : Nat) (I : Nat → Nat → Int32) (v : Int32) : Nat → Nat → Int32 := (zui (zui I m 5 v) m 6 ((I m 6) + 1))
set_option maxRecDepth 100000 in
theorem sp_M_endDay_4 {X : Nat × (Nat → Int32)} (I : Nat → Nat → Int32) (P : Nat → Nat → Option Nat) (v : Int32) : Wf X 76 [some (.ref 4), some (.int v)] (zH I P) none (zH (g_M_endDay 4 5 6 7 I v) P) := by
  unfold Wf
  refine wp_blk (pc' := 15) (L' := [some (.ref 4), some (.int v)]) (st' := []) (h' := zH (zui (zui I 4 5 v) 4 6 ((I 4 6) + 1)) P) 9 rfl ?_
  exact wp_end rfl rfl ⟨rfl, rfl⟩
set_option maxRecDepth 100000 in
theorem sp_M_endDay_8 {X : Nat × (Nat → Int32)} (I : Nat → Nat → Int32) (P : Nat → Nat → Option Nat) (v : Int32) : Wf X 76 [some (.ref 8), some (.int v)] (zH I P) none (zH (g_M_endDay 8 9 10 11 I v) P) := by
  unfold Wf
  refine wp_blk (pc' := 15) (L' := [some (.ref 8), some (.int v)]) (st' := []) (h' := zH (zui (zui I 8 5 v) 8 6 ((I 8 6) + 1)) P) 9 rfl ?_
  exact wp_end rfl rfl ⟨rfl, rfl⟩
