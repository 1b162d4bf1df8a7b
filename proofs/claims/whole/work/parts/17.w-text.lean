/-! THE TEXT, the round, the sightings (printed) -/
def l_A_fill36_5 (a : Nat) : Nat → (Nat → Nat → Int32) → Int32 → Int32 → Int32 → Option (Int32 × (Nat → Nat → Int32))
  | 0, _, _, _, _ => none
  | n + 1, I, x1, x2, x3 => if x3 ≤ x2 then (some (0, I)) else (if zinb x2 36 = true then (l_A_fill36_5 a n (zui I a x2.toNatClampNeg x1) x1 (x2 + 1) x3) else none)
def x_A_fill36 (a : Nat) (I : Nat → Nat → Int32) (v : Int32) : Option (Int32 × (Nat → Nat → Int32)) := l_A_fill36_5 a 1000 I v 0 (Int32.ofNat 36)
set_option maxRecDepth 100000 in
theorem lp_A_fill36_5_7 {X : Nat × (Nat → Int32)} (P : Nat → Nat → Option Nat) : ∀ (n : Nat) (I : Nat → Nat → Int32) (x1 : Int32) (x2 : Int32) (x3 : Int32) (r : Int32 × (Nat → Nat → Int32)), l_A_fill36_5 7 n I x1 x2 x3 = some r → Wp X 16 5 [some (.ref 7), some (.int x1), some (.int x2), some (.int x3)] [] (zH I P) (fun r2 h2 => r2 = none ∧ h2 = zH r.2 P) := by
  intro n
  induction n with
  | zero => intro I x1 x2 x3 r hx; cases hx
  | succ n ih =>
    intro I x1 x2 x3 r hx
    rw [l_A_fill36_5] at hx
    refine wp_blk (pc' := 7) (L' := [some (.ref 7), some (.int x1), some (.int x2), some (.int x3)]) (st' := [.int x3, .int x2]) (h' := zH I P) 2 rfl ?_
    refine wp_ge (a := x2) (b := x3) (s1 := (20, [some (.ref 7), some (.int x1), some (.int x2), some (.int x3)], [], zH I P)) (s2 := (10, [some (.ref 7), some (.int x1), some (.int x2), some (.int x3)], [], zH I P)) rfl (fun c1 => ?_) (fun c1 => ?_)
    · rw [if_pos c1] at hx
      cases hx
      exact wp_end rfl rfl ⟨rfl, rfl⟩
    · rw [if_neg c1] at hx
      refine wp_blk (pc' := 13) (L' := [some (.ref 7), some (.int x1), some (.int x2), some (.int x3)]) (st' := [.int x1, .int x2, .ref 7]) (h' := zH I P) 3 rfl ?_
      obtain ⟨c2, hx⟩ := zite hx
      refine wp_chk (P := zinb x2 36 = true) (pc' := 14) (L' := [some (.ref 7), some (.int x1), some (.int x2), some (.int x3)]) (st' := []) (h' := zH (zui I 7 x2.toNatClampNeg x1) P) rfl c2 ?_
      refine wp_blk (pc' := 5) (L' := [some (.ref 7), some (.int x1), some (.int (x2 + 1)), some (.int x3)]) (st' := []) (h' := zH (zui I 7 x2.toNatClampNeg x1) P) 2 rfl ?_
      exact ih _ _ _ _ _ hx
set_option maxRecDepth 100000 in
theorem xp_A_fill36_7 {X : Nat × (Nat → Int32)} (I : Nat → Nat → Int32) (P : Nat → Nat → Option Nat) (v : Int32) (r : Int32 × (Nat → Nat → Int32)) (hx : x_A_fill36 7 I v = some r) : Wf X 16 [some (.ref 7), some (.int v), none, none] (zH I P) (none) (zH r.2 P) := by
  unfold Wf
  unfold x_A_fill36 at hx
  refine wp_blk (pc' := 5) (L' := [some (.ref 7), some (.int v), some (.int 0), some (.int (Int32.ofNat 36))]) (st' := []) (h' := zH I P) 5 rfl ?_
  exact lp_A_fill36_5_7 P _ _ _ _ _ _ hx
set_option maxRecDepth 100000 in
theorem lp_A_fill36_5_7_G {X : Nat × (Nat → Int32)} (P : Nat → Nat → Option Nat) : ∀ (n : Nat) (I : Nat → Nat → Int32) (x1 : Int32) (x2 : Int32) (x3 : Int32) (r : Int32 × (Nat → Nat → Int32)), l_A_fill36_5 7 n I x1 x2 x3 = some r → Wp X 16 5 [some (.ref 7), some (.int x1), some (.int x2), some (.int x3)] [] (zG I P) (fun r2 h2 => r2 = none ∧ h2 = zG r.2 P) := by
  intro n
  induction n with
  | zero => intro I x1 x2 x3 r hx; cases hx
  | succ n ih =>
    intro I x1 x2 x3 r hx
    rw [l_A_fill36_5] at hx
    refine wp_blk (pc' := 7) (L' := [some (.ref 7), some (.int x1), some (.int x2), some (.int x3)]) (st' := [.int x3, .int x2]) (h' := zG I P) 2 rfl ?_
    refine wp_ge (a := x2) (b := x3) (s1 := (20, [some (.ref 7), some (.int x1), some (.int x2), some (.int x3)], [], zG I P)) (s2 := (10, [some (.ref 7), some (.int x1), some (.int x2), some (.int x3)], [], zG I P)) rfl (fun c1 => ?_) (fun c1 => ?_)
    · rw [if_pos c1] at hx
      cases hx
      exact wp_end rfl rfl ⟨rfl, rfl⟩
    · rw [if_neg c1] at hx
      refine wp_blk (pc' := 13) (L' := [some (.ref 7), some (.int x1), some (.int x2), some (.int x3)]) (st' := [.int x1, .int x2, .ref 7]) (h' := zG I P) 3 rfl ?_
      obtain ⟨c2, hx⟩ := zite hx
      refine wp_chk (P := zinb x2 36 = true) (pc' := 14) (L' := [some (.ref 7), some (.int x1), some (.int x2), some (.int x3)]) (st' := []) (h' := zG (zui I 7 x2.toNatClampNeg x1) P) rfl c2 ?_
      refine wp_blk (pc' := 5) (L' := [some (.ref 7), some (.int x1), some (.int (x2 + 1)), some (.int x3)]) (st' := []) (h' := zG (zui I 7 x2.toNatClampNeg x1) P) 2 rfl ?_
      exact ih _ _ _ _ _ hx
set_option maxRecDepth 100000 in
theorem xp_A_fill36_7_G {X : Nat × (Nat → Int32)} (I : Nat → Nat → Int32) (P : Nat → Nat → Option Nat) (v : Int32) (r : Int32 × (Nat → Nat → Int32)) (hx : x_A_fill36 7 I v = some r) : Wf X 16 [some (.ref 7), some (.int v), none, none] (zG I P) (none) (zG r.2 P) := by
  unfold Wf
  unfold x_A_fill36 at hx
  refine wp_blk (pc' := 5) (L' := [some (.ref 7), some (.int v), some (.int 0), some (.int (Int32.ofNat 36))]) (st' := []) (h' := zG I P) 5 rfl ?_
  exact lp_A_fill36_5_7_G P _ _ _ _ _ _ hx
set_option maxRecDepth 100000 in
theorem lp_A_fill36_5_11 {X : Nat × (Nat → Int32)} (P : Nat → Nat → Option Nat) : ∀ (n : Nat) (I : Nat → Nat → Int32) (x1 : Int32) (x2 : Int32) (x3 : Int32) (r : Int32 × (Nat → Nat → Int32)), l_A_fill36_5 11 n I x1 x2 x3 = some r → Wp X 16 5 [some (.ref 11), some (.int x1), some (.int x2), some (.int x3)] [] (zH I P) (fun r2 h2 => r2 = none ∧ h2 = zH r.2 P) := by
  intro n
  induction n with
  | zero => intro I x1 x2 x3 r hx; cases hx
  | succ n ih =>
    intro I x1 x2 x3 r hx
    rw [l_A_fill36_5] at hx
    refine wp_blk (pc' := 7) (L' := [some (.ref 11), some (.int x1), some (.int x2), some (.int x3)]) (st' := [.int x3, .int x2]) (h' := zH I P) 2 rfl ?_
    refine wp_ge (a := x2) (b := x3) (s1 := (20, [some (.ref 11), some (.int x1), some (.int x2), some (.int x3)], [], zH I P)) (s2 := (10, [some (.ref 11), some (.int x1), some (.int x2), some (.int x3)], [], zH I P)) rfl (fun c1 => ?_) (fun c1 => ?_)
    · rw [if_pos c1] at hx
      cases hx
      exact wp_end rfl rfl ⟨rfl, rfl⟩
    · rw [if_neg c1] at hx
      refine wp_blk (pc' := 13) (L' := [some (.ref 11), some (.int x1), some (.int x2), some (.int x3)]) (st' := [.int x1, .int x2, .ref 11]) (h' := zH I P) 3 rfl ?_
      obtain ⟨c2, hx⟩ := zite hx
      refine wp_chk (P := zinb x2 36 = true) (pc' := 14) (L' := [some (.ref 11), some (.int x1), some (.int x2), some (.int x3)]) (st' := []) (h' := zH (zui I 11 x2.toNatClampNeg x1) P) rfl c2 ?_
      refine wp_blk (pc' := 5) (L' := [some (.ref 11), some (.int x1), some (.int (x2 + 1)), some (.int x3)]) (st' := []) (h' := zH (zui I 11 x2.toNatClampNeg x1) P) 2 rfl ?_
      exact ih _ _ _ _ _ hx
set_option maxRecDepth 100000 in
theorem xp_A_fill36_11 {X : Nat × (Nat → Int32)} (I : Nat → Nat → Int32) (P : Nat → Nat → Option Nat) (v : Int32) (r : Int32 × (Nat → Nat → Int32)) (hx : x_A_fill36 11 I v = some r) : Wf X 16 [some (.ref 11), some (.int v), none, none] (zH I P) (none) (zH r.2 P) := by
  unfold Wf
  unfold x_A_fill36 at hx
  refine wp_blk (pc' := 5) (L' := [some (.ref 11), some (.int v), some (.int 0), some (.int (Int32.ofNat 36))]) (st' := []) (h' := zH I P) 5 rfl ?_
  exact lp_A_fill36_5_11 P _ _ _ _ _ _ hx
set_option maxRecDepth 100000 in
theorem lp_A_fill36_5_11_G {X : Nat × (Nat → Int32)} (P : Nat → Nat → Option Nat) : ∀ (n : Nat) (I : Nat → Nat → Int32) (x1 : Int32) (x2 : Int32) (x3 : Int32) (r : Int32 × (Nat → Nat → Int32)), l_A_fill36_5 11 n I x1 x2 x3 = some r → Wp X 16 5 [some (.ref 11), some (.int x1), some (.int x2), some (.int x3)] [] (zG I P) (fun r2 h2 => r2 = none ∧ h2 = zG r.2 P) := by
  intro n
  induction n with
  | zero => intro I x1 x2 x3 r hx; cases hx
  | succ n ih =>
    intro I x1 x2 x3 r hx
    rw [l_A_fill36_5] at hx
    refine wp_blk (pc' := 7) (L' := [some (.ref 11), some (.int x1), some (.int x2), some (.int x3)]) (st' := [.int x3, .int x2]) (h' := zG I P) 2 rfl ?_
    refine wp_ge (a := x2) (b := x3) (s1 := (20, [some (.ref 11), some (.int x1), some (.int x2), some (.int x3)], [], zG I P)) (s2 := (10, [some (.ref 11), some (.int x1), some (.int x2), some (.int x3)], [], zG I P)) rfl (fun c1 => ?_) (fun c1 => ?_)
    · rw [if_pos c1] at hx
      cases hx
      exact wp_end rfl rfl ⟨rfl, rfl⟩
    · rw [if_neg c1] at hx
      refine wp_blk (pc' := 13) (L' := [some (.ref 11), some (.int x1), some (.int x2), some (.int x3)]) (st' := [.int x1, .int x2, .ref 11]) (h' := zG I P) 3 rfl ?_
      obtain ⟨c2, hx⟩ := zite hx
      refine wp_chk (P := zinb x2 36 = true) (pc' := 14) (L' := [some (.ref 11), some (.int x1), some (.int x2), some (.int x3)]) (st' := []) (h' := zG (zui I 11 x2.toNatClampNeg x1) P) rfl c2 ?_
      refine wp_blk (pc' := 5) (L' := [some (.ref 11), some (.int x1), some (.int (x2 + 1)), some (.int x3)]) (st' := []) (h' := zG (zui I 11 x2.toNatClampNeg x1) P) 2 rfl ?_
      exact ih _ _ _ _ _ hx
set_option maxRecDepth 100000 in
theorem xp_A_fill36_11_G {X : Nat × (Nat → Int32)} (I : Nat → Nat → Int32) (P : Nat → Nat → Option Nat) (v : Int32) (r : Int32 × (Nat → Nat → Int32)) (hx : x_A_fill36 11 I v = some r) : Wf X 16 [some (.ref 11), some (.int v), none, none] (zG I P) (none) (zG r.2 P) := by
  unfold Wf
  unfold x_A_fill36 at hx
  refine wp_blk (pc' := 5) (L' := [some (.ref 11), some (.int v), some (.int 0), some (.int (Int32.ofNat 36))]) (st' := []) (h' := zG I P) 5 rfl ?_
  exact lp_A_fill36_5_11_G P _ _ _ _ _ _ hx
def l_A_fill6_5 (a : Nat) : Nat → (Nat → Nat → Int32) → Int32 → Int32 → Int32 → Option (Int32 × (Nat → Nat → Int32))
  | 0, _, _, _, _ => none
  | n + 1, I, x1, x2, x3 => if x3 ≤ x2 then (some (0, I)) else (if zinb x2 6 = true then (l_A_fill6_5 a n (zui I a x2.toNatClampNeg x1) x1 (x2 + 1) x3) else none)
def x_A_fill6 (a : Nat) (I : Nat → Nat → Int32) (v : Int32) : Option (Int32 × (Nat → Nat → Int32)) := l_A_fill6_5 a 1000 I v 0 (Int32.ofNat 6)
set_option maxRecDepth 100000 in
theorem lp_A_fill6_5_14 {X : Nat × (Nat → Int32)} (P : Nat → Nat → Option Nat) : ∀ (n : Nat) (I : Nat → Nat → Int32) (x1 : Int32) (x2 : Int32) (x3 : Int32) (r : Int32 × (Nat → Nat → Int32)), l_A_fill6_5 14 n I x1 x2 x3 = some r → Wp X 16 5 [some (.ref 14), some (.int x1), some (.int x2), some (.int x3)] [] (zH I P) (fun r2 h2 => r2 = none ∧ h2 = zH r.2 P) := by
  intro n
  induction n with
  | zero => intro I x1 x2 x3 r hx; cases hx
  | succ n ih =>
    intro I x1 x2 x3 r hx
    rw [l_A_fill6_5] at hx
    refine wp_blk (pc' := 7) (L' := [some (.ref 14), some (.int x1), some (.int x2), some (.int x3)]) (st' := [.int x3, .int x2]) (h' := zH I P) 2 rfl ?_
    refine wp_ge (a := x2) (b := x3) (s1 := (20, [some (.ref 14), some (.int x1), some (.int x2), some (.int x3)], [], zH I P)) (s2 := (10, [some (.ref 14), some (.int x1), some (.int x2), some (.int x3)], [], zH I P)) rfl (fun c1 => ?_) (fun c1 => ?_)
    · rw [if_pos c1] at hx
      cases hx
      exact wp_end rfl rfl ⟨rfl, rfl⟩
    · rw [if_neg c1] at hx
      refine wp_blk (pc' := 13) (L' := [some (.ref 14), some (.int x1), some (.int x2), some (.int x3)]) (st' := [.int x1, .int x2, .ref 14]) (h' := zH I P) 3 rfl ?_
      obtain ⟨c2, hx⟩ := zite hx
      refine wp_chk (P := zinb x2 6 = true) (pc' := 14) (L' := [some (.ref 14), some (.int x1), some (.int x2), some (.int x3)]) (st' := []) (h' := zH (zui I 14 x2.toNatClampNeg x1) P) rfl c2 ?_
      refine wp_blk (pc' := 5) (L' := [some (.ref 14), some (.int x1), some (.int (x2 + 1)), some (.int x3)]) (st' := []) (h' := zH (zui I 14 x2.toNatClampNeg x1) P) 2 rfl ?_
      exact ih _ _ _ _ _ hx
set_option maxRecDepth 100000 in
theorem xp_A_fill6_14 {X : Nat × (Nat → Int32)} (I : Nat → Nat → Int32) (P : Nat → Nat → Option Nat) (v : Int32) (r : Int32 × (Nat → Nat → Int32)) (hx : x_A_fill6 14 I v = some r) : Wf X 16 [some (.ref 14), some (.int v), none, none] (zH I P) (none) (zH r.2 P) := by
  unfold Wf
  unfold x_A_fill6 at hx
  refine wp_blk (pc' := 5) (L' := [some (.ref 14), some (.int v), some (.int 0), some (.int (Int32.ofNat 6))]) (st' := []) (h' := zH I P) 5 rfl ?_
  exact lp_A_fill6_5_14 P _ _ _ _ _ _ hx
def x_M_clear (m mk ml mt : Nat) (I : Nat → Nat → Int32) : Option (Int32 × (Nat → Nat → Int32)) := (x_A_fill36 mt (zui (zui (zui (zui I m 3 0) m 4 0) m 5 4) m 6 0) 3).bind (fun q1 => some (0, q1.2))
set_option maxRecDepth 100000 in
theorem xp_M_clear_4 {X : Nat × (Nat → Int32)} (I : Nat → Nat → Int32) (P : Nat → Nat → Option Nat) (r : Int32 × (Nat → Nat → Int32)) (hx : x_M_clear 4 5 6 7 I = some r) : Wf X 15 [some (.ref 4)] (zH I P) (none) (zH r.2 P) := by
  unfold Wf
  unfold x_M_clear at hx
  refine wp_blk (pc' := 25) (L' := [some (.ref 4)]) (st' := [.int 3, .ref 7]) (h' := zH (zui (zui (zui (zui I 4 3 0) 4 4 0) 4 5 4) 4 6 0) P) 15 rfl ?_
  obtain ⟨y1, hy1, hx⟩ := zbind hx
  refine wp_callf (d := 16) (as := [.ref 7, .int 3]) (rest := []) (Ld := [some (.ref 7), some (.int 3), none, none]) (pc' := 28) (st' := []) (r := none) (h1 := zH y1.2 P) rfl rfl rfl rfl rfl rfl rfl rfl rfl (xp_A_fill36_7 _ _ _ _ hy1) ?_
  cases hx
  exact wp_end rfl rfl ⟨rfl, rfl⟩
set_option maxRecDepth 100000 in
theorem xp_M_clear_4_G {X : Nat × (Nat → Int32)} (I : Nat → Nat → Int32) (P : Nat → Nat → Option Nat) (r : Int32 × (Nat → Nat → Int32)) (hx : x_M_clear 4 5 6 7 I = some r) : Wf X 15 [some (.ref 4)] (zG I P) (none) (zG r.2 P) := by
  unfold Wf
  unfold x_M_clear at hx
  refine wp_blk (pc' := 25) (L' := [some (.ref 4)]) (st' := [.int 3, .ref 7]) (h' := zG (zui (zui (zui (zui I 4 3 0) 4 4 0) 4 5 4) 4 6 0) P) 15 rfl ?_
  obtain ⟨y1, hy1, hx⟩ := zbind hx
  refine wp_callf (d := 16) (as := [.ref 7, .int 3]) (rest := []) (Ld := [some (.ref 7), some (.int 3), none, none]) (pc' := 28) (st' := []) (r := none) (h1 := zG y1.2 P) rfl rfl rfl rfl rfl rfl rfl rfl rfl (xp_A_fill36_7_G _ _ _ _ hy1) ?_
  cases hx
  exact wp_end rfl rfl ⟨rfl, rfl⟩
set_option maxRecDepth 100000 in
theorem xp_M_clear_8 {X : Nat × (Nat → Int32)} (I : Nat → Nat → Int32) (P : Nat → Nat → Option Nat) (r : Int32 × (Nat → Nat → Int32)) (hx : x_M_clear 8 9 10 11 I = some r) : Wf X 15 [some (.ref 8)] (zH I P) (none) (zH r.2 P) := by
  unfold Wf
  unfold x_M_clear at hx
  refine wp_blk (pc' := 25) (L' := [some (.ref 8)]) (st' := [.int 3, .ref 11]) (h' := zH (zui (zui (zui (zui I 8 3 0) 8 4 0) 8 5 4) 8 6 0) P) 15 rfl ?_
  obtain ⟨y1, hy1, hx⟩ := zbind hx
  refine wp_callf (d := 16) (as := [.ref 11, .int 3]) (rest := []) (Ld := [some (.ref 11), some (.int 3), none, none]) (pc' := 28) (st' := []) (r := none) (h1 := zH y1.2 P) rfl rfl rfl rfl rfl rfl rfl rfl rfl (xp_A_fill36_11 _ _ _ _ hy1) ?_
  cases hx
  exact wp_end rfl rfl ⟨rfl, rfl⟩
set_option maxRecDepth 100000 in
theorem xp_M_clear_8_G {X : Nat × (Nat → Int32)} (I : Nat → Nat → Int32) (P : Nat → Nat → Option Nat) (r : Int32 × (Nat → Nat → Int32)) (hx : x_M_clear 8 9 10 11 I = some r) : Wf X 15 [some (.ref 8)] (zG I P) (none) (zG r.2 P) := by
  unfold Wf
  unfold x_M_clear at hx
  refine wp_blk (pc' := 25) (L' := [some (.ref 8)]) (st' := [.int 3, .ref 11]) (h' := zG (zui (zui (zui (zui I 8 3 0) 8 4 0) 8 5 4) 8 6 0) P) 15 rfl ?_
  obtain ⟨y1, hy1, hx⟩ := zbind hx
  refine wp_callf (d := 16) (as := [.ref 11, .int 3]) (rest := []) (Ld := [some (.ref 11), some (.int 3), none, none]) (pc' := 28) (st' := []) (r := none) (h1 := zG y1.2 P) rfl rfl rfl rfl rfl rfl rfl rfl rfl (xp_A_fill36_11_G _ _ _ _ hy1) ?_
  cases hx
  exact wp_end rfl rfl ⟨rfl, rfl⟩
def f_M_addCustomer (m mk ml mt : Nat) (I : Nat → Nat → Int32) (k : Int32) : Int32 := if I m 3 < 0 then 0 else (if 6 ≤ I m 3 then 0 else (if k < 0 then 0 else (if k ≤ 4 then 1 else 0)))
theorem fb_M_addCustomer (m mk ml mt : Nat) (I : Nat → Nat → Int32) (k : Int32) : f_M_addCustomer m mk ml mt I k = 1 ∨ f_M_addCustomer m mk ml mt I k = 0 := by
  unfold f_M_addCustomer
  (repeat' split) <;> first | exact Or.inl rfl | exact Or.inr rfl
def g_M_addCustomer (m mk ml mt : Nat) (I : Nat → Nat → Int32) (k : Int32) : Nat → Nat → Int32 := if I m 3 < 0 then I else (if 6 ≤ I m 3 then I else (if k < 0 then I else (if k ≤ 4 then (zui (zui (zui I mk ((I m 3).toNatClampNeg) k) ml ((I m 3).toNatClampNeg) (I m 3)) m 3 ((I m 3) + 1)) else I)))
set_option maxRecDepth 100000 in
theorem sp_M_addCustomer_4 {X : Nat × (Nat → Int32)} (I : Nat → Nat → Int32) (P : Nat → Nat → Option Nat) (k : Int32) : Wf X 22 [some (.ref 4), some (.int k)] (zH I P) (some (.int (f_M_addCustomer 4 5 6 7 I k))) (zH (g_M_addCustomer 4 5 6 7 I k) P) := by
  unfold Wf
  refine wp_blk (pc' := 4) (L' := [some (.ref 4), some (.int k)]) (st' := [.int (I 4 3)]) (h' := zH I P) 2 rfl ?_
  refine wp_lt (a := I 4 3) (b := 0) (s1 := (25, [some (.ref 4), some (.int k)], [], zH I P)) (s2 := (7, [some (.ref 4), some (.int k)], [], zH I P)) rfl (fun c1 => ?_) (fun c1 => ?_)
  · refine wp_blk (pc' := 26) (L' := [some (.ref 4), some (.int k)]) (st' := [.int 0]) (h' := zH I P) 1 rfl ?_
    exact wp_end rfl rfl ⟨by rw [f_M_addCustomer, if_pos c1], by rw [g_M_addCustomer, if_pos c1]⟩
  · refine wp_blk (pc' := 13) (L' := [some (.ref 4), some (.int k)]) (st' := [.int 6, .int (I 4 3)]) (h' := zH I P) 3 rfl ?_
    refine wp_ge (a := I 4 3) (b := 6) (s1 := (25, [some (.ref 4), some (.int k)], [], zH I P)) (s2 := (16, [some (.ref 4), some (.int k)], [], zH I P)) rfl (fun c2 => ?_) (fun c2 => ?_)
    · refine wp_blk (pc' := 26) (L' := [some (.ref 4), some (.int k)]) (st' := [.int 0]) (h' := zH I P) 1 rfl ?_
      exact wp_end rfl rfl ⟨by rw [f_M_addCustomer, if_neg c1, if_pos c2], by rw [g_M_addCustomer, if_neg c1, if_pos c2]⟩
    · refine wp_blk (pc' := 17) (L' := [some (.ref 4), some (.int k)]) (st' := [.int k]) (h' := zH I P) 1 rfl ?_
      refine wp_lt (a := k) (b := 0) (s1 := (25, [some (.ref 4), some (.int k)], [], zH I P)) (s2 := (20, [some (.ref 4), some (.int k)], [], zH I P)) rfl (fun c3 => ?_) (fun c3 => ?_)
      · refine wp_blk (pc' := 26) (L' := [some (.ref 4), some (.int k)]) (st' := [.int 0]) (h' := zH I P) 1 rfl ?_
        exact wp_end rfl rfl ⟨by rw [f_M_addCustomer, if_neg c1, if_neg c2, if_pos c3], by rw [g_M_addCustomer, if_neg c1, if_neg c2, if_pos c3]⟩
      · refine wp_blk (pc' := 22) (L' := [some (.ref 4), some (.int k)]) (st' := [.int 4, .int k]) (h' := zH I P) 2 rfl ?_
        refine wp_le (a := k) (b := 4) (s1 := (27, [some (.ref 4), some (.int k)], [], zH I P)) (s2 := (25, [some (.ref 4), some (.int k)], [], zH I P)) rfl (fun c4 => ?_) (fun c4 => ?_)
        · refine wp_blk (pc' := 36) (L' := [some (.ref 4), some (.int k)]) (st' := [.int k, .int (I 4 3), .ref 5]) (h' := zH I P) 5 rfl ?_
          refine wp_chk (P := zinb (I 4 3) 6 = true) (pc' := 37) (L' := [some (.ref 4), some (.int k)]) (st' := []) (h' := zH (zui I 5 ((I 4 3).toNatClampNeg) k) P) rfl (by exact zinb_a (by assumption) (by assumption)) ?_
          refine wp_blk (pc' := 49) (L' := [some (.ref 4), some (.int k)]) (st' := [.int (I 4 3), .int (I 4 3), .ref 6]) (h' := zH (zui I 5 ((I 4 3).toNatClampNeg) k) P) 6 rfl ?_
          refine wp_chk (P := zinb (I 4 3) 6 = true) (pc' := 50) (L' := [some (.ref 4), some (.int k)]) (st' := []) (h' := zH (zui (zui I 5 ((I 4 3).toNatClampNeg) k) 6 ((I 4 3).toNatClampNeg) (I 4 3)) P) rfl (by exact zinb_a (by assumption) (by assumption)) ?_
          refine wp_blk (pc' := 61) (L' := [some (.ref 4), some (.int k)]) (st' := [.int 1]) (h' := zH (zui (zui (zui I 5 ((I 4 3).toNatClampNeg) k) 6 ((I 4 3).toNatClampNeg) (I 4 3)) 4 3 ((I 4 3) + 1)) P) 7 rfl ?_
          exact wp_end rfl rfl ⟨by rw [f_M_addCustomer, if_neg c1, if_neg c2, if_neg c3, if_pos c4], by rw [g_M_addCustomer, if_neg c1, if_neg c2, if_neg c3, if_pos c4]⟩
        · refine wp_blk (pc' := 26) (L' := [some (.ref 4), some (.int k)]) (st' := [.int 0]) (h' := zH I P) 1 rfl ?_
          exact wp_end rfl rfl ⟨by rw [f_M_addCustomer, if_neg c1, if_neg c2, if_neg c3, if_neg c4], by rw [g_M_addCustomer, if_neg c1, if_neg c2, if_neg c3, if_neg c4]⟩
set_option maxRecDepth 100000 in
theorem sp_M_addCustomer_4_G {X : Nat × (Nat → Int32)} (I : Nat → Nat → Int32) (P : Nat → Nat → Option Nat) (k : Int32) : Wf X 22 [some (.ref 4), some (.int k)] (zG I P) (some (.int (f_M_addCustomer 4 5 6 7 I k))) (zG (g_M_addCustomer 4 5 6 7 I k) P) := by
  unfold Wf
  refine wp_blk (pc' := 4) (L' := [some (.ref 4), some (.int k)]) (st' := [.int (I 4 3)]) (h' := zG I P) 2 rfl ?_
  refine wp_lt (a := I 4 3) (b := 0) (s1 := (25, [some (.ref 4), some (.int k)], [], zG I P)) (s2 := (7, [some (.ref 4), some (.int k)], [], zG I P)) rfl (fun c1 => ?_) (fun c1 => ?_)
  · refine wp_blk (pc' := 26) (L' := [some (.ref 4), some (.int k)]) (st' := [.int 0]) (h' := zG I P) 1 rfl ?_
    exact wp_end rfl rfl ⟨by rw [f_M_addCustomer, if_pos c1], by rw [g_M_addCustomer, if_pos c1]⟩
  · refine wp_blk (pc' := 13) (L' := [some (.ref 4), some (.int k)]) (st' := [.int 6, .int (I 4 3)]) (h' := zG I P) 3 rfl ?_
    refine wp_ge (a := I 4 3) (b := 6) (s1 := (25, [some (.ref 4), some (.int k)], [], zG I P)) (s2 := (16, [some (.ref 4), some (.int k)], [], zG I P)) rfl (fun c2 => ?_) (fun c2 => ?_)
    · refine wp_blk (pc' := 26) (L' := [some (.ref 4), some (.int k)]) (st' := [.int 0]) (h' := zG I P) 1 rfl ?_
      exact wp_end rfl rfl ⟨by rw [f_M_addCustomer, if_neg c1, if_pos c2], by rw [g_M_addCustomer, if_neg c1, if_pos c2]⟩
    · refine wp_blk (pc' := 17) (L' := [some (.ref 4), some (.int k)]) (st' := [.int k]) (h' := zG I P) 1 rfl ?_
      refine wp_lt (a := k) (b := 0) (s1 := (25, [some (.ref 4), some (.int k)], [], zG I P)) (s2 := (20, [some (.ref 4), some (.int k)], [], zG I P)) rfl (fun c3 => ?_) (fun c3 => ?_)
      · refine wp_blk (pc' := 26) (L' := [some (.ref 4), some (.int k)]) (st' := [.int 0]) (h' := zG I P) 1 rfl ?_
        exact wp_end rfl rfl ⟨by rw [f_M_addCustomer, if_neg c1, if_neg c2, if_pos c3], by rw [g_M_addCustomer, if_neg c1, if_neg c2, if_pos c3]⟩
      · refine wp_blk (pc' := 22) (L' := [some (.ref 4), some (.int k)]) (st' := [.int 4, .int k]) (h' := zG I P) 2 rfl ?_
        refine wp_le (a := k) (b := 4) (s1 := (27, [some (.ref 4), some (.int k)], [], zG I P)) (s2 := (25, [some (.ref 4), some (.int k)], [], zG I P)) rfl (fun c4 => ?_) (fun c4 => ?_)
        · refine wp_blk (pc' := 36) (L' := [some (.ref 4), some (.int k)]) (st' := [.int k, .int (I 4 3), .ref 5]) (h' := zG I P) 5 rfl ?_
          refine wp_chk (P := zinb (I 4 3) 6 = true) (pc' := 37) (L' := [some (.ref 4), some (.int k)]) (st' := []) (h' := zG (zui I 5 ((I 4 3).toNatClampNeg) k) P) rfl (by exact zinb_a (by assumption) (by assumption)) ?_
          refine wp_blk (pc' := 49) (L' := [some (.ref 4), some (.int k)]) (st' := [.int (I 4 3), .int (I 4 3), .ref 6]) (h' := zG (zui I 5 ((I 4 3).toNatClampNeg) k) P) 6 rfl ?_
          refine wp_chk (P := zinb (I 4 3) 6 = true) (pc' := 50) (L' := [some (.ref 4), some (.int k)]) (st' := []) (h' := zG (zui (zui I 5 ((I 4 3).toNatClampNeg) k) 6 ((I 4 3).toNatClampNeg) (I 4 3)) P) rfl (by exact zinb_a (by assumption) (by assumption)) ?_
          refine wp_blk (pc' := 61) (L' := [some (.ref 4), some (.int k)]) (st' := [.int 1]) (h' := zG (zui (zui (zui I 5 ((I 4 3).toNatClampNeg) k) 6 ((I 4 3).toNatClampNeg) (I 4 3)) 4 3 ((I 4 3) + 1)) P) 7 rfl ?_
          exact wp_end rfl rfl ⟨by rw [f_M_addCustomer, if_neg c1, if_neg c2, if_neg c3, if_pos c4], by rw [g_M_addCustomer, if_neg c1, if_neg c2, if_neg c3, if_pos c4]⟩
        · refine wp_blk (pc' := 26) (L' := [some (.ref 4), some (.int k)]) (st' := [.int 0]) (h' := zG I P) 1 rfl ?_
          exact wp_end rfl rfl ⟨by rw [f_M_addCustomer, if_neg c1, if_neg c2, if_neg c3, if_neg c4], by rw [g_M_addCustomer, if_neg c1, if_neg c2, if_neg c3, if_neg c4]⟩
set_option maxRecDepth 100000 in
theorem sp_M_addCustomer_8 {X : Nat × (Nat → Int32)} (I : Nat → Nat → Int32) (P : Nat → Nat → Option Nat) (k : Int32) : Wf X 22 [some (.ref 8), some (.int k)] (zH I P) (some (.int (f_M_addCustomer 8 9 10 11 I k))) (zH (g_M_addCustomer 8 9 10 11 I k) P) := by
  unfold Wf
  refine wp_blk (pc' := 4) (L' := [some (.ref 8), some (.int k)]) (st' := [.int (I 8 3)]) (h' := zH I P) 2 rfl ?_
  refine wp_lt (a := I 8 3) (b := 0) (s1 := (25, [some (.ref 8), some (.int k)], [], zH I P)) (s2 := (7, [some (.ref 8), some (.int k)], [], zH I P)) rfl (fun c1 => ?_) (fun c1 => ?_)
  · refine wp_blk (pc' := 26) (L' := [some (.ref 8), some (.int k)]) (st' := [.int 0]) (h' := zH I P) 1 rfl ?_
    exact wp_end rfl rfl ⟨by rw [f_M_addCustomer, if_pos c1], by rw [g_M_addCustomer, if_pos c1]⟩
  · refine wp_blk (pc' := 13) (L' := [some (.ref 8), some (.int k)]) (st' := [.int 6, .int (I 8 3)]) (h' := zH I P) 3 rfl ?_
    refine wp_ge (a := I 8 3) (b := 6) (s1 := (25, [some (.ref 8), some (.int k)], [], zH I P)) (s2 := (16, [some (.ref 8), some (.int k)], [], zH I P)) rfl (fun c2 => ?_) (fun c2 => ?_)
    · refine wp_blk (pc' := 26) (L' := [some (.ref 8), some (.int k)]) (st' := [.int 0]) (h' := zH I P) 1 rfl ?_
      exact wp_end rfl rfl ⟨by rw [f_M_addCustomer, if_neg c1, if_pos c2], by rw [g_M_addCustomer, if_neg c1, if_pos c2]⟩
    · refine wp_blk (pc' := 17) (L' := [some (.ref 8), some (.int k)]) (st' := [.int k]) (h' := zH I P) 1 rfl ?_
      refine wp_lt (a := k) (b := 0) (s1 := (25, [some (.ref 8), some (.int k)], [], zH I P)) (s2 := (20, [some (.ref 8), some (.int k)], [], zH I P)) rfl (fun c3 => ?_) (fun c3 => ?_)
      · refine wp_blk (pc' := 26) (L' := [some (.ref 8), some (.int k)]) (st' := [.int 0]) (h' := zH I P) 1 rfl ?_
        exact wp_end rfl rfl ⟨by rw [f_M_addCustomer, if_neg c1, if_neg c2, if_pos c3], by rw [g_M_addCustomer, if_neg c1, if_neg c2, if_pos c3]⟩
      · refine wp_blk (pc' := 22) (L' := [some (.ref 8), some (.int k)]) (st' := [.int 4, .int k]) (h' := zH I P) 2 rfl ?_
        refine wp_le (a := k) (b := 4) (s1 := (27, [some (.ref 8), some (.int k)], [], zH I P)) (s2 := (25, [some (.ref 8), some (.int k)], [], zH I P)) rfl (fun c4 => ?_) (fun c4 => ?_)
        · refine wp_blk (pc' := 36) (L' := [some (.ref 8), some (.int k)]) (st' := [.int k, .int (I 8 3), .ref 9]) (h' := zH I P) 5 rfl ?_
          refine wp_chk (P := zinb (I 8 3) 6 = true) (pc' := 37) (L' := [some (.ref 8), some (.int k)]) (st' := []) (h' := zH (zui I 9 ((I 8 3).toNatClampNeg) k) P) rfl (by exact zinb_a (by assumption) (by assumption)) ?_
          refine wp_blk (pc' := 49) (L' := [some (.ref 8), some (.int k)]) (st' := [.int (I 8 3), .int (I 8 3), .ref 10]) (h' := zH (zui I 9 ((I 8 3).toNatClampNeg) k) P) 6 rfl ?_
          refine wp_chk (P := zinb (I 8 3) 6 = true) (pc' := 50) (L' := [some (.ref 8), some (.int k)]) (st' := []) (h' := zH (zui (zui I 9 ((I 8 3).toNatClampNeg) k) 10 ((I 8 3).toNatClampNeg) (I 8 3)) P) rfl (by exact zinb_a (by assumption) (by assumption)) ?_
          refine wp_blk (pc' := 61) (L' := [some (.ref 8), some (.int k)]) (st' := [.int 1]) (h' := zH (zui (zui (zui I 9 ((I 8 3).toNatClampNeg) k) 10 ((I 8 3).toNatClampNeg) (I 8 3)) 8 3 ((I 8 3) + 1)) P) 7 rfl ?_
          exact wp_end rfl rfl ⟨by rw [f_M_addCustomer, if_neg c1, if_neg c2, if_neg c3, if_pos c4], by rw [g_M_addCustomer, if_neg c1, if_neg c2, if_neg c3, if_pos c4]⟩
        · refine wp_blk (pc' := 26) (L' := [some (.ref 8), some (.int k)]) (st' := [.int 0]) (h' := zH I P) 1 rfl ?_
          exact wp_end rfl rfl ⟨by rw [f_M_addCustomer, if_neg c1, if_neg c2, if_neg c3, if_neg c4], by rw [g_M_addCustomer, if_neg c1, if_neg c2, if_neg c3, if_neg c4]⟩
set_option maxRecDepth 100000 in
theorem sp_M_addCustomer_8_G {X : Nat × (Nat → Int32)} (I : Nat → Nat → Int32) (P : Nat → Nat → Option Nat) (k : Int32) : Wf X 22 [some (.ref 8), some (.int k)] (zG I P) (some (.int (f_M_addCustomer 8 9 10 11 I k))) (zG (g_M_addCustomer 8 9 10 11 I k) P) := by
  unfold Wf
  refine wp_blk (pc' := 4) (L' := [some (.ref 8), some (.int k)]) (st' := [.int (I 8 3)]) (h' := zG I P) 2 rfl ?_
  refine wp_lt (a := I 8 3) (b := 0) (s1 := (25, [some (.ref 8), some (.int k)], [], zG I P)) (s2 := (7, [some (.ref 8), some (.int k)], [], zG I P)) rfl (fun c1 => ?_) (fun c1 => ?_)
  · refine wp_blk (pc' := 26) (L' := [some (.ref 8), some (.int k)]) (st' := [.int 0]) (h' := zG I P) 1 rfl ?_
    exact wp_end rfl rfl ⟨by rw [f_M_addCustomer, if_pos c1], by rw [g_M_addCustomer, if_pos c1]⟩
  · refine wp_blk (pc' := 13) (L' := [some (.ref 8), some (.int k)]) (st' := [.int 6, .int (I 8 3)]) (h' := zG I P) 3 rfl ?_
    refine wp_ge (a := I 8 3) (b := 6) (s1 := (25, [some (.ref 8), some (.int k)], [], zG I P)) (s2 := (16, [some (.ref 8), some (.int k)], [], zG I P)) rfl (fun c2 => ?_) (fun c2 => ?_)
    · refine wp_blk (pc' := 26) (L' := [some (.ref 8), some (.int k)]) (st' := [.int 0]) (h' := zG I P) 1 rfl ?_
      exact wp_end rfl rfl ⟨by rw [f_M_addCustomer, if_neg c1, if_pos c2], by rw [g_M_addCustomer, if_neg c1, if_pos c2]⟩
    · refine wp_blk (pc' := 17) (L' := [some (.ref 8), some (.int k)]) (st' := [.int k]) (h' := zG I P) 1 rfl ?_
      refine wp_lt (a := k) (b := 0) (s1 := (25, [some (.ref 8), some (.int k)], [], zG I P)) (s2 := (20, [some (.ref 8), some (.int k)], [], zG I P)) rfl (fun c3 => ?_) (fun c3 => ?_)
      · refine wp_blk (pc' := 26) (L' := [some (.ref 8), some (.int k)]) (st' := [.int 0]) (h' := zG I P) 1 rfl ?_
        exact wp_end rfl rfl ⟨by rw [f_M_addCustomer, if_neg c1, if_neg c2, if_pos c3], by rw [g_M_addCustomer, if_neg c1, if_neg c2, if_pos c3]⟩
      · refine wp_blk (pc' := 22) (L' := [some (.ref 8), some (.int k)]) (st' := [.int 4, .int k]) (h' := zG I P) 2 rfl ?_
        refine wp_le (a := k) (b := 4) (s1 := (27, [some (.ref 8), some (.int k)], [], zG I P)) (s2 := (25, [some (.ref 8), some (.int k)], [], zG I P)) rfl (fun c4 => ?_) (fun c4 => ?_)
        · refine wp_blk (pc' := 36) (L' := [some (.ref 8), some (.int k)]) (st' := [.int k, .int (I 8 3), .ref 9]) (h' := zG I P) 5 rfl ?_
          refine wp_chk (P := zinb (I 8 3) 6 = true) (pc' := 37) (L' := [some (.ref 8), some (.int k)]) (st' := []) (h' := zG (zui I 9 ((I 8 3).toNatClampNeg) k) P) rfl (by exact zinb_a (by assumption) (by assumption)) ?_
          refine wp_blk (pc' := 49) (L' := [some (.ref 8), some (.int k)]) (st' := [.int (I 8 3), .int (I 8 3), .ref 10]) (h' := zG (zui I 9 ((I 8 3).toNatClampNeg) k) P) 6 rfl ?_
          refine wp_chk (P := zinb (I 8 3) 6 = true) (pc' := 50) (L' := [some (.ref 8), some (.int k)]) (st' := []) (h' := zG (zui (zui I 9 ((I 8 3).toNatClampNeg) k) 10 ((I 8 3).toNatClampNeg) (I 8 3)) P) rfl (by exact zinb_a (by assumption) (by assumption)) ?_
          refine wp_blk (pc' := 61) (L' := [some (.ref 8), some (.int k)]) (st' := [.int 1]) (h' := zG (zui (zui (zui I 9 ((I 8 3).toNatClampNeg) k) 10 ((I 8 3).toNatClampNeg) (I 8 3)) 8 3 ((I 8 3) + 1)) P) 7 rfl ?_
          exact wp_end rfl rfl ⟨by rw [f_M_addCustomer, if_neg c1, if_neg c2, if_neg c3, if_pos c4], by rw [g_M_addCustomer, if_neg c1, if_neg c2, if_neg c3, if_pos c4]⟩
        · refine wp_blk (pc' := 26) (L' := [some (.ref 8), some (.int k)]) (st' := [.int 0]) (h' := zG I P) 1 rfl ?_
          exact wp_end rfl rfl ⟨by rw [f_M_addCustomer, if_neg c1, if_neg c2, if_neg c3, if_neg c4], by rw [g_M_addCustomer, if_neg c1, if_neg c2, if_neg c3, if_neg c4]⟩
def f_M_tellWord (m mk ml mt : Nat) (I : Nat → Nat → Int32) (i j v : Int32) : Int32 := if f_M_has m mk ml mt I i = 0 then 0 else (if f_M_has m mk ml mt I j = 0 then 0 else (if i = j then 0 else (if f_G_isOutside I v 6 = 0 then 1 else 0)))
theorem fb_M_tellWord (m mk ml mt : Nat) (I : Nat → Nat → Int32) (i j v : Int32) : f_M_tellWord m mk ml mt I i j v = 1 ∨ f_M_tellWord m mk ml mt I i j v = 0 := by
  unfold f_M_tellWord
  (repeat' split) <;> first | exact Or.inl rfl | exact Or.inr rfl
def g_M_tellWord (m mk ml mt : Nat) (I : Nat → Nat → Int32) (i j v : Int32) : Nat → Nat → Int32 := if f_M_has m mk ml mt I i = 0 then I else (if f_M_has m mk ml mt I j = 0 then I else (if i = j then I else (if f_G_isOutside I v 6 = 0 then (g_M_setWord m mk ml mt I i j v) else I)))
set_option maxRecDepth 100000 in
theorem sp_M_tellWord_4 {X : Nat × (Nat → Int32)} (I : Nat → Nat → Int32) (P : Nat → Nat → Option Nat) (i j v : Int32) : Wf X 23 [some (.ref 4), some (.int i), some (.int j), some (.int v)] (zH I P) (some (.int (f_M_tellWord 4 5 6 7 I i j v))) (zH (g_M_tellWord 4 5 6 7 I i j v) P) := by
  unfold Wf
  refine wp_blk (pc' := 2) (L' := [some (.ref 4), some (.int i), some (.int j), some (.int v)]) (st' := [.int i, .ref 4]) (h' := zH I P) 2 rfl ?_
  refine wp_callf (d := 24) (as := [.ref 4, .int i]) (rest := []) (Ld := [some (.ref 4), some (.int i)]) (pc' := 5) (st' := [.int (f_M_has 4 5 6 7 I i)]) (r := some (.int (f_M_has 4 5 6 7 I i))) (h1 := zH I P) rfl rfl rfl rfl rfl rfl rfl rfl rfl (sp_M_has_4 I P i) ?_
  refine wp_eq (a := f_M_has 4 5 6 7 I i) (b := 0) (s1 := (30, [some (.ref 4), some (.int i), some (.int j), some (.int v)], [], zH I P)) (s2 := (8, [some (.ref 4), some (.int i), some (.int j), some (.int v)], [], zH I P)) rfl (fun c1 => ?_) (fun c1 => ?_)
  · refine wp_blk (pc' := 31) (L' := [some (.ref 4), some (.int i), some (.int j), some (.int v)]) (st' := [.int 0]) (h' := zH I P) 1 rfl ?_
    exact wp_end rfl rfl ⟨by rw [f_M_tellWord, if_pos c1], by rw [g_M_tellWord, if_pos c1]⟩
  · refine wp_blk (pc' := 10) (L' := [some (.ref 4), some (.int i), some (.int j), some (.int v)]) (st' := [.int j, .ref 4]) (h' := zH I P) 2 rfl ?_
    refine wp_callf (d := 24) (as := [.ref 4, .int j]) (rest := []) (Ld := [some (.ref 4), some (.int j)]) (pc' := 13) (st' := [.int (f_M_has 4 5 6 7 I j)]) (r := some (.int (f_M_has 4 5 6 7 I j))) (h1 := zH I P) rfl rfl rfl rfl rfl rfl rfl rfl rfl (sp_M_has_4 I P j) ?_
    refine wp_eq (a := f_M_has 4 5 6 7 I j) (b := 0) (s1 := (30, [some (.ref 4), some (.int i), some (.int j), some (.int v)], [], zH I P)) (s2 := (16, [some (.ref 4), some (.int i), some (.int j), some (.int v)], [], zH I P)) rfl (fun c2 => ?_) (fun c2 => ?_)
    · refine wp_blk (pc' := 31) (L' := [some (.ref 4), some (.int i), some (.int j), some (.int v)]) (st' := [.int 0]) (h' := zH I P) 1 rfl ?_
      exact wp_end rfl rfl ⟨by rw [f_M_tellWord, if_neg c1, if_pos c2], by rw [g_M_tellWord, if_neg c1, if_pos c2]⟩
    · refine wp_blk (pc' := 18) (L' := [some (.ref 4), some (.int i), some (.int j), some (.int v)]) (st' := [.int j, .int i]) (h' := zH I P) 2 rfl ?_
      refine wp_eq (a := i) (b := j) (s1 := (30, [some (.ref 4), some (.int i), some (.int j), some (.int v)], [], zH I P)) (s2 := (21, [some (.ref 4), some (.int i), some (.int j), some (.int v)], [], zH I P)) rfl (fun c3 => ?_) (fun c3 => ?_)
      · refine wp_blk (pc' := 31) (L' := [some (.ref 4), some (.int i), some (.int j), some (.int v)]) (st' := [.int 0]) (h' := zH I P) 1 rfl ?_
        exact wp_end rfl rfl ⟨by rw [f_M_tellWord, if_neg c1, if_neg c2, if_pos c3], by rw [g_M_tellWord, if_neg c1, if_neg c2, if_pos c3]⟩
      · refine wp_blk (pc' := 24) (L' := [some (.ref 4), some (.int i), some (.int j), some (.int v)]) (st' := [.int 6, .int v]) (h' := zH I P) 2 rfl ?_
        refine wp_callf (d := 25) (as := [.int v, .int 6]) (rest := []) (Ld := [some (.int v), some (.int 6)]) (pc' := 27) (st' := [.int (f_G_isOutside I v 6)]) (r := some (.int (f_G_isOutside I v 6))) (h1 := zH I P) rfl rfl rfl rfl rfl rfl rfl rfl rfl (sp_G_isOutside I P v 6) ?_
        refine wp_eq (a := f_G_isOutside I v 6) (b := 0) (s1 := (32, [some (.ref 4), some (.int i), some (.int j), some (.int v)], [], zH I P)) (s2 := (30, [some (.ref 4), some (.int i), some (.int j), some (.int v)], [], zH I P)) rfl (fun c4 => ?_) (fun c4 => ?_)
        · refine wp_blk (pc' := 36) (L' := [some (.ref 4), some (.int i), some (.int j), some (.int v)]) (st' := [.int v, .int j, .int i, .ref 4]) (h' := zH I P) 4 rfl ?_
          refine wp_callf (d := 26) (as := [.ref 4, .int i, .int j, .int v]) (rest := []) (Ld := [some (.ref 4), some (.int i), some (.int j), some (.int v), none]) (pc' := 39) (st' := []) (r := none) (h1 := zH (g_M_setWord 4 5 6 7 I i j v) P) rfl rfl rfl rfl rfl rfl rfl rfl rfl (sp_M_setWord_4 I P i j v) ?_
          refine wp_blk (pc' := 40) (L' := [some (.ref 4), some (.int i), some (.int j), some (.int v)]) (st' := [.int 1]) (h' := zH (g_M_setWord 4 5 6 7 I i j v) P) 1 rfl ?_
          exact wp_end rfl rfl ⟨by rw [f_M_tellWord, if_neg c1, if_neg c2, if_neg c3, if_pos c4], by rw [g_M_tellWord, if_neg c1, if_neg c2, if_neg c3, if_pos c4]⟩
        · refine wp_blk (pc' := 31) (L' := [some (.ref 4), some (.int i), some (.int j), some (.int v)]) (st' := [.int 0]) (h' := zH I P) 1 rfl ?_
          exact wp_end rfl rfl ⟨by rw [f_M_tellWord, if_neg c1, if_neg c2, if_neg c3, if_neg c4], by rw [g_M_tellWord, if_neg c1, if_neg c2, if_neg c3, if_neg c4]⟩
set_option maxRecDepth 100000 in
theorem sp_M_tellWord_4_G {X : Nat × (Nat → Int32)} (I : Nat → Nat → Int32) (P : Nat → Nat → Option Nat) (i j v : Int32) : Wf X 23 [some (.ref 4), some (.int i), some (.int j), some (.int v)] (zG I P) (some (.int (f_M_tellWord 4 5 6 7 I i j v))) (zG (g_M_tellWord 4 5 6 7 I i j v) P) := by
  unfold Wf
  refine wp_blk (pc' := 2) (L' := [some (.ref 4), some (.int i), some (.int j), some (.int v)]) (st' := [.int i, .ref 4]) (h' := zG I P) 2 rfl ?_
  refine wp_callf (d := 24) (as := [.ref 4, .int i]) (rest := []) (Ld := [some (.ref 4), some (.int i)]) (pc' := 5) (st' := [.int (f_M_has 4 5 6 7 I i)]) (r := some (.int (f_M_has 4 5 6 7 I i))) (h1 := zG I P) rfl rfl rfl rfl rfl rfl rfl rfl rfl (sp_M_has_4_G I P i) ?_
  refine wp_eq (a := f_M_has 4 5 6 7 I i) (b := 0) (s1 := (30, [some (.ref 4), some (.int i), some (.int j), some (.int v)], [], zG I P)) (s2 := (8, [some (.ref 4), some (.int i), some (.int j), some (.int v)], [], zG I P)) rfl (fun c1 => ?_) (fun c1 => ?_)
  · refine wp_blk (pc' := 31) (L' := [some (.ref 4), some (.int i), some (.int j), some (.int v)]) (st' := [.int 0]) (h' := zG I P) 1 rfl ?_
    exact wp_end rfl rfl ⟨by rw [f_M_tellWord, if_pos c1], by rw [g_M_tellWord, if_pos c1]⟩
  · refine wp_blk (pc' := 10) (L' := [some (.ref 4), some (.int i), some (.int j), some (.int v)]) (st' := [.int j, .ref 4]) (h' := zG I P) 2 rfl ?_
    refine wp_callf (d := 24) (as := [.ref 4, .int j]) (rest := []) (Ld := [some (.ref 4), some (.int j)]) (pc' := 13) (st' := [.int (f_M_has 4 5 6 7 I j)]) (r := some (.int (f_M_has 4 5 6 7 I j))) (h1 := zG I P) rfl rfl rfl rfl rfl rfl rfl rfl rfl (sp_M_has_4_G I P j) ?_
    refine wp_eq (a := f_M_has 4 5 6 7 I j) (b := 0) (s1 := (30, [some (.ref 4), some (.int i), some (.int j), some (.int v)], [], zG I P)) (s2 := (16, [some (.ref 4), some (.int i), some (.int j), some (.int v)], [], zG I P)) rfl (fun c2 => ?_) (fun c2 => ?_)
    · refine wp_blk (pc' := 31) (L' := [some (.ref 4), some (.int i), some (.int j), some (.int v)]) (st' := [.int 0]) (h' := zG I P) 1 rfl ?_
      exact wp_end rfl rfl ⟨by rw [f_M_tellWord, if_neg c1, if_pos c2], by rw [g_M_tellWord, if_neg c1, if_pos c2]⟩
    · refine wp_blk (pc' := 18) (L' := [some (.ref 4), some (.int i), some (.int j), some (.int v)]) (st' := [.int j, .int i]) (h' := zG I P) 2 rfl ?_
      refine wp_eq (a := i) (b := j) (s1 := (30, [some (.ref 4), some (.int i), some (.int j), some (.int v)], [], zG I P)) (s2 := (21, [some (.ref 4), some (.int i), some (.int j), some (.int v)], [], zG I P)) rfl (fun c3 => ?_) (fun c3 => ?_)
      · refine wp_blk (pc' := 31) (L' := [some (.ref 4), some (.int i), some (.int j), some (.int v)]) (st' := [.int 0]) (h' := zG I P) 1 rfl ?_
        exact wp_end rfl rfl ⟨by rw [f_M_tellWord, if_neg c1, if_neg c2, if_pos c3], by rw [g_M_tellWord, if_neg c1, if_neg c2, if_pos c3]⟩
      · refine wp_blk (pc' := 24) (L' := [some (.ref 4), some (.int i), some (.int j), some (.int v)]) (st' := [.int 6, .int v]) (h' := zG I P) 2 rfl ?_
        refine wp_callf (d := 25) (as := [.int v, .int 6]) (rest := []) (Ld := [some (.int v), some (.int 6)]) (pc' := 27) (st' := [.int (f_G_isOutside I v 6)]) (r := some (.int (f_G_isOutside I v 6))) (h1 := zG I P) rfl rfl rfl rfl rfl rfl rfl rfl rfl (sp_G_isOutside_G I P v 6) ?_
        refine wp_eq (a := f_G_isOutside I v 6) (b := 0) (s1 := (32, [some (.ref 4), some (.int i), some (.int j), some (.int v)], [], zG I P)) (s2 := (30, [some (.ref 4), some (.int i), some (.int j), some (.int v)], [], zG I P)) rfl (fun c4 => ?_) (fun c4 => ?_)
        · refine wp_blk (pc' := 36) (L' := [some (.ref 4), some (.int i), some (.int j), some (.int v)]) (st' := [.int v, .int j, .int i, .ref 4]) (h' := zG I P) 4 rfl ?_
          refine wp_callf (d := 26) (as := [.ref 4, .int i, .int j, .int v]) (rest := []) (Ld := [some (.ref 4), some (.int i), some (.int j), some (.int v), none]) (pc' := 39) (st' := []) (r := none) (h1 := zG (g_M_setWord 4 5 6 7 I i j v) P) rfl rfl rfl rfl rfl rfl rfl rfl rfl (sp_M_setWord_4_G I P i j v) ?_
          refine wp_blk (pc' := 40) (L' := [some (.ref 4), some (.int i), some (.int j), some (.int v)]) (st' := [.int 1]) (h' := zG (g_M_setWord 4 5 6 7 I i j v) P) 1 rfl ?_
          exact wp_end rfl rfl ⟨by rw [f_M_tellWord, if_neg c1, if_neg c2, if_neg c3, if_pos c4], by rw [g_M_tellWord, if_neg c1, if_neg c2, if_neg c3, if_pos c4]⟩
        · refine wp_blk (pc' := 31) (L' := [some (.ref 4), some (.int i), some (.int j), some (.int v)]) (st' := [.int 0]) (h' := zG I P) 1 rfl ?_
          exact wp_end rfl rfl ⟨by rw [f_M_tellWord, if_neg c1, if_neg c2, if_neg c3, if_neg c4], by rw [g_M_tellWord, if_neg c1, if_neg c2, if_neg c3, if_neg c4]⟩
set_option maxRecDepth 100000 in
theorem sp_M_tellWord_8 {X : Nat × (Nat → Int32)} (I : Nat → Nat → Int32) (P : Nat → Nat → Option Nat) (i j v : Int32) : Wf X 23 [some (.ref 8), some (.int i), some (.int j), some (.int v)] (zH I P) (some (.int (f_M_tellWord 8 9 10 11 I i j v))) (zH (g_M_tellWord 8 9 10 11 I i j v) P) := by
  unfold Wf
  refine wp_blk (pc' := 2) (L' := [some (.ref 8), some (.int i), some (.int j), some (.int v)]) (st' := [.int i, .ref 8]) (h' := zH I P) 2 rfl ?_
  refine wp_callf (d := 24) (as := [.ref 8, .int i]) (rest := []) (Ld := [some (.ref 8), some (.int i)]) (pc' := 5) (st' := [.int (f_M_has 8 9 10 11 I i)]) (r := some (.int (f_M_has 8 9 10 11 I i))) (h1 := zH I P) rfl rfl rfl rfl rfl rfl rfl rfl rfl (sp_M_has_8 I P i) ?_
  refine wp_eq (a := f_M_has 8 9 10 11 I i) (b := 0) (s1 := (30, [some (.ref 8), some (.int i), some (.int j), some (.int v)], [], zH I P)) (s2 := (8, [some (.ref 8), some (.int i), some (.int j), some (.int v)], [], zH I P)) rfl (fun c1 => ?_) (fun c1 => ?_)
  · refine wp_blk (pc' := 31) (L' := [some (.ref 8), some (.int i), some (.int j), some (.int v)]) (st' := [.int 0]) (h' := zH I P) 1 rfl ?_
    exact wp_end rfl rfl ⟨by rw [f_M_tellWord, if_pos c1], by rw [g_M_tellWord, if_pos c1]⟩
  · refine wp_blk (pc' := 10) (L' := [some (.ref 8), some (.int i), some (.int j), some (.int v)]) (st' := [.int j, .ref 8]) (h' := zH I P) 2 rfl ?_
    refine wp_callf (d := 24) (as := [.ref 8, .int j]) (rest := []) (Ld := [some (.ref 8), some (.int j)]) (pc' := 13) (st' := [.int (f_M_has 8 9 10 11 I j)]) (r := some (.int (f_M_has 8 9 10 11 I j))) (h1 := zH I P) rfl rfl rfl rfl rfl rfl rfl rfl rfl (sp_M_has_8 I P j) ?_
    refine wp_eq (a := f_M_has 8 9 10 11 I j) (b := 0) (s1 := (30, [some (.ref 8), some (.int i), some (.int j), some (.int v)], [], zH I P)) (s2 := (16, [some (.ref 8), some (.int i), some (.int j), some (.int v)], [], zH I P)) rfl (fun c2 => ?_) (fun c2 => ?_)
    · refine wp_blk (pc' := 31) (L' := [some (.ref 8), some (.int i), some (.int j), some (.int v)]) (st' := [.int 0]) (h' := zH I P) 1 rfl ?_
      exact wp_end rfl rfl ⟨by rw [f_M_tellWord, if_neg c1, if_pos c2], by rw [g_M_tellWord, if_neg c1, if_pos c2]⟩
    · refine wp_blk (pc' := 18) (L' := [some (.ref 8), some (.int i), some (.int j), some (.int v)]) (st' := [.int j, .int i]) (h' := zH I P) 2 rfl ?_
      refine wp_eq (a := i) (b := j) (s1 := (30, [some (.ref 8), some (.int i), some (.int j), some (.int v)], [], zH I P)) (s2 := (21, [some (.ref 8), some (.int i), some (.int j), some (.int v)], [], zH I P)) rfl (fun c3 => ?_) (fun c3 => ?_)
      · refine wp_blk (pc' := 31) (L' := [some (.ref 8), some (.int i), some (.int j), some (.int v)]) (st' := [.int 0]) (h' := zH I P) 1 rfl ?_
        exact wp_end rfl rfl ⟨by rw [f_M_tellWord, if_neg c1, if_neg c2, if_pos c3], by rw [g_M_tellWord, if_neg c1, if_neg c2, if_pos c3]⟩
      · refine wp_blk (pc' := 24) (L' := [some (.ref 8), some (.int i), some (.int j), some (.int v)]) (st' := [.int 6, .int v]) (h' := zH I P) 2 rfl ?_
        refine wp_callf (d := 25) (as := [.int v, .int 6]) (rest := []) (Ld := [some (.int v), some (.int 6)]) (pc' := 27) (st' := [.int (f_G_isOutside I v 6)]) (r := some (.int (f_G_isOutside I v 6))) (h1 := zH I P) rfl rfl rfl rfl rfl rfl rfl rfl rfl (sp_G_isOutside I P v 6) ?_
        refine wp_eq (a := f_G_isOutside I v 6) (b := 0) (s1 := (32, [some (.ref 8), some (.int i), some (.int j), some (.int v)], [], zH I P)) (s2 := (30, [some (.ref 8), some (.int i), some (.int j), some (.int v)], [], zH I P)) rfl (fun c4 => ?_) (fun c4 => ?_)
        · refine wp_blk (pc' := 36) (L' := [some (.ref 8), some (.int i), some (.int j), some (.int v)]) (st' := [.int v, .int j, .int i, .ref 8]) (h' := zH I P) 4 rfl ?_
          refine wp_callf (d := 26) (as := [.ref 8, .int i, .int j, .int v]) (rest := []) (Ld := [some (.ref 8), some (.int i), some (.int j), some (.int v), none]) (pc' := 39) (st' := []) (r := none) (h1 := zH (g_M_setWord 8 9 10 11 I i j v) P) rfl rfl rfl rfl rfl rfl rfl rfl rfl (sp_M_setWord_8 I P i j v) ?_
          refine wp_blk (pc' := 40) (L' := [some (.ref 8), some (.int i), some (.int j), some (.int v)]) (st' := [.int 1]) (h' := zH (g_M_setWord 8 9 10 11 I i j v) P) 1 rfl ?_
          exact wp_end rfl rfl ⟨by rw [f_M_tellWord, if_neg c1, if_neg c2, if_neg c3, if_pos c4], by rw [g_M_tellWord, if_neg c1, if_neg c2, if_neg c3, if_pos c4]⟩
        · refine wp_blk (pc' := 31) (L' := [some (.ref 8), some (.int i), some (.int j), some (.int v)]) (st' := [.int 0]) (h' := zH I P) 1 rfl ?_
          exact wp_end rfl rfl ⟨by rw [f_M_tellWord, if_neg c1, if_neg c2, if_neg c3, if_neg c4], by rw [g_M_tellWord, if_neg c1, if_neg c2, if_neg c3, if_neg c4]⟩
set_option maxRecDepth 100000 in
theorem sp_M_tellWord_8_G {X : Nat × (Nat → Int32)} (I : Nat → Nat → Int32) (P : Nat → Nat → Option Nat) (i j v : Int32) : Wf X 23 [some (.ref 8), some (.int i), some (.int j), some (.int v)] (zG I P) (some (.int (f_M_tellWord 8 9 10 11 I i j v))) (zG (g_M_tellWord 8 9 10 11 I i j v) P) := by
  unfold Wf
  refine wp_blk (pc' := 2) (L' := [some (.ref 8), some (.int i), some (.int j), some (.int v)]) (st' := [.int i, .ref 8]) (h' := zG I P) 2 rfl ?_
  refine wp_callf (d := 24) (as := [.ref 8, .int i]) (rest := []) (Ld := [some (.ref 8), some (.int i)]) (pc' := 5) (st' := [.int (f_M_has 8 9 10 11 I i)]) (r := some (.int (f_M_has 8 9 10 11 I i))) (h1 := zG I P) rfl rfl rfl rfl rfl rfl rfl rfl rfl (sp_M_has_8_G I P i) ?_
  refine wp_eq (a := f_M_has 8 9 10 11 I i) (b := 0) (s1 := (30, [some (.ref 8), some (.int i), some (.int j), some (.int v)], [], zG I P)) (s2 := (8, [some (.ref 8), some (.int i), some (.int j), some (.int v)], [], zG I P)) rfl (fun c1 => ?_) (fun c1 => ?_)
  · refine wp_blk (pc' := 31) (L' := [some (.ref 8), some (.int i), some (.int j), some (.int v)]) (st' := [.int 0]) (h' := zG I P) 1 rfl ?_
    exact wp_end rfl rfl ⟨by rw [f_M_tellWord, if_pos c1], by rw [g_M_tellWord, if_pos c1]⟩
  · refine wp_blk (pc' := 10) (L' := [some (.ref 8), some (.int i), some (.int j), some (.int v)]) (st' := [.int j, .ref 8]) (h' := zG I P) 2 rfl ?_
    refine wp_callf (d := 24) (as := [.ref 8, .int j]) (rest := []) (Ld := [some (.ref 8), some (.int j)]) (pc' := 13) (st' := [.int (f_M_has 8 9 10 11 I j)]) (r := some (.int (f_M_has 8 9 10 11 I j))) (h1 := zG I P) rfl rfl rfl rfl rfl rfl rfl rfl rfl (sp_M_has_8_G I P j) ?_
    refine wp_eq (a := f_M_has 8 9 10 11 I j) (b := 0) (s1 := (30, [some (.ref 8), some (.int i), some (.int j), some (.int v)], [], zG I P)) (s2 := (16, [some (.ref 8), some (.int i), some (.int j), some (.int v)], [], zG I P)) rfl (fun c2 => ?_) (fun c2 => ?_)
    · refine wp_blk (pc' := 31) (L' := [some (.ref 8), some (.int i), some (.int j), some (.int v)]) (st' := [.int 0]) (h' := zG I P) 1 rfl ?_
      exact wp_end rfl rfl ⟨by rw [f_M_tellWord, if_neg c1, if_pos c2], by rw [g_M_tellWord, if_neg c1, if_pos c2]⟩
    · refine wp_blk (pc' := 18) (L' := [some (.ref 8), some (.int i), some (.int j), some (.int v)]) (st' := [.int j, .int i]) (h' := zG I P) 2 rfl ?_
      refine wp_eq (a := i) (b := j) (s1 := (30, [some (.ref 8), some (.int i), some (.int j), some (.int v)], [], zG I P)) (s2 := (21, [some (.ref 8), some (.int i), some (.int j), some (.int v)], [], zG I P)) rfl (fun c3 => ?_) (fun c3 => ?_)
      · refine wp_blk (pc' := 31) (L' := [some (.ref 8), some (.int i), some (.int j), some (.int v)]) (st' := [.int 0]) (h' := zG I P) 1 rfl ?_
        exact wp_end rfl rfl ⟨by rw [f_M_tellWord, if_neg c1, if_neg c2, if_pos c3], by rw [g_M_tellWord, if_neg c1, if_neg c2, if_pos c3]⟩
      · refine wp_blk (pc' := 24) (L' := [some (.ref 8), some (.int i), some (.int j), some (.int v)]) (st' := [.int 6, .int v]) (h' := zG I P) 2 rfl ?_
        refine wp_callf (d := 25) (as := [.int v, .int 6]) (rest := []) (Ld := [some (.int v), some (.int 6)]) (pc' := 27) (st' := [.int (f_G_isOutside I v 6)]) (r := some (.int (f_G_isOutside I v 6))) (h1 := zG I P) rfl rfl rfl rfl rfl rfl rfl rfl rfl (sp_G_isOutside_G I P v 6) ?_
        refine wp_eq (a := f_G_isOutside I v 6) (b := 0) (s1 := (32, [some (.ref 8), some (.int i), some (.int j), some (.int v)], [], zG I P)) (s2 := (30, [some (.ref 8), some (.int i), some (.int j), some (.int v)], [], zG I P)) rfl (fun c4 => ?_) (fun c4 => ?_)
        · refine wp_blk (pc' := 36) (L' := [some (.ref 8), some (.int i), some (.int j), some (.int v)]) (st' := [.int v, .int j, .int i, .ref 8]) (h' := zG I P) 4 rfl ?_
          refine wp_callf (d := 26) (as := [.ref 8, .int i, .int j, .int v]) (rest := []) (Ld := [some (.ref 8), some (.int i), some (.int j), some (.int v), none]) (pc' := 39) (st' := []) (r := none) (h1 := zG (g_M_setWord 8 9 10 11 I i j v) P) rfl rfl rfl rfl rfl rfl rfl rfl rfl (sp_M_setWord_8_G I P i j v) ?_
          refine wp_blk (pc' := 40) (L' := [some (.ref 8), some (.int i), some (.int j), some (.int v)]) (st' := [.int 1]) (h' := zG (g_M_setWord 8 9 10 11 I i j v) P) 1 rfl ?_
          exact wp_end rfl rfl ⟨by rw [f_M_tellWord, if_neg c1, if_neg c2, if_neg c3, if_pos c4], by rw [g_M_tellWord, if_neg c1, if_neg c2, if_neg c3, if_pos c4]⟩
        · refine wp_blk (pc' := 31) (L' := [some (.ref 8), some (.int i), some (.int j), some (.int v)]) (st' := [.int 0]) (h' := zG I P) 1 rfl ?_
          exact wp_end rfl rfl ⟨by rw [f_M_tellWord, if_neg c1, if_neg c2, if_neg c3, if_neg c4], by rw [g_M_tellWord, if_neg c1, if_neg c2, if_neg c3, if_neg c4]⟩
def f_M_tellStone (m mk ml mt : Nat) (I : Nat → Nat → Int32) (f : Int32) : Int32 := if f_G_isOutside I f 9 = 0 then 1 else 0
theorem fb_M_tellStone (m mk ml mt : Nat) (I : Nat → Nat → Int32) (f : Int32) : f_M_tellStone m mk ml mt I f = 1 ∨ f_M_tellStone m mk ml mt I f = 0 := by
  unfold f_M_tellStone
  (repeat' split) <;> first | exact Or.inl rfl | exact Or.inr rfl
def g_M_tellStone (m mk ml mt : Nat) (I : Nat → Nat → Int32) (f : Int32) : Nat → Nat → Int32 := if f_G_isOutside I f 9 = 0 then (zui I m 5 f) else I
set_option maxRecDepth 100000 in
theorem sp_M_tellStone_4 {X : Nat × (Nat → Int32)} (I : Nat → Nat → Int32) (P : Nat → Nat → Option Nat) (f : Int32) : Wf X 27 [some (.ref 4), some (.int f)] (zH I P) (some (.int (f_M_tellStone 4 5 6 7 I f))) (zH (g_M_tellStone 4 5 6 7 I f) P) := by
  unfold Wf
  refine wp_blk (pc' := 3) (L' := [some (.ref 4), some (.int f)]) (st' := [.int 9, .int f]) (h' := zH I P) 2 rfl ?_
  refine wp_callf (d := 25) (as := [.int f, .int 9]) (rest := []) (Ld := [some (.int f), some (.int 9)]) (pc' := 6) (st' := [.int (f_G_isOutside I f 9)]) (r := some (.int (f_G_isOutside I f 9))) (h1 := zH I P) rfl rfl rfl rfl rfl rfl rfl rfl rfl (sp_G_isOutside I P f 9) ?_
  refine wp_eq (a := f_G_isOutside I f 9) (b := 0) (s1 := (11, [some (.ref 4), some (.int f)], [], zH I P)) (s2 := (9, [some (.ref 4), some (.int f)], [], zH I P)) rfl (fun c1 => ?_) (fun c1 => ?_)
  · refine wp_blk (pc' := 17) (L' := [some (.ref 4), some (.int f)]) (st' := [.int 1]) (h' := zH (zui I 4 5 f) P) 4 rfl ?_
    exact wp_end rfl rfl ⟨by rw [f_M_tellStone, if_pos c1], by rw [g_M_tellStone, if_pos c1]⟩
  · refine wp_blk (pc' := 10) (L' := [some (.ref 4), some (.int f)]) (st' := [.int 0]) (h' := zH I P) 1 rfl ?_
    exact wp_end rfl rfl ⟨by rw [f_M_tellStone, if_neg c1], by rw [g_M_tellStone, if_neg c1]⟩
set_option maxRecDepth 100000 in
theorem sp_M_tellStone_4_G {X : Nat × (Nat → Int32)} (I : Nat → Nat → Int32) (P : Nat → Nat → Option Nat) (f : Int32) : Wf X 27 [some (.ref 4), some (.int f)] (zG I P) (some (.int (f_M_tellStone 4 5 6 7 I f))) (zG (g_M_tellStone 4 5 6 7 I f) P) := by
  unfold Wf
  refine wp_blk (pc' := 3) (L' := [some (.ref 4), some (.int f)]) (st' := [.int 9, .int f]) (h' := zG I P) 2 rfl ?_
  refine wp_callf (d := 25) (as := [.int f, .int 9]) (rest := []) (Ld := [some (.int f), some (.int 9)]) (pc' := 6) (st' := [.int (f_G_isOutside I f 9)]) (r := some (.int (f_G_isOutside I f 9))) (h1 := zG I P) rfl rfl rfl rfl rfl rfl rfl rfl rfl (sp_G_isOutside_G I P f 9) ?_
  refine wp_eq (a := f_G_isOutside I f 9) (b := 0) (s1 := (11, [some (.ref 4), some (.int f)], [], zG I P)) (s2 := (9, [some (.ref 4), some (.int f)], [], zG I P)) rfl (fun c1 => ?_) (fun c1 => ?_)
  · refine wp_blk (pc' := 17) (L' := [some (.ref 4), some (.int f)]) (st' := [.int 1]) (h' := zG (zui I 4 5 f) P) 4 rfl ?_
    exact wp_end rfl rfl ⟨by rw [f_M_tellStone, if_pos c1], by rw [g_M_tellStone, if_pos c1]⟩
  · refine wp_blk (pc' := 10) (L' := [some (.ref 4), some (.int f)]) (st' := [.int 0]) (h' := zG I P) 1 rfl ?_
    exact wp_end rfl rfl ⟨by rw [f_M_tellStone, if_neg c1], by rw [g_M_tellStone, if_neg c1]⟩
set_option maxRecDepth 100000 in
theorem sp_M_tellStone_8 {X : Nat × (Nat → Int32)} (I : Nat → Nat → Int32) (P : Nat → Nat → Option Nat) (f : Int32) : Wf X 27 [some (.ref 8), some (.int f)] (zH I P) (some (.int (f_M_tellStone 8 9 10 11 I f))) (zH (g_M_tellStone 8 9 10 11 I f) P) := by
  unfold Wf
  refine wp_blk (pc' := 3) (L' := [some (.ref 8), some (.int f)]) (st' := [.int 9, .int f]) (h' := zH I P) 2 rfl ?_
  refine wp_callf (d := 25) (as := [.int f, .int 9]) (rest := []) (Ld := [some (.int f), some (.int 9)]) (pc' := 6) (st' := [.int (f_G_isOutside I f 9)]) (r := some (.int (f_G_isOutside I f 9))) (h1 := zH I P) rfl rfl rfl rfl rfl rfl rfl rfl rfl (sp_G_isOutside I P f 9) ?_
  refine wp_eq (a := f_G_isOutside I f 9) (b := 0) (s1 := (11, [some (.ref 8), some (.int f)], [], zH I P)) (s2 := (9, [some (.ref 8), some (.int f)], [], zH I P)) rfl (fun c1 => ?_) (fun c1 => ?_)
  · refine wp_blk (pc' := 17) (L' := [some (.ref 8), some (.int f)]) (st' := [.int 1]) (h' := zH (zui I 8 5 f) P) 4 rfl ?_
    exact wp_end rfl rfl ⟨by rw [f_M_tellStone, if_pos c1], by rw [g_M_tellStone, if_pos c1]⟩
  · refine wp_blk (pc' := 10) (L' := [some (.ref 8), some (.int f)]) (st' := [.int 0]) (h' := zH I P) 1 rfl ?_
    exact wp_end rfl rfl ⟨by rw [f_M_tellStone, if_neg c1], by rw [g_M_tellStone, if_neg c1]⟩
set_option maxRecDepth 100000 in
theorem sp_M_tellStone_8_G {X : Nat × (Nat → Int32)} (I : Nat → Nat → Int32) (P : Nat → Nat → Option Nat) (f : Int32) : Wf X 27 [some (.ref 8), some (.int f)] (zG I P) (some (.int (f_M_tellStone 8 9 10 11 I f))) (zG (g_M_tellStone 8 9 10 11 I f) P) := by
  unfold Wf
  refine wp_blk (pc' := 3) (L' := [some (.ref 8), some (.int f)]) (st' := [.int 9, .int f]) (h' := zG I P) 2 rfl ?_
  refine wp_callf (d := 25) (as := [.int f, .int 9]) (rest := []) (Ld := [some (.int f), some (.int 9)]) (pc' := 6) (st' := [.int (f_G_isOutside I f 9)]) (r := some (.int (f_G_isOutside I f 9))) (h1 := zG I P) rfl rfl rfl rfl rfl rfl rfl rfl rfl (sp_G_isOutside_G I P f 9) ?_
  refine wp_eq (a := f_G_isOutside I f 9) (b := 0) (s1 := (11, [some (.ref 8), some (.int f)], [], zG I P)) (s2 := (9, [some (.ref 8), some (.int f)], [], zG I P)) rfl (fun c1 => ?_) (fun c1 => ?_)
  · refine wp_blk (pc' := 17) (L' := [some (.ref 8), some (.int f)]) (st' := [.int 1]) (h' := zG (zui I 8 5 f) P) 4 rfl ?_
    exact wp_end rfl rfl ⟨by rw [f_M_tellStone, if_pos c1], by rw [g_M_tellStone, if_pos c1]⟩
  · refine wp_blk (pc' := 10) (L' := [some (.ref 8), some (.int f)]) (st' := [.int 0]) (h' := zG I P) 1 rfl ?_
    exact wp_end rfl rfl ⟨by rw [f_M_tellStone, if_neg c1], by rw [g_M_tellStone, if_neg c1]⟩
def f_M_tellGone (m mk ml mt : Nat) (I : Nat → Nat → Int32) (c : Int32) : Int32 := if f_M_has m mk ml mt I c = 0 then 0 else 1
theorem fb_M_tellGone (m mk ml mt : Nat) (I : Nat → Nat → Int32) (c : Int32) : f_M_tellGone m mk ml mt I c = 1 ∨ f_M_tellGone m mk ml mt I c = 0 := by
  unfold f_M_tellGone
  (repeat' split) <;> first | exact Or.inl rfl | exact Or.inr rfl
def g_M_tellGone (m mk ml mt : Nat) (I : Nat → Nat → Int32) (c : Int32) : Nat → Nat → Int32 := if f_M_has m mk ml mt I c = 0 then I else (zui I m 4 ((I m 4) ||| (1 <<< (c &&& 31))))
set_option maxRecDepth 100000 in
theorem sp_M_tellGone_4 {X : Nat × (Nat → Int32)} (I : Nat → Nat → Int32) (P : Nat → Nat → Option Nat) (c : Int32) : Wf X 28 [some (.ref 4), some (.int c)] (zH I P) (some (.int (f_M_tellGone 4 5 6 7 I c))) (zH (g_M_tellGone 4 5 6 7 I c) P) := by
  unfold Wf
  refine wp_blk (pc' := 2) (L' := [some (.ref 4), some (.int c)]) (st' := [.int c, .ref 4]) (h' := zH I P) 2 rfl ?_
  refine wp_callf (d := 24) (as := [.ref 4, .int c]) (rest := []) (Ld := [some (.ref 4), some (.int c)]) (pc' := 5) (st' := [.int (f_M_has 4 5 6 7 I c)]) (r := some (.int (f_M_has 4 5 6 7 I c))) (h1 := zH I P) rfl rfl rfl rfl rfl rfl rfl rfl rfl (sp_M_has_4 I P c) ?_
  refine wp_ne (a := f_M_has 4 5 6 7 I c) (b := 0) (s1 := (10, [some (.ref 4), some (.int c)], [], zH I P)) (s2 := (8, [some (.ref 4), some (.int c)], [], zH I P)) rfl (fun c1 => ?_) (fun c1 => ?_)
  · refine wp_blk (pc' := 23) (L' := [some (.ref 4), some (.int c)]) (st' := [.int 1]) (h' := zH (zui I 4 4 ((I 4 4) ||| (1 <<< (c &&& 31)))) P) 9 rfl ?_
    exact wp_end rfl rfl ⟨by rw [f_M_tellGone, if_neg c1], by rw [g_M_tellGone, if_neg c1]⟩
  · refine wp_blk (pc' := 9) (L' := [some (.ref 4), some (.int c)]) (st' := [.int 0]) (h' := zH I P) 1 rfl ?_
    exact wp_end rfl rfl ⟨by rw [f_M_tellGone, if_pos c1], by rw [g_M_tellGone, if_pos c1]⟩
set_option maxRecDepth 100000 in
theorem sp_M_tellGone_4_G {X : Nat × (Nat → Int32)} (I : Nat → Nat → Int32) (P : Nat → Nat → Option Nat) (c : Int32) : Wf X 28 [some (.ref 4), some (.int c)] (zG I P) (some (.int (f_M_tellGone 4 5 6 7 I c))) (zG (g_M_tellGone 4 5 6 7 I c) P) := by
  unfold Wf
  refine wp_blk (pc' := 2) (L' := [some (.ref 4), some (.int c)]) (st' := [.int c, .ref 4]) (h' := zG I P) 2 rfl ?_
  refine wp_callf (d := 24) (as := [.ref 4, .int c]) (rest := []) (Ld := [some (.ref 4), some (.int c)]) (pc' := 5) (st' := [.int (f_M_has 4 5 6 7 I c)]) (r := some (.int (f_M_has 4 5 6 7 I c))) (h1 := zG I P) rfl rfl rfl rfl rfl rfl rfl rfl rfl (sp_M_has_4_G I P c) ?_
  refine wp_ne (a := f_M_has 4 5 6 7 I c) (b := 0) (s1 := (10, [some (.ref 4), some (.int c)], [], zG I P)) (s2 := (8, [some (.ref 4), some (.int c)], [], zG I P)) rfl (fun c1 => ?_) (fun c1 => ?_)
  · refine wp_blk (pc' := 23) (L' := [some (.ref 4), some (.int c)]) (st' := [.int 1]) (h' := zG (zui I 4 4 ((I 4 4) ||| (1 <<< (c &&& 31)))) P) 9 rfl ?_
    exact wp_end rfl rfl ⟨by rw [f_M_tellGone, if_neg c1], by rw [g_M_tellGone, if_neg c1]⟩
  · refine wp_blk (pc' := 9) (L' := [some (.ref 4), some (.int c)]) (st' := [.int 0]) (h' := zG I P) 1 rfl ?_
    exact wp_end rfl rfl ⟨by rw [f_M_tellGone, if_pos c1], by rw [g_M_tellGone, if_pos c1]⟩
set_option maxRecDepth 100000 in
theorem sp_M_tellGone_8 {X : Nat × (Nat → Int32)} (I : Nat → Nat → Int32) (P : Nat → Nat → Option Nat) (c : Int32) : Wf X 28 [some (.ref 8), some (.int c)] (zH I P) (some (.int (f_M_tellGone 8 9 10 11 I c))) (zH (g_M_tellGone 8 9 10 11 I c) P) := by
  unfold Wf
  refine wp_blk (pc' := 2) (L' := [some (.ref 8), some (.int c)]) (st' := [.int c, .ref 8]) (h' := zH I P) 2 rfl ?_
  refine wp_callf (d := 24) (as := [.ref 8, .int c]) (rest := []) (Ld := [some (.ref 8), some (.int c)]) (pc' := 5) (st' := [.int (f_M_has 8 9 10 11 I c)]) (r := some (.int (f_M_has 8 9 10 11 I c))) (h1 := zH I P) rfl rfl rfl rfl rfl rfl rfl rfl rfl (sp_M_has_8 I P c) ?_
  refine wp_ne (a := f_M_has 8 9 10 11 I c) (b := 0) (s1 := (10, [some (.ref 8), some (.int c)], [], zH I P)) (s2 := (8, [some (.ref 8), some (.int c)], [], zH I P)) rfl (fun c1 => ?_) (fun c1 => ?_)
  · refine wp_blk (pc' := 23) (L' := [some (.ref 8), some (.int c)]) (st' := [.int 1]) (h' := zH (zui I 8 4 ((I 8 4) ||| (1 <<< (c &&& 31)))) P) 9 rfl ?_
    exact wp_end rfl rfl ⟨by rw [f_M_tellGone, if_neg c1], by rw [g_M_tellGone, if_neg c1]⟩
  · refine wp_blk (pc' := 9) (L' := [some (.ref 8), some (.int c)]) (st' := [.int 0]) (h' := zH I P) 1 rfl ?_
    exact wp_end rfl rfl ⟨by rw [f_M_tellGone, if_pos c1], by rw [g_M_tellGone, if_pos c1]⟩
set_option maxRecDepth 100000 in
theorem sp_M_tellGone_8_G {X : Nat × (Nat → Int32)} (I : Nat → Nat → Int32) (P : Nat → Nat → Option Nat) (c : Int32) : Wf X 28 [some (.ref 8), some (.int c)] (zG I P) (some (.int (f_M_tellGone 8 9 10 11 I c))) (zG (g_M_tellGone 8 9 10 11 I c) P) := by
  unfold Wf
  refine wp_blk (pc' := 2) (L' := [some (.ref 8), some (.int c)]) (st' := [.int c, .ref 8]) (h' := zG I P) 2 rfl ?_
  refine wp_callf (d := 24) (as := [.ref 8, .int c]) (rest := []) (Ld := [some (.ref 8), some (.int c)]) (pc' := 5) (st' := [.int (f_M_has 8 9 10 11 I c)]) (r := some (.int (f_M_has 8 9 10 11 I c))) (h1 := zG I P) rfl rfl rfl rfl rfl rfl rfl rfl rfl (sp_M_has_8_G I P c) ?_
  refine wp_ne (a := f_M_has 8 9 10 11 I c) (b := 0) (s1 := (10, [some (.ref 8), some (.int c)], [], zG I P)) (s2 := (8, [some (.ref 8), some (.int c)], [], zG I P)) rfl (fun c1 => ?_) (fun c1 => ?_)
  · refine wp_blk (pc' := 23) (L' := [some (.ref 8), some (.int c)]) (st' := [.int 1]) (h' := zG (zui I 8 4 ((I 8 4) ||| (1 <<< (c &&& 31)))) P) 9 rfl ?_
    exact wp_end rfl rfl ⟨by rw [f_M_tellGone, if_neg c1], by rw [g_M_tellGone, if_neg c1]⟩
  · refine wp_blk (pc' := 9) (L' := [some (.ref 8), some (.int c)]) (st' := [.int 0]) (h' := zG I P) 1 rfl ?_
    exact wp_end rfl rfl ⟨by rw [f_M_tellGone, if_pos c1], by rw [g_M_tellGone, if_pos c1]⟩
def x_M_swap (m mk ml mt : Nat) (I : Nat → Nat → Int32) (a b : Int32) : Option (Int32 × (Nat → Nat → Int32)) := (x_M_placeOf m mk ml mt I a).bind (fun q1 => (x_M_placeOf m mk ml mt q1.2 b).bind (fun q2 => if q1.1 < 0 then (some (0, q2.2)) else (if Int32.ofNat 6 ≤ q1.1 then (some (0, q2.2)) else (if q2.1 < 0 then (some (0, q2.2)) else (if Int32.ofNat 6 ≤ q2.1 then (some (0, q2.2)) else (if zinb q1.1 6 = true then (if zinb q2.1 6 = true then (some (0, (zui (zui q2.2 ml q1.1.toNatClampNeg b) ml q2.1.toNatClampNeg a))) else none) else none))))))
set_option maxRecDepth 100000 in
theorem xp_M_swap_4 {X : Nat × (Nat → Int32)} (I : Nat → Nat → Int32) (P : Nat → Nat → Option Nat) (a b : Int32) (r : Int32 × (Nat → Nat → Int32)) (hx : x_M_swap 4 5 6 7 I a b = some r) : Wf X 69 [some (.ref 4), some (.int a), some (.int b), none, none] (zH I P) (none) (zH r.2 P) := by
  unfold Wf
  unfold x_M_swap at hx
  refine wp_blk (pc' := 2) (L' := [some (.ref 4), some (.int a), some (.int b), none, none]) (st' := [.int a, .ref 4]) (h' := zH I P) 2 rfl ?_
  obtain ⟨y1, hy1, hx⟩ := zbind hx
  refine wp_callf (d := 42) (as := [.ref 4, .int a]) (rest := []) (Ld := [some (.ref 4), some (.int a), none]) (pc' := 5) (st' := [.int y1.1]) (r := some (.int y1.1)) (h1 := zH y1.2 P) rfl rfl rfl rfl rfl rfl rfl rfl rfl (xp_M_placeOf_4 _ _ _ _ hy1) ?_
  refine wp_blk (pc' := 8) (L' := [some (.ref 4), some (.int a), some (.int b), some (.int y1.1), none]) (st' := [.int b, .ref 4]) (h' := zH y1.2 P) 3 rfl ?_
  obtain ⟨y2, hy2, hx⟩ := zbind hx
  refine wp_callf (d := 42) (as := [.ref 4, .int b]) (rest := []) (Ld := [some (.ref 4), some (.int b), none]) (pc' := 11) (st' := [.int y2.1]) (r := some (.int y2.1)) (h1 := zH y2.2 P) rfl rfl rfl rfl rfl rfl rfl rfl rfl (xp_M_placeOf_4 _ _ _ _ hy2) ?_
  refine wp_blk (pc' := 14) (L' := [some (.ref 4), some (.int a), some (.int b), some (.int y1.1), some (.int y2.1)]) (st' := [.int y1.1]) (h' := zH y2.2 P) 2 rfl ?_
  refine wp_lt (a := y1.1) (b := 0) (s1 := (56, [some (.ref 4), some (.int a), some (.int b), some (.int y1.1), some (.int y2.1)], [], zH y2.2 P)) (s2 := (17, [some (.ref 4), some (.int a), some (.int b), some (.int y1.1), some (.int y2.1)], [], zH y2.2 P)) rfl (fun c1 => ?_) (fun c1 => ?_)
  · rw [if_pos c1] at hx
    cases hx
    exact wp_end rfl rfl ⟨rfl, rfl⟩
  · rw [if_neg c1] at hx
    refine wp_blk (pc' := 23) (L' := [some (.ref 4), some (.int a), some (.int b), some (.int y1.1), some (.int y2.1)]) (st' := [.int (Int32.ofNat 6), .int y1.1]) (h' := zH y2.2 P) 4 rfl ?_
    refine wp_ge (a := y1.1) (b := Int32.ofNat 6) (s1 := (56, [some (.ref 4), some (.int a), some (.int b), some (.int y1.1), some (.int y2.1)], [], zH y2.2 P)) (s2 := (26, [some (.ref 4), some (.int a), some (.int b), some (.int y1.1), some (.int y2.1)], [], zH y2.2 P)) rfl (fun c2 => ?_) (fun c2 => ?_)
    · rw [if_pos c2] at hx
      cases hx
      exact wp_end rfl rfl ⟨rfl, rfl⟩
    · rw [if_neg c2] at hx
      refine wp_blk (pc' := 28) (L' := [some (.ref 4), some (.int a), some (.int b), some (.int y1.1), some (.int y2.1)]) (st' := [.int y2.1]) (h' := zH y2.2 P) 1 rfl ?_
      refine wp_lt (a := y2.1) (b := 0) (s1 := (56, [some (.ref 4), some (.int a), some (.int b), some (.int y1.1), some (.int y2.1)], [], zH y2.2 P)) (s2 := (31, [some (.ref 4), some (.int a), some (.int b), some (.int y1.1), some (.int y2.1)], [], zH y2.2 P)) rfl (fun c3 => ?_) (fun c3 => ?_)
      · rw [if_pos c3] at hx
        cases hx
        exact wp_end rfl rfl ⟨rfl, rfl⟩
      · rw [if_neg c3] at hx
        refine wp_blk (pc' := 38) (L' := [some (.ref 4), some (.int a), some (.int b), some (.int y1.1), some (.int y2.1)]) (st' := [.int (Int32.ofNat 6), .int y2.1]) (h' := zH y2.2 P) 4 rfl ?_
        refine wp_ge (a := y2.1) (b := Int32.ofNat 6) (s1 := (56, [some (.ref 4), some (.int a), some (.int b), some (.int y1.1), some (.int y2.1)], [], zH y2.2 P)) (s2 := (41, [some (.ref 4), some (.int a), some (.int b), some (.int y1.1), some (.int y2.1)], [], zH y2.2 P)) rfl (fun c4 => ?_) (fun c4 => ?_)
        · rw [if_pos c4] at hx
          cases hx
          exact wp_end rfl rfl ⟨rfl, rfl⟩
        · rw [if_neg c4] at hx
          refine wp_blk (pc' := 47) (L' := [some (.ref 4), some (.int a), some (.int b), some (.int y1.1), some (.int y2.1)]) (st' := [.int b, .int y1.1, .ref 6]) (h' := zH y2.2 P) 4 rfl ?_
          obtain ⟨c5, hx⟩ := zite hx
          refine wp_chk (P := zinb y1.1 6 = true) (pc' := 48) (L' := [some (.ref 4), some (.int a), some (.int b), some (.int y1.1), some (.int y2.1)]) (st' := []) (h' := zH (zui y2.2 6 y1.1.toNatClampNeg b) P) rfl c5 ?_
          refine wp_blk (pc' := 55) (L' := [some (.ref 4), some (.int a), some (.int b), some (.int y1.1), some (.int y2.1)]) (st' := [.int a, .int y2.1, .ref 6]) (h' := zH (zui y2.2 6 y1.1.toNatClampNeg b) P) 4 rfl ?_
          obtain ⟨c6, hx⟩ := zite hx
          refine wp_chk (P := zinb y2.1 6 = true) (pc' := 56) (L' := [some (.ref 4), some (.int a), some (.int b), some (.int y1.1), some (.int y2.1)]) (st' := []) (h' := zH (zui (zui y2.2 6 y1.1.toNatClampNeg b) 6 y2.1.toNatClampNeg a) P) rfl c6 ?_
          cases hx
          exact wp_end rfl rfl ⟨rfl, rfl⟩
set_option maxRecDepth 100000 in
theorem xp_M_swap_8 {X : Nat × (Nat → Int32)} (I : Nat → Nat → Int32) (P : Nat → Nat → Option Nat) (a b : Int32) (r : Int32 × (Nat → Nat → Int32)) (hx : x_M_swap 8 9 10 11 I a b = some r) : Wf X 69 [some (.ref 8), some (.int a), some (.int b), none, none] (zH I P) (none) (zH r.2 P) := by
  unfold Wf
  unfold x_M_swap at hx
  refine wp_blk (pc' := 2) (L' := [some (.ref 8), some (.int a), some (.int b), none, none]) (st' := [.int a, .ref 8]) (h' := zH I P) 2 rfl ?_
  obtain ⟨y1, hy1, hx⟩ := zbind hx
  refine wp_callf (d := 42) (as := [.ref 8, .int a]) (rest := []) (Ld := [some (.ref 8), some (.int a), none]) (pc' := 5) (st' := [.int y1.1]) (r := some (.int y1.1)) (h1 := zH y1.2 P) rfl rfl rfl rfl rfl rfl rfl rfl rfl (xp_M_placeOf_8 _ _ _ _ hy1) ?_
  refine wp_blk (pc' := 8) (L' := [some (.ref 8), some (.int a), some (.int b), some (.int y1.1), none]) (st' := [.int b, .ref 8]) (h' := zH y1.2 P) 3 rfl ?_
  obtain ⟨y2, hy2, hx⟩ := zbind hx
  refine wp_callf (d := 42) (as := [.ref 8, .int b]) (rest := []) (Ld := [some (.ref 8), some (.int b), none]) (pc' := 11) (st' := [.int y2.1]) (r := some (.int y2.1)) (h1 := zH y2.2 P) rfl rfl rfl rfl rfl rfl rfl rfl rfl (xp_M_placeOf_8 _ _ _ _ hy2) ?_
  refine wp_blk (pc' := 14) (L' := [some (.ref 8), some (.int a), some (.int b), some (.int y1.1), some (.int y2.1)]) (st' := [.int y1.1]) (h' := zH y2.2 P) 2 rfl ?_
  refine wp_lt (a := y1.1) (b := 0) (s1 := (56, [some (.ref 8), some (.int a), some (.int b), some (.int y1.1), some (.int y2.1)], [], zH y2.2 P)) (s2 := (17, [some (.ref 8), some (.int a), some (.int b), some (.int y1.1), some (.int y2.1)], [], zH y2.2 P)) rfl (fun c1 => ?_) (fun c1 => ?_)
  · rw [if_pos c1] at hx
    cases hx
    exact wp_end rfl rfl ⟨rfl, rfl⟩
  · rw [if_neg c1] at hx
    refine wp_blk (pc' := 23) (L' := [some (.ref 8), some (.int a), some (.int b), some (.int y1.1), some (.int y2.1)]) (st' := [.int (Int32.ofNat 6), .int y1.1]) (h' := zH y2.2 P) 4 rfl ?_
    refine wp_ge (a := y1.1) (b := Int32.ofNat 6) (s1 := (56, [some (.ref 8), some (.int a), some (.int b), some (.int y1.1), some (.int y2.1)], [], zH y2.2 P)) (s2 := (26, [some (.ref 8), some (.int a), some (.int b), some (.int y1.1), some (.int y2.1)], [], zH y2.2 P)) rfl (fun c2 => ?_) (fun c2 => ?_)
    · rw [if_pos c2] at hx
      cases hx
      exact wp_end rfl rfl ⟨rfl, rfl⟩
    · rw [if_neg c2] at hx
      refine wp_blk (pc' := 28) (L' := [some (.ref 8), some (.int a), some (.int b), some (.int y1.1), some (.int y2.1)]) (st' := [.int y2.1]) (h' := zH y2.2 P) 1 rfl ?_
      refine wp_lt (a := y2.1) (b := 0) (s1 := (56, [some (.ref 8), some (.int a), some (.int b), some (.int y1.1), some (.int y2.1)], [], zH y2.2 P)) (s2 := (31, [some (.ref 8), some (.int a), some (.int b), some (.int y1.1), some (.int y2.1)], [], zH y2.2 P)) rfl (fun c3 => ?_) (fun c3 => ?_)
      · rw [if_pos c3] at hx
        cases hx
        exact wp_end rfl rfl ⟨rfl, rfl⟩
      · rw [if_neg c3] at hx
        refine wp_blk (pc' := 38) (L' := [some (.ref 8), some (.int a), some (.int b), some (.int y1.1), some (.int y2.1)]) (st' := [.int (Int32.ofNat 6), .int y2.1]) (h' := zH y2.2 P) 4 rfl ?_
        refine wp_ge (a := y2.1) (b := Int32.ofNat 6) (s1 := (56, [some (.ref 8), some (.int a), some (.int b), some (.int y1.1), some (.int y2.1)], [], zH y2.2 P)) (s2 := (41, [some (.ref 8), some (.int a), some (.int b), some (.int y1.1), some (.int y2.1)], [], zH y2.2 P)) rfl (fun c4 => ?_) (fun c4 => ?_)
        · rw [if_pos c4] at hx
          cases hx
          exact wp_end rfl rfl ⟨rfl, rfl⟩
        · rw [if_neg c4] at hx
          refine wp_blk (pc' := 47) (L' := [some (.ref 8), some (.int a), some (.int b), some (.int y1.1), some (.int y2.1)]) (st' := [.int b, .int y1.1, .ref 10]) (h' := zH y2.2 P) 4 rfl ?_
          obtain ⟨c5, hx⟩ := zite hx
          refine wp_chk (P := zinb y1.1 6 = true) (pc' := 48) (L' := [some (.ref 8), some (.int a), some (.int b), some (.int y1.1), some (.int y2.1)]) (st' := []) (h' := zH (zui y2.2 10 y1.1.toNatClampNeg b) P) rfl c5 ?_
          refine wp_blk (pc' := 55) (L' := [some (.ref 8), some (.int a), some (.int b), some (.int y1.1), some (.int y2.1)]) (st' := [.int a, .int y2.1, .ref 10]) (h' := zH (zui y2.2 10 y1.1.toNatClampNeg b) P) 4 rfl ?_
          obtain ⟨c6, hx⟩ := zite hx
          refine wp_chk (P := zinb y2.1 6 = true) (pc' := 56) (L' := [some (.ref 8), some (.int a), some (.int b), some (.int y1.1), some (.int y2.1)]) (st' := []) (h' := zH (zui (zui y2.2 10 y1.1.toNatClampNeg b) 10 y2.1.toNatClampNeg a) P) rfl c6 ?_
          cases hx
          exact wp_end rfl rfl ⟨rfl, rfl⟩
def x_M_copy (m mk ml mt o ok ol ot : Nat) (I : Nat → Nat → Int32) : Option (Int32 × (Nat → Nat → Int32)) := some (0, (zui (zui (zui (zui (zrow (zrow (zrow I mk (va_cpy (I ok) (I mk) 0 0 6)) ml (va_cpy (I ol) (I ml) 0 0 6)) mt (va_cpy (I ot) (I mt) 0 0 36)) m 3 (I o 3)) m 4 (I o 4)) m 5 (I o 5)) m 6 (I o 6)))
set_option maxRecDepth 100000 in
theorem xp_M_copy_8_4 {X : Nat × (Nat → Int32)} (I : Nat → Nat → Int32) (P : Nat → Nat → Option Nat) (r : Int32 × (Nat → Nat → Int32)) (hx : x_M_copy 8 9 10 11 4 5 6 7 I = some r) : Wf X 37 [some (.ref 8), some (.ref 4)] (zH I P) (none) (zH r.2 P) := by
  unfold Wf
  unfold x_M_copy at hx
  refine wp_blk (pc' := 77) (L' := [some (.ref 8), some (.ref 4)]) (st' := []) (h' := zH (zui (zui (zui (zui (zrow (zrow (zrow I 9 (va_cpy (I 5) (I 9) 0 0 6)) 10 (va_cpy (I 6) (I 10) 0 0 6)) 11 (va_cpy (I 7) (I 11) 0 0 36)) 8 3 (I 4 3)) 8 4 (I 4 4)) 8 5 (I 4 5)) 8 6 (I 4 6)) P) 40 rfl ?_
  cases hx
  exact wp_end rfl rfl ⟨rfl, rfl⟩
set_option maxRecDepth 100000 in
theorem xp_M_copy_4_8 {X : Nat × (Nat → Int32)} (I : Nat → Nat → Int32) (P : Nat → Nat → Option Nat) (r : Int32 × (Nat → Nat → Int32)) (hx : x_M_copy 4 5 6 7 8 9 10 11 I = some r) : Wf X 37 [some (.ref 4), some (.ref 8)] (zH I P) (none) (zH r.2 P) := by
  unfold Wf
  unfold x_M_copy at hx
  refine wp_blk (pc' := 77) (L' := [some (.ref 4), some (.ref 8)]) (st' := []) (h' := zH (zui (zui (zui (zui (zrow (zrow (zrow I 5 (va_cpy (I 9) (I 5) 0 0 6)) 6 (va_cpy (I 10) (I 6) 0 0 6)) 7 (va_cpy (I 11) (I 7) 0 0 36)) 4 3 (I 8 3)) 4 4 (I 8 4)) 4 5 (I 8 5)) 4 6 (I 8 6)) P) 40 rfl ?_
  cases hx
  exact wp_end rfl rfl ⟨rfl, rfl⟩
set_option maxRecDepth 100000 in
theorem xp_M_copy_4_21 {X : Nat × (Nat → Int32)} (I : Nat → Nat → Int32) (P : Nat → Nat → Option Nat) (r : Int32 × (Nat → Nat → Int32)) (hx : x_M_copy 4 5 6 7 21 22 23 24 I = some r) : Wf X 37 [some (.ref 4), some (.ref 21)] (zH I P) (none) (zH r.2 P) := by
  unfold Wf
  unfold x_M_copy at hx
  refine wp_blk (pc' := 77) (L' := [some (.ref 4), some (.ref 21)]) (st' := []) (h' := zH (zui (zui (zui (zui (zrow (zrow (zrow I 5 (va_cpy (I 22) (I 5) 0 0 6)) 6 (va_cpy (I 23) (I 6) 0 0 6)) 7 (va_cpy (I 24) (I 7) 0 0 36)) 4 3 (I 21 3)) 4 4 (I 21 4)) 4 5 (I 21 5)) 4 6 (I 21 6)) P) 40 rfl ?_
  cases hx
  exact wp_end rfl rfl ⟨rfl, rfl⟩
set_option maxRecDepth 100000 in
theorem xp_M_copy_4_25 {X : Nat × (Nat → Int32)} (I : Nat → Nat → Int32) (P : Nat → Nat → Option Nat) (r : Int32 × (Nat → Nat → Int32)) (hx : x_M_copy 4 5 6 7 25 26 27 28 I = some r) : Wf X 37 [some (.ref 4), some (.ref 25)] (zH I P) (none) (zH r.2 P) := by
  unfold Wf
  unfold x_M_copy at hx
  refine wp_blk (pc' := 77) (L' := [some (.ref 4), some (.ref 25)]) (st' := []) (h' := zH (zui (zui (zui (zui (zrow (zrow (zrow I 5 (va_cpy (I 26) (I 5) 0 0 6)) 6 (va_cpy (I 27) (I 6) 0 0 6)) 7 (va_cpy (I 28) (I 7) 0 0 36)) 4 3 (I 25 3)) 4 4 (I 25 4)) 4 5 (I 25 5)) 4 6 (I 25 6)) P) 40 rfl ?_
  cases hx
  exact wp_end rfl rfl ⟨rfl, rfl⟩
set_option maxRecDepth 100000 in
theorem xp_M_copy_4_29 {X : Nat × (Nat → Int32)} (I : Nat → Nat → Int32) (P : Nat → Nat → Option Nat) (r : Int32 × (Nat → Nat → Int32)) (hx : x_M_copy 4 5 6 7 29 30 31 32 I = some r) : Wf X 37 [some (.ref 4), some (.ref 29)] (zH I P) (none) (zH r.2 P) := by
  unfold Wf
  unfold x_M_copy at hx
  refine wp_blk (pc' := 77) (L' := [some (.ref 4), some (.ref 29)]) (st' := []) (h' := zH (zui (zui (zui (zui (zrow (zrow (zrow I 5 (va_cpy (I 30) (I 5) 0 0 6)) 6 (va_cpy (I 31) (I 6) 0 0 6)) 7 (va_cpy (I 32) (I 7) 0 0 36)) 4 3 (I 29 3)) 4 4 (I 29 4)) 4 5 (I 29 5)) 4 6 (I 29 6)) P) 40 rfl ?_
  cases hx
  exact wp_end rfl rfl ⟨rfl, rfl⟩
set_option maxRecDepth 100000 in
theorem xp_M_copy_4_33 {X : Nat × (Nat → Int32)} (I : Nat → Nat → Int32) (P : Nat → Nat → Option Nat) (r : Int32 × (Nat → Nat → Int32)) (hx : x_M_copy 4 5 6 7 33 34 35 36 I = some r) : Wf X 37 [some (.ref 4), some (.ref 33)] (zH I P) (none) (zH r.2 P) := by
  unfold Wf
  unfold x_M_copy at hx
  refine wp_blk (pc' := 77) (L' := [some (.ref 4), some (.ref 33)]) (st' := []) (h' := zH (zui (zui (zui (zui (zrow (zrow (zrow I 5 (va_cpy (I 34) (I 5) 0 0 6)) 6 (va_cpy (I 35) (I 6) 0 0 6)) 7 (va_cpy (I 36) (I 7) 0 0 36)) 4 3 (I 33 3)) 4 4 (I 33 4)) 4 5 (I 33 5)) 4 6 (I 33 6)) P) 40 rfl ?_
  cases hx
  exact wp_end rfl rfl ⟨rfl, rfl⟩
set_option maxRecDepth 100000 in
theorem xp_M_copy_4_37 {X : Nat × (Nat → Int32)} (I : Nat → Nat → Int32) (P : Nat → Nat → Option Nat) (r : Int32 × (Nat → Nat → Int32)) (hx : x_M_copy 4 5 6 7 37 38 39 40 I = some r) : Wf X 37 [some (.ref 4), some (.ref 37)] (zH I P) (none) (zH r.2 P) := by
  unfold Wf
  unfold x_M_copy at hx
  refine wp_blk (pc' := 77) (L' := [some (.ref 4), some (.ref 37)]) (st' := []) (h' := zH (zui (zui (zui (zui (zrow (zrow (zrow I 5 (va_cpy (I 38) (I 5) 0 0 6)) 6 (va_cpy (I 39) (I 6) 0 0 6)) 7 (va_cpy (I 40) (I 7) 0 0 36)) 4 3 (I 37 3)) 4 4 (I 37 4)) 4 5 (I 37 5)) 4 6 (I 37 6)) P) 40 rfl ?_
  cases hx
  exact wp_end rfl rfl ⟨rfl, rfl⟩
set_option maxRecDepth 100000 in
theorem xp_M_copy_4_41 {X : Nat × (Nat → Int32)} (I : Nat → Nat → Int32) (P : Nat → Nat → Option Nat) (r : Int32 × (Nat → Nat → Int32)) (hx : x_M_copy 4 5 6 7 41 42 43 44 I = some r) : Wf X 37 [some (.ref 4), some (.ref 41)] (zH I P) (none) (zH r.2 P) := by
  unfold Wf
  unfold x_M_copy at hx
  refine wp_blk (pc' := 77) (L' := [some (.ref 4), some (.ref 41)]) (st' := []) (h' := zH (zui (zui (zui (zui (zrow (zrow (zrow I 5 (va_cpy (I 42) (I 5) 0 0 6)) 6 (va_cpy (I 43) (I 6) 0 0 6)) 7 (va_cpy (I 44) (I 7) 0 0 36)) 4 3 (I 41 3)) 4 4 (I 41 4)) 4 5 (I 41 5)) 4 6 (I 41 6)) P) 40 rfl ?_
  cases hx
  exact wp_end rfl rfl ⟨rfl, rfl⟩
set_option maxRecDepth 100000 in
theorem xp_M_copy_4_45 {X : Nat × (Nat → Int32)} (I : Nat → Nat → Int32) (P : Nat → Nat → Option Nat) (r : Int32 × (Nat → Nat → Int32)) (hx : x_M_copy 4 5 6 7 45 46 47 48 I = some r) : Wf X 37 [some (.ref 4), some (.ref 45)] (zH I P) (none) (zH r.2 P) := by
  unfold Wf
  unfold x_M_copy at hx
  refine wp_blk (pc' := 77) (L' := [some (.ref 4), some (.ref 45)]) (st' := []) (h' := zH (zui (zui (zui (zui (zrow (zrow (zrow I 5 (va_cpy (I 46) (I 5) 0 0 6)) 6 (va_cpy (I 47) (I 6) 0 0 6)) 7 (va_cpy (I 48) (I 7) 0 0 36)) 4 3 (I 45 3)) 4 4 (I 45 4)) 4 5 (I 45 5)) 4 6 (I 45 6)) P) 40 rfl ?_
  cases hx
  exact wp_end rfl rfl ⟨rfl, rfl⟩
set_option maxRecDepth 100000 in
theorem xp_M_copy_4_49 {X : Nat × (Nat → Int32)} (I : Nat → Nat → Int32) (P : Nat → Nat → Option Nat) (r : Int32 × (Nat → Nat → Int32)) (hx : x_M_copy 4 5 6 7 49 50 51 52 I = some r) : Wf X 37 [some (.ref 4), some (.ref 49)] (zH I P) (none) (zH r.2 P) := by
  unfold Wf
  unfold x_M_copy at hx
  refine wp_blk (pc' := 77) (L' := [some (.ref 4), some (.ref 49)]) (st' := []) (h' := zH (zui (zui (zui (zui (zrow (zrow (zrow I 5 (va_cpy (I 50) (I 5) 0 0 6)) 6 (va_cpy (I 51) (I 6) 0 0 6)) 7 (va_cpy (I 52) (I 7) 0 0 36)) 4 3 (I 49 3)) 4 4 (I 49 4)) 4 5 (I 49 5)) 4 6 (I 49 6)) P) 40 rfl ?_
  cases hx
  exact wp_end rfl rfl ⟨rfl, rfl⟩
set_option maxRecDepth 100000 in
theorem xp_M_copy_4_55 {X : Nat × (Nat → Int32)} (I : Nat → Nat → Int32) (P : Nat → Nat → Option Nat) (r : Int32 × (Nat → Nat → Int32)) (hx : x_M_copy 4 5 6 7 55 56 57 58 I = some r) : Wf X 37 [some (.ref 4), some (.ref 55)] (zH I P) (none) (zH r.2 P) := by
  unfold Wf
  unfold x_M_copy at hx
  refine wp_blk (pc' := 77) (L' := [some (.ref 4), some (.ref 55)]) (st' := []) (h' := zH (zui (zui (zui (zui (zrow (zrow (zrow I 5 (va_cpy (I 56) (I 5) 0 0 6)) 6 (va_cpy (I 57) (I 6) 0 0 6)) 7 (va_cpy (I 58) (I 7) 0 0 36)) 4 3 (I 55 3)) 4 4 (I 55 4)) 4 5 (I 55 5)) 4 6 (I 55 6)) P) 40 rfl ?_
  cases hx
  exact wp_end rfl rfl ⟨rfl, rfl⟩
set_option maxRecDepth 100000 in
theorem xp_M_copy_4_59 {X : Nat × (Nat → Int32)} (I : Nat → Nat → Int32) (P : Nat → Nat → Option Nat) (r : Int32 × (Nat → Nat → Int32)) (hx : x_M_copy 4 5 6 7 59 60 61 62 I = some r) : Wf X 37 [some (.ref 4), some (.ref 59)] (zH I P) (none) (zH r.2 P) := by
  unfold Wf
  unfold x_M_copy at hx
  refine wp_blk (pc' := 77) (L' := [some (.ref 4), some (.ref 59)]) (st' := []) (h' := zH (zui (zui (zui (zui (zrow (zrow (zrow I 5 (va_cpy (I 60) (I 5) 0 0 6)) 6 (va_cpy (I 61) (I 6) 0 0 6)) 7 (va_cpy (I 62) (I 7) 0 0 36)) 4 3 (I 59 3)) 4 4 (I 59 4)) 4 5 (I 59 5)) 4 6 (I 59 6)) P) 40 rfl ?_
  cases hx
  exact wp_end rfl rfl ⟨rfl, rfl⟩
set_option maxRecDepth 100000 in
theorem xp_M_copy_21_4 {X : Nat × (Nat → Int32)} (I : Nat → Nat → Int32) (P : Nat → Nat → Option Nat) (r : Int32 × (Nat → Nat → Int32)) (hx : x_M_copy 21 22 23 24 4 5 6 7 I = some r) : Wf X 37 [some (.ref 21), some (.ref 4)] (zH I P) (none) (zH r.2 P) := by
  unfold Wf
  unfold x_M_copy at hx
  refine wp_blk (pc' := 77) (L' := [some (.ref 21), some (.ref 4)]) (st' := []) (h' := zH (zui (zui (zui (zui (zrow (zrow (zrow I 22 (va_cpy (I 5) (I 22) 0 0 6)) 23 (va_cpy (I 6) (I 23) 0 0 6)) 24 (va_cpy (I 7) (I 24) 0 0 36)) 21 3 (I 4 3)) 21 4 (I 4 4)) 21 5 (I 4 5)) 21 6 (I 4 6)) P) 40 rfl ?_
  cases hx
  exact wp_end rfl rfl ⟨rfl, rfl⟩
set_option maxRecDepth 100000 in
theorem xp_M_copy_25_4 {X : Nat × (Nat → Int32)} (I : Nat → Nat → Int32) (P : Nat → Nat → Option Nat) (r : Int32 × (Nat → Nat → Int32)) (hx : x_M_copy 25 26 27 28 4 5 6 7 I = some r) : Wf X 37 [some (.ref 25), some (.ref 4)] (zH I P) (none) (zH r.2 P) := by
  unfold Wf
  unfold x_M_copy at hx
  refine wp_blk (pc' := 77) (L' := [some (.ref 25), some (.ref 4)]) (st' := []) (h' := zH (zui (zui (zui (zui (zrow (zrow (zrow I 26 (va_cpy (I 5) (I 26) 0 0 6)) 27 (va_cpy (I 6) (I 27) 0 0 6)) 28 (va_cpy (I 7) (I 28) 0 0 36)) 25 3 (I 4 3)) 25 4 (I 4 4)) 25 5 (I 4 5)) 25 6 (I 4 6)) P) 40 rfl ?_
  cases hx
  exact wp_end rfl rfl ⟨rfl, rfl⟩
set_option maxRecDepth 100000 in
theorem xp_M_copy_29_4 {X : Nat × (Nat → Int32)} (I : Nat → Nat → Int32) (P : Nat → Nat → Option Nat) (r : Int32 × (Nat → Nat → Int32)) (hx : x_M_copy 29 30 31 32 4 5 6 7 I = some r) : Wf X 37 [some (.ref 29), some (.ref 4)] (zH I P) (none) (zH r.2 P) := by
  unfold Wf
  unfold x_M_copy at hx
  refine wp_blk (pc' := 77) (L' := [some (.ref 29), some (.ref 4)]) (st' := []) (h' := zH (zui (zui (zui (zui (zrow (zrow (zrow I 30 (va_cpy (I 5) (I 30) 0 0 6)) 31 (va_cpy (I 6) (I 31) 0 0 6)) 32 (va_cpy (I 7) (I 32) 0 0 36)) 29 3 (I 4 3)) 29 4 (I 4 4)) 29 5 (I 4 5)) 29 6 (I 4 6)) P) 40 rfl ?_
  cases hx
  exact wp_end rfl rfl ⟨rfl, rfl⟩
set_option maxRecDepth 100000 in
theorem xp_M_copy_33_4 {X : Nat × (Nat → Int32)} (I : Nat → Nat → Int32) (P : Nat → Nat → Option Nat) (r : Int32 × (Nat → Nat → Int32)) (hx : x_M_copy 33 34 35 36 4 5 6 7 I = some r) : Wf X 37 [some (.ref 33), some (.ref 4)] (zH I P) (none) (zH r.2 P) := by
  unfold Wf
  unfold x_M_copy at hx
  refine wp_blk (pc' := 77) (L' := [some (.ref 33), some (.ref 4)]) (st' := []) (h' := zH (zui (zui (zui (zui (zrow (zrow (zrow I 34 (va_cpy (I 5) (I 34) 0 0 6)) 35 (va_cpy (I 6) (I 35) 0 0 6)) 36 (va_cpy (I 7) (I 36) 0 0 36)) 33 3 (I 4 3)) 33 4 (I 4 4)) 33 5 (I 4 5)) 33 6 (I 4 6)) P) 40 rfl ?_
  cases hx
  exact wp_end rfl rfl ⟨rfl, rfl⟩
set_option maxRecDepth 100000 in
theorem xp_M_copy_37_4 {X : Nat × (Nat → Int32)} (I : Nat → Nat → Int32) (P : Nat → Nat → Option Nat) (r : Int32 × (Nat → Nat → Int32)) (hx : x_M_copy 37 38 39 40 4 5 6 7 I = some r) : Wf X 37 [some (.ref 37), some (.ref 4)] (zH I P) (none) (zH r.2 P) := by
  unfold Wf
  unfold x_M_copy at hx
  refine wp_blk (pc' := 77) (L' := [some (.ref 37), some (.ref 4)]) (st' := []) (h' := zH (zui (zui (zui (zui (zrow (zrow (zrow I 38 (va_cpy (I 5) (I 38) 0 0 6)) 39 (va_cpy (I 6) (I 39) 0 0 6)) 40 (va_cpy (I 7) (I 40) 0 0 36)) 37 3 (I 4 3)) 37 4 (I 4 4)) 37 5 (I 4 5)) 37 6 (I 4 6)) P) 40 rfl ?_
  cases hx
  exact wp_end rfl rfl ⟨rfl, rfl⟩
set_option maxRecDepth 100000 in
theorem xp_M_copy_41_4 {X : Nat × (Nat → Int32)} (I : Nat → Nat → Int32) (P : Nat → Nat → Option Nat) (r : Int32 × (Nat → Nat → Int32)) (hx : x_M_copy 41 42 43 44 4 5 6 7 I = some r) : Wf X 37 [some (.ref 41), some (.ref 4)] (zH I P) (none) (zH r.2 P) := by
  unfold Wf
  unfold x_M_copy at hx
  refine wp_blk (pc' := 77) (L' := [some (.ref 41), some (.ref 4)]) (st' := []) (h' := zH (zui (zui (zui (zui (zrow (zrow (zrow I 42 (va_cpy (I 5) (I 42) 0 0 6)) 43 (va_cpy (I 6) (I 43) 0 0 6)) 44 (va_cpy (I 7) (I 44) 0 0 36)) 41 3 (I 4 3)) 41 4 (I 4 4)) 41 5 (I 4 5)) 41 6 (I 4 6)) P) 40 rfl ?_
  cases hx
  exact wp_end rfl rfl ⟨rfl, rfl⟩
set_option maxRecDepth 100000 in
theorem xp_M_copy_45_4 {X : Nat × (Nat → Int32)} (I : Nat → Nat → Int32) (P : Nat → Nat → Option Nat) (r : Int32 × (Nat → Nat → Int32)) (hx : x_M_copy 45 46 47 48 4 5 6 7 I = some r) : Wf X 37 [some (.ref 45), some (.ref 4)] (zH I P) (none) (zH r.2 P) := by
  unfold Wf
  unfold x_M_copy at hx
  refine wp_blk (pc' := 77) (L' := [some (.ref 45), some (.ref 4)]) (st' := []) (h' := zH (zui (zui (zui (zui (zrow (zrow (zrow I 46 (va_cpy (I 5) (I 46) 0 0 6)) 47 (va_cpy (I 6) (I 47) 0 0 6)) 48 (va_cpy (I 7) (I 48) 0 0 36)) 45 3 (I 4 3)) 45 4 (I 4 4)) 45 5 (I 4 5)) 45 6 (I 4 6)) P) 40 rfl ?_
  cases hx
  exact wp_end rfl rfl ⟨rfl, rfl⟩
set_option maxRecDepth 100000 in
theorem xp_M_copy_49_4 {X : Nat × (Nat → Int32)} (I : Nat → Nat → Int32) (P : Nat → Nat → Option Nat) (r : Int32 × (Nat → Nat → Int32)) (hx : x_M_copy 49 50 51 52 4 5 6 7 I = some r) : Wf X 37 [some (.ref 49), some (.ref 4)] (zH I P) (none) (zH r.2 P) := by
  unfold Wf
  unfold x_M_copy at hx
  refine wp_blk (pc' := 77) (L' := [some (.ref 49), some (.ref 4)]) (st' := []) (h' := zH (zui (zui (zui (zui (zrow (zrow (zrow I 50 (va_cpy (I 5) (I 50) 0 0 6)) 51 (va_cpy (I 6) (I 51) 0 0 6)) 52 (va_cpy (I 7) (I 52) 0 0 36)) 49 3 (I 4 3)) 49 4 (I 4 4)) 49 5 (I 4 5)) 49 6 (I 4 6)) P) 40 rfl ?_
  cases hx
  exact wp_end rfl rfl ⟨rfl, rfl⟩
set_option maxRecDepth 100000 in
theorem xp_M_copy_55_4 {X : Nat × (Nat → Int32)} (I : Nat → Nat → Int32) (P : Nat → Nat → Option Nat) (r : Int32 × (Nat → Nat → Int32)) (hx : x_M_copy 55 56 57 58 4 5 6 7 I = some r) : Wf X 37 [some (.ref 55), some (.ref 4)] (zH I P) (none) (zH r.2 P) := by
  unfold Wf
  unfold x_M_copy at hx
  refine wp_blk (pc' := 77) (L' := [some (.ref 55), some (.ref 4)]) (st' := []) (h' := zH (zui (zui (zui (zui (zrow (zrow (zrow I 56 (va_cpy (I 5) (I 56) 0 0 6)) 57 (va_cpy (I 6) (I 57) 0 0 6)) 58 (va_cpy (I 7) (I 58) 0 0 36)) 55 3 (I 4 3)) 55 4 (I 4 4)) 55 5 (I 4 5)) 55 6 (I 4 6)) P) 40 rfl ?_
  cases hx
  exact wp_end rfl rfl ⟨rfl, rfl⟩
set_option maxRecDepth 100000 in
theorem xp_M_copy_59_4 {X : Nat × (Nat → Int32)} (I : Nat → Nat → Int32) (P : Nat → Nat → Option Nat) (r : Int32 × (Nat → Nat → Int32)) (hx : x_M_copy 59 60 61 62 4 5 6 7 I = some r) : Wf X 37 [some (.ref 59), some (.ref 4)] (zH I P) (none) (zH r.2 P) := by
  unfold Wf
  unfold x_M_copy at hx
  refine wp_blk (pc' := 77) (L' := [some (.ref 59), some (.ref 4)]) (st' := []) (h' := zH (zui (zui (zui (zui (zrow (zrow (zrow I 60 (va_cpy (I 5) (I 60) 0 0 6)) 61 (va_cpy (I 6) (I 61) 0 0 6)) 62 (va_cpy (I 7) (I 62) 0 0 36)) 59 3 (I 4 3)) 59 4 (I 4 4)) 59 5 (I 4 5)) 59 6 (I 4 6)) P) 40 rfl ?_
  cases hx
  exact wp_end rfl rfl ⟨rfl, rfl⟩
def f_S_size (I : Nat → Nat → Int32) : Int32 := I 1 2
set_option maxRecDepth 100000 in
theorem sp_S_size {X : Nat × (Nat → Int32)} (I : Nat → Nat → Int32) (P : Nat → Nat → Option Nat) : Wf X 32 [some (.ref 1)] (zH I P) (some (.int (f_S_size I))) (zH I P) := by
  unfold Wf
  refine wp_blk (pc' := 4) (L' := [some (.ref 1)]) (st' := [.int (I 1 2)]) (h' := zH I P) 2 rfl ?_
  exact wp_end rfl rfl ⟨rfl, rfl⟩
def f_S_isFull (I : Nat → Nat → Int32) : Int32 := if I 1 2 < Int32.ofNat 200 then 0 else 1
theorem fb_S_isFull (I : Nat → Nat → Int32) : f_S_isFull I = 1 ∨ f_S_isFull I = 0 := by
  unfold f_S_isFull
  (repeat' split) <;> first | exact Or.inl rfl | exact Or.inr rfl
set_option maxRecDepth 100000 in
theorem sp_S_isFull {X : Nat × (Nat → Int32)} (I : Nat → Nat → Int32) (P : Nat → Nat → Option Nat) : Wf X 31 [some (.ref 1)] (zH I P) (some (.int (f_S_isFull I))) (zH I P) := by
  unfold Wf
  refine wp_blk (pc' := 9) (L' := [some (.ref 1)]) (st' := [.int (Int32.ofNat 200), .int (I 1 2)]) (h' := zH I P) 5 rfl ?_
  refine wp_lt (a := I 1 2) (b := Int32.ofNat 200) (s1 := (16, [some (.ref 1)], [], zH I P)) (s2 := (12, [some (.ref 1)], [], zH I P)) rfl (fun c1 => ?_) (fun c1 => ?_)
  · refine wp_blk (pc' := 17) (L' := [some (.ref 1)]) (st' := [.int 0]) (h' := zH I P) 1 rfl ?_
    exact wp_end rfl rfl ⟨by rw [f_S_isFull, if_pos c1], rfl⟩
  · refine wp_blk (pc' := 17) (L' := [some (.ref 1)]) (st' := [.int 1]) (h' := zH I P) 2 rfl ?_
    exact wp_end rfl rfl ⟨by rw [f_S_isFull, if_neg c1], rfl⟩
def g_S_clear (I : Nat → Nat → Int32) : Nat → Nat → Int32 := (zui I 1 2 0)
set_option maxRecDepth 100000 in
theorem sp_S_clear {X : Nat × (Nat → Int32)} (I : Nat → Nat → Int32) (P : Nat → Nat → Option Nat) : Wf X 29 [some (.ref 1)] (zH I P) none (zH (g_S_clear I) P) := by
  unfold Wf
  refine wp_blk (pc' := 5) (L' := [some (.ref 1)]) (st' := []) (h' := zH (zui I 1 2 0) P) 3 rfl ?_
  exact wp_end rfl rfl ⟨rfl, rfl⟩
set_option maxRecDepth 100000 in
theorem sp_S_clear_G {X : Nat × (Nat → Int32)} (I : Nat → Nat → Int32) (P : Nat → Nat → Option Nat) : Wf X 29 [some (.ref 1)] (zG I P) none (zG (g_S_clear I) P) := by
  unfold Wf
  refine wp_blk (pc' := 5) (L' := [some (.ref 1)]) (st' := []) (h' := zG (zui I 1 2 0) P) 3 rfl ?_
  exact wp_end rfl rfl ⟨rfl, rfl⟩
def g_S_add (I : Nat → Nat → Int32) (l : Int32) : Nat → Nat → Int32 := if I 1 2 < 0 then I else (if Int32.ofNat 200 ≤ I 1 2 then I else (zui (zui I 2 ((I 1 2).toNatClampNeg) (vp_nar .char (((l : Int32).toUInt32 % 65536).toInt32))) 1 2 ((I 1 2) + 1)))
set_option maxRecDepth 100000 in
theorem sp_S_add {X : Nat × (Nat → Int32)} (I : Nat → Nat → Int32) (P : Nat → Nat → Option Nat) (l : Int32) : Wf X 13 [some (.ref 1), some (.int l)] (zH I P) none (zH (g_S_add I l) P) := by
  unfold Wf
  refine wp_blk (pc' := 4) (L' := [some (.ref 1), some (.int l)]) (st' := [.int (I 1 2)]) (h' := zH I P) 2 rfl ?_
  refine wp_lt (a := I 1 2) (b := 0) (s1 := (40, [some (.ref 1), some (.int l)], [], zH I P)) (s2 := (7, [some (.ref 1), some (.int l)], [], zH I P)) rfl (fun c1 => ?_) (fun c1 => ?_)
  · exact wp_end rfl rfl ⟨rfl, by rw [g_S_add, if_pos c1]⟩
  · refine wp_blk (pc' := 16) (L' := [some (.ref 1), some (.int l)]) (st' := [.int (Int32.ofNat 200), .int (I 1 2)]) (h' := zH I P) 5 rfl ?_
    refine wp_ge (a := I 1 2) (b := Int32.ofNat 200) (s1 := (40, [some (.ref 1), some (.int l)], [], zH I P)) (s2 := (19, [some (.ref 1), some (.int l)], [], zH I P)) rfl (fun c2 => ?_) (fun c2 => ?_)
    · exact wp_end rfl rfl ⟨rfl, by rw [g_S_add, if_neg c1, if_pos c2]⟩
    · refine wp_blk (pc' := 29) (L' := [some (.ref 1), some (.int l)]) (st' := [.int (((l : Int32).toUInt32 % 65536).toInt32), .int (I 1 2), .ref 2]) (h' := zH I P) 6 rfl ?_
      refine wp_chk (P := zinb (I 1 2) 200 = true) (pc' := 30) (L' := [some (.ref 1), some (.int l)]) (st' := []) (h' := zH (zui I 2 ((I 1 2).toNatClampNeg) (vp_nar .char (((l : Int32).toUInt32 % 65536).toInt32))) P) rfl (by exact zinb_a (by assumption) (by assumption)) ?_
      refine wp_blk (pc' := 40) (L' := [some (.ref 1), some (.int l)]) (st' := []) (h' := zH (zui (zui I 2 ((I 1 2).toNatClampNeg) (vp_nar .char (((l : Int32).toUInt32 % 65536).toInt32))) 1 2 ((I 1 2) + 1)) P) 6 rfl ?_
      exact wp_end rfl rfl ⟨rfl, by rw [g_S_add, if_neg c1, if_neg c2]⟩
set_option maxRecDepth 100000 in
theorem sp_S_add_G {X : Nat × (Nat → Int32)} (I : Nat → Nat → Int32) (P : Nat → Nat → Option Nat) (l : Int32) : Wf X 13 [some (.ref 1), some (.int l)] (zG I P) none (zG (g_S_add I l) P) := by
  unfold Wf
  refine wp_blk (pc' := 4) (L' := [some (.ref 1), some (.int l)]) (st' := [.int (I 1 2)]) (h' := zG I P) 2 rfl ?_
  refine wp_lt (a := I 1 2) (b := 0) (s1 := (40, [some (.ref 1), some (.int l)], [], zG I P)) (s2 := (7, [some (.ref 1), some (.int l)], [], zG I P)) rfl (fun c1 => ?_) (fun c1 => ?_)
  · exact wp_end rfl rfl ⟨rfl, by rw [g_S_add, if_pos c1]⟩
  · refine wp_blk (pc' := 16) (L' := [some (.ref 1), some (.int l)]) (st' := [.int (Int32.ofNat 200), .int (I 1 2)]) (h' := zG I P) 5 rfl ?_
    refine wp_ge (a := I 1 2) (b := Int32.ofNat 200) (s1 := (40, [some (.ref 1), some (.int l)], [], zG I P)) (s2 := (19, [some (.ref 1), some (.int l)], [], zG I P)) rfl (fun c2 => ?_) (fun c2 => ?_)
    · exact wp_end rfl rfl ⟨rfl, by rw [g_S_add, if_neg c1, if_pos c2]⟩
    · refine wp_blk (pc' := 29) (L' := [some (.ref 1), some (.int l)]) (st' := [.int (((l : Int32).toUInt32 % 65536).toInt32), .int (I 1 2), .ref 2]) (h' := zG I P) 6 rfl ?_
      refine wp_chk (P := zinb (I 1 2) 200 = true) (pc' := 30) (L' := [some (.ref 1), some (.int l)]) (st' := []) (h' := zG (zui I 2 ((I 1 2).toNatClampNeg) (vp_nar .char (((l : Int32).toUInt32 % 65536).toInt32))) P) rfl (by exact zinb_a (by assumption) (by assumption)) ?_
      refine wp_blk (pc' := 40) (L' := [some (.ref 1), some (.int l)]) (st' := []) (h' := zG (zui (zui I 2 ((I 1 2).toNatClampNeg) (vp_nar .char (((l : Int32).toUInt32 % 65536).toInt32))) 1 2 ((I 1 2) + 1)) P) 6 rfl ?_
      exact wp_end rfl rfl ⟨rfl, by rw [g_S_add, if_neg c1, if_neg c2]⟩
def f_S_letterAt (I : Nat → Nat → Int32) (p : Int32) : Int32 := if p < 0 then 0 else (if I 1 2 ≤ p then 0 else (if Int32.ofNat 200 ≤ p then 0 else (I 2 p.toNatClampNeg)))
set_option maxRecDepth 100000 in
theorem sp_S_letterAt {X : Nat × (Nat → Int32)} (I : Nat → Nat → Int32) (P : Nat → Nat → Option Nat) (p : Int32) : Wf X 18 [some (.ref 1), some (.int p)] (zH I P) (some (.int (f_S_letterAt I p))) (zH I P) := by
  unfold Wf
  refine wp_blk (pc' := 1) (L' := [some (.ref 1), some (.int p)]) (st' := [.int p]) (h' := zH I P) 1 rfl ?_
  refine wp_lt (a := p) (b := 0) (s1 := (30, [some (.ref 1), some (.int p)], [], zH I P)) (s2 := (4, [some (.ref 1), some (.int p)], [], zH I P)) rfl (fun c1 => ?_) (fun c1 => ?_)
  · refine wp_blk (pc' := 31) (L' := [some (.ref 1), some (.int p)]) (st' := [.int 0]) (h' := zH I P) 1 rfl ?_
    exact wp_end rfl rfl ⟨by rw [f_S_letterAt, if_pos c1], rfl⟩
  · refine wp_blk (pc' := 9) (L' := [some (.ref 1), some (.int p)]) (st' := [.int (I 1 2), .int p]) (h' := zH I P) 3 rfl ?_
    refine wp_ge (a := p) (b := I 1 2) (s1 := (30, [some (.ref 1), some (.int p)], [], zH I P)) (s2 := (12, [some (.ref 1), some (.int p)], [], zH I P)) rfl (fun c2 => ?_) (fun c2 => ?_)
    · refine wp_blk (pc' := 31) (L' := [some (.ref 1), some (.int p)]) (st' := [.int 0]) (h' := zH I P) 1 rfl ?_
      exact wp_end rfl rfl ⟨by rw [f_S_letterAt, if_neg c1, if_pos c2], rfl⟩
    · refine wp_blk (pc' := 18) (L' := [some (.ref 1), some (.int p)]) (st' := [.int (Int32.ofNat 200), .int p]) (h' := zH I P) 4 rfl ?_
      refine wp_ge (a := p) (b := Int32.ofNat 200) (s1 := (30, [some (.ref 1), some (.int p)], [], zH I P)) (s2 := (21, [some (.ref 1), some (.int p)], [], zH I P)) rfl (fun c3 => ?_) (fun c3 => ?_)
      · refine wp_blk (pc' := 31) (L' := [some (.ref 1), some (.int p)]) (st' := [.int 0]) (h' := zH I P) 1 rfl ?_
        exact wp_end rfl rfl ⟨by rw [f_S_letterAt, if_neg c1, if_neg c2, if_pos c3], rfl⟩
      · refine wp_blk (pc' := 26) (L' := [some (.ref 1), some (.int p)]) (st' := [.int p, .ref 2]) (h' := zH I P) 3 rfl ?_
        refine wp_chk (P := zinb p 200 = true) (pc' := 27) (L' := [some (.ref 1), some (.int p)]) (st' := [.int (I 2 p.toNatClampNeg)]) (h' := zH I P) rfl (by exact zinb_a (by assumption) (by assumption)) ?_
        refine wp_blk (pc' := 31) (L' := [some (.ref 1), some (.int p)]) (st' := [.int (I 2 p.toNatClampNeg)]) (h' := zH I P) 1 rfl ?_
        exact wp_end rfl rfl ⟨by rw [f_S_letterAt, if_neg c1, if_neg c2, if_neg c3], rfl⟩
set_option maxRecDepth 100000 in
theorem sp_S_letterAt_G {X : Nat × (Nat → Int32)} (I : Nat → Nat → Int32) (P : Nat → Nat → Option Nat) (p : Int32) : Wf X 18 [some (.ref 1), some (.int p)] (zG I P) (some (.int (f_S_letterAt I p))) (zG I P) := by
  unfold Wf
  refine wp_blk (pc' := 1) (L' := [some (.ref 1), some (.int p)]) (st' := [.int p]) (h' := zG I P) 1 rfl ?_
  refine wp_lt (a := p) (b := 0) (s1 := (30, [some (.ref 1), some (.int p)], [], zG I P)) (s2 := (4, [some (.ref 1), some (.int p)], [], zG I P)) rfl (fun c1 => ?_) (fun c1 => ?_)
  · refine wp_blk (pc' := 31) (L' := [some (.ref 1), some (.int p)]) (st' := [.int 0]) (h' := zG I P) 1 rfl ?_
    exact wp_end rfl rfl ⟨by rw [f_S_letterAt, if_pos c1], rfl⟩
  · refine wp_blk (pc' := 9) (L' := [some (.ref 1), some (.int p)]) (st' := [.int (I 1 2), .int p]) (h' := zG I P) 3 rfl ?_
    refine wp_ge (a := p) (b := I 1 2) (s1 := (30, [some (.ref 1), some (.int p)], [], zG I P)) (s2 := (12, [some (.ref 1), some (.int p)], [], zG I P)) rfl (fun c2 => ?_) (fun c2 => ?_)
    · refine wp_blk (pc' := 31) (L' := [some (.ref 1), some (.int p)]) (st' := [.int 0]) (h' := zG I P) 1 rfl ?_
      exact wp_end rfl rfl ⟨by rw [f_S_letterAt, if_neg c1, if_pos c2], rfl⟩
    · refine wp_blk (pc' := 18) (L' := [some (.ref 1), some (.int p)]) (st' := [.int (Int32.ofNat 200), .int p]) (h' := zG I P) 4 rfl ?_
      refine wp_ge (a := p) (b := Int32.ofNat 200) (s1 := (30, [some (.ref 1), some (.int p)], [], zG I P)) (s2 := (21, [some (.ref 1), some (.int p)], [], zG I P)) rfl (fun c3 => ?_) (fun c3 => ?_)
      · refine wp_blk (pc' := 31) (L' := [some (.ref 1), some (.int p)]) (st' := [.int 0]) (h' := zG I P) 1 rfl ?_
        exact wp_end rfl rfl ⟨by rw [f_S_letterAt, if_neg c1, if_neg c2, if_pos c3], rfl⟩
      · refine wp_blk (pc' := 26) (L' := [some (.ref 1), some (.int p)]) (st' := [.int p, .ref 2]) (h' := zG I P) 3 rfl ?_
        refine wp_chk (P := zinb p 200 = true) (pc' := 27) (L' := [some (.ref 1), some (.int p)]) (st' := [.int (I 2 p.toNatClampNeg)]) (h' := zG I P) rfl (by exact zinb_a (by assumption) (by assumption)) ?_
        refine wp_blk (pc' := 31) (L' := [some (.ref 1), some (.int p)]) (st' := [.int (I 2 p.toNatClampNeg)]) (h' := zG I P) 1 rfl ?_
        exact wp_end rfl rfl ⟨by rw [f_S_letterAt, if_neg c1, if_neg c2, if_neg c3], rfl⟩
def f_S_figureAt (I : Nat → Nat → Int32) (p : Int32) : Int32 := if f_S_letterAt I p < 48 then (-1) else (if 57 < f_S_letterAt I p then (-1) else ((f_S_letterAt I p) - 48))
set_option maxRecDepth 100000 in
theorem sp_S_figureAt {X : Nat × (Nat → Int32)} (I : Nat → Nat → Int32) (P : Nat → Nat → Option Nat) (p : Int32) : Wf X 21 [some (.ref 1), some (.int p), none] (zH I P) (some (.int (f_S_figureAt I p))) (zH I P) := by
  unfold Wf
  refine wp_blk (pc' := 2) (L' := [some (.ref 1), some (.int p), none]) (st' := [.int p, .ref 1]) (h' := zH I P) 2 rfl ?_
  refine wp_callf (d := 18) (as := [.ref 1, .int p]) (rest := []) (Ld := [some (.ref 1), some (.int p)]) (pc' := 5) (st' := [.int (f_S_letterAt I p)]) (r := some (.int (f_S_letterAt I p))) (h1 := zH I P) rfl rfl rfl rfl rfl rfl rfl rfl rfl (sp_S_letterAt I P p) ?_
  refine wp_blk (pc' := 9) (L' := [some (.ref 1), some (.int p), some (.int (f_S_letterAt I p))]) (st' := [.int 48, .int (f_S_letterAt I p)]) (h' := zH I P) 3 rfl ?_
  refine wp_lt (a := f_S_letterAt I p) (b := 48) (s1 := (25, [some (.ref 1), some (.int p), some (.int (f_S_letterAt I p))], [], zH I P)) (s2 := (12, [some (.ref 1), some (.int p), some (.int (f_S_letterAt I p))], [], zH I P)) rfl (fun c1 => ?_) (fun c1 => ?_)
  · refine wp_blk (pc' := 26) (L' := [some (.ref 1), some (.int p), some (.int (f_S_letterAt I p))]) (st' := [.int (-1)]) (h' := zH I P) 1 rfl ?_
    exact wp_end rfl rfl ⟨by rw [f_S_figureAt, if_pos c1], rfl⟩
  · refine wp_blk (pc' := 15) (L' := [some (.ref 1), some (.int p), some (.int (f_S_letterAt I p))]) (st' := [.int 57, .int (f_S_letterAt I p)]) (h' := zH I P) 2 rfl ?_
    refine wp_gt (a := f_S_letterAt I p) (b := 57) (s1 := (25, [some (.ref 1), some (.int p), some (.int (f_S_letterAt I p))], [], zH I P)) (s2 := (18, [some (.ref 1), some (.int p), some (.int (f_S_letterAt I p))], [], zH I P)) rfl (fun c2 => ?_) (fun c2 => ?_)
    · refine wp_blk (pc' := 26) (L' := [some (.ref 1), some (.int p), some (.int (f_S_letterAt I p))]) (st' := [.int (-1)]) (h' := zH I P) 1 rfl ?_
      exact wp_end rfl rfl ⟨by rw [f_S_figureAt, if_neg c1, if_pos c2], rfl⟩
    · refine wp_blk (pc' := 26) (L' := [some (.ref 1), some (.int p), some (.int (f_S_letterAt I p))]) (st' := [.int ((f_S_letterAt I p) - 48)]) (h' := zH I P) 4 rfl ?_
      exact wp_end rfl rfl ⟨by rw [f_S_figureAt, if_neg c1, if_neg c2], rfl⟩
set_option maxRecDepth 100000 in
theorem sp_S_figureAt_G {X : Nat × (Nat → Int32)} (I : Nat → Nat → Int32) (P : Nat → Nat → Option Nat) (p : Int32) : Wf X 21 [some (.ref 1), some (.int p), none] (zG I P) (some (.int (f_S_figureAt I p))) (zG I P) := by
  unfold Wf
  refine wp_blk (pc' := 2) (L' := [some (.ref 1), some (.int p), none]) (st' := [.int p, .ref 1]) (h' := zG I P) 2 rfl ?_
  refine wp_callf (d := 18) (as := [.ref 1, .int p]) (rest := []) (Ld := [some (.ref 1), some (.int p)]) (pc' := 5) (st' := [.int (f_S_letterAt I p)]) (r := some (.int (f_S_letterAt I p))) (h1 := zG I P) rfl rfl rfl rfl rfl rfl rfl rfl rfl (sp_S_letterAt_G I P p) ?_
  refine wp_blk (pc' := 9) (L' := [some (.ref 1), some (.int p), some (.int (f_S_letterAt I p))]) (st' := [.int 48, .int (f_S_letterAt I p)]) (h' := zG I P) 3 rfl ?_
  refine wp_lt (a := f_S_letterAt I p) (b := 48) (s1 := (25, [some (.ref 1), some (.int p), some (.int (f_S_letterAt I p))], [], zG I P)) (s2 := (12, [some (.ref 1), some (.int p), some (.int (f_S_letterAt I p))], [], zG I P)) rfl (fun c1 => ?_) (fun c1 => ?_)
  · refine wp_blk (pc' := 26) (L' := [some (.ref 1), some (.int p), some (.int (f_S_letterAt I p))]) (st' := [.int (-1)]) (h' := zG I P) 1 rfl ?_
    exact wp_end rfl rfl ⟨by rw [f_S_figureAt, if_pos c1], rfl⟩
  · refine wp_blk (pc' := 15) (L' := [some (.ref 1), some (.int p), some (.int (f_S_letterAt I p))]) (st' := [.int 57, .int (f_S_letterAt I p)]) (h' := zG I P) 2 rfl ?_
    refine wp_gt (a := f_S_letterAt I p) (b := 57) (s1 := (25, [some (.ref 1), some (.int p), some (.int (f_S_letterAt I p))], [], zG I P)) (s2 := (18, [some (.ref 1), some (.int p), some (.int (f_S_letterAt I p))], [], zG I P)) rfl (fun c2 => ?_) (fun c2 => ?_)
    · refine wp_blk (pc' := 26) (L' := [some (.ref 1), some (.int p), some (.int (f_S_letterAt I p))]) (st' := [.int (-1)]) (h' := zG I P) 1 rfl ?_
      exact wp_end rfl rfl ⟨by rw [f_S_figureAt, if_neg c1, if_pos c2], rfl⟩
    · refine wp_blk (pc' := 26) (L' := [some (.ref 1), some (.int p), some (.int (f_S_letterAt I p))]) (st' := [.int ((f_S_letterAt I p) - 48)]) (h' := zG I P) 4 rfl ?_
      exact wp_end rfl rfl ⟨by rw [f_S_figureAt, if_neg c1, if_neg c2], rfl⟩
def x_S_readNumber (I : Nat → Nat → Int32) : Option (Int32 × (Nat → Nat → Int32)) := if 0 ≤ f_S_figureAt I (I 1 3) then (if 0 ≤ f_S_figureAt (zui I 1 3 ((I 1 3) + 1)) ((I 1 3) + 1) then (some ((10 * (f_S_figureAt I (I 1 3))) + (f_S_figureAt (zui I 1 3 ((I 1 3) + 1)) ((I 1 3) + 1)), (zui (zui I 1 3 ((I 1 3) + 1)) 1 3 (((I 1 3) + 1) + 1)))) else (some (f_S_figureAt I (I 1 3), (zui I 1 3 ((I 1 3) + 1))))) else (some (f_S_figureAt I (I 1 3), I))
set_option maxRecDepth 100000 in
theorem xp_S_readNumber {X : Nat × (Nat → Int32)} (I : Nat → Nat → Int32) (P : Nat → Nat → Option Nat) (r : Int32 × (Nat → Nat → Int32)) (hx : x_S_readNumber I = some r) : Wf X 20 [some (.ref 1), none, none] (zH I P) (some (.int r.1)) (zH r.2 P) := by
  unfold Wf
  unfold x_S_readNumber at hx
  refine wp_blk (pc' := 5) (L' := [some (.ref 1), none, none]) (st' := [.int (I 1 3), .ref 1]) (h' := zH I P) 3 rfl ?_
  refine wp_callf (d := 21) (as := [.ref 1, .int (I 1 3)]) (rest := []) (Ld := [some (.ref 1), some (.int (I 1 3)), none]) (pc' := 8) (st' := [.int (f_S_figureAt I (I 1 3))]) (r := some (.int (f_S_figureAt I (I 1 3)))) (h1 := zH I P) rfl rfl rfl rfl rfl rfl rfl rfl rfl (sp_S_figureAt I P (I 1 3)) ?_
  refine wp_blk (pc' := 10) (L' := [some (.ref 1), some (.int (f_S_figureAt I (I 1 3))), none]) (st' := [.int (f_S_figureAt I (I 1 3))]) (h' := zH I P) 2 rfl ?_
  refine wp_ge (a := f_S_figureAt I (I 1 3)) (b := 0) (s1 := (15, [some (.ref 1), some (.int (f_S_figureAt I (I 1 3))), none], [], zH I P)) (s2 := (13, [some (.ref 1), some (.int (f_S_figureAt I (I 1 3))), none], [], zH I P)) rfl (fun c1 => ?_) (fun c1 => ?_)
  · rw [if_pos c1] at hx
    refine wp_blk (pc' := 30) (L' := [some (.ref 1), some (.int (f_S_figureAt I (I 1 3))), none]) (st' := [.int ((I 1 3) + 1), .ref 1]) (h' := zH (zui I 1 3 ((I 1 3) + 1)) P) 9 rfl ?_
    refine wp_callf (d := 21) (as := [.ref 1, .int ((I 1 3) + 1)]) (rest := []) (Ld := [some (.ref 1), some (.int ((I 1 3) + 1)), none]) (pc' := 33) (st' := [.int (f_S_figureAt (zui I 1 3 ((I 1 3) + 1)) ((I 1 3) + 1))]) (r := some (.int (f_S_figureAt (zui I 1 3 ((I 1 3) + 1)) ((I 1 3) + 1)))) (h1 := zH (zui I 1 3 ((I 1 3) + 1)) P) rfl rfl rfl rfl rfl rfl rfl rfl rfl (sp_S_figureAt (zui I 1 3 ((I 1 3) + 1)) P ((I 1 3) + 1)) ?_
    refine wp_blk (pc' := 35) (L' := [some (.ref 1), some (.int (f_S_figureAt I (I 1 3))), some (.int (f_S_figureAt (zui I 1 3 ((I 1 3) + 1)) ((I 1 3) + 1)))]) (st' := [.int (f_S_figureAt (zui I 1 3 ((I 1 3) + 1)) ((I 1 3) + 1))]) (h' := zH (zui I 1 3 ((I 1 3) + 1)) P) 2 rfl ?_
    refine wp_ge (a := f_S_figureAt (zui I 1 3 ((I 1 3) + 1)) ((I 1 3) + 1)) (b := 0) (s1 := (40, [some (.ref 1), some (.int (f_S_figureAt I (I 1 3))), some (.int (f_S_figureAt (zui I 1 3 ((I 1 3) + 1)) ((I 1 3) + 1)))], [], zH (zui I 1 3 ((I 1 3) + 1)) P)) (s2 := (38, [some (.ref 1), some (.int (f_S_figureAt I (I 1 3))), some (.int (f_S_figureAt (zui I 1 3 ((I 1 3) + 1)) ((I 1 3) + 1)))], [], zH (zui I 1 3 ((I 1 3) + 1)) P)) rfl (fun c2 => ?_) (fun c2 => ?_)
    · rw [if_pos c2] at hx
      refine wp_blk (pc' := 56) (L' := [some (.ref 1), some (.int (f_S_figureAt I (I 1 3))), some (.int (f_S_figureAt (zui I 1 3 ((I 1 3) + 1)) ((I 1 3) + 1)))]) (st' := [.int ((10 * (f_S_figureAt I (I 1 3))) + (f_S_figureAt (zui I 1 3 ((I 1 3) + 1)) ((I 1 3) + 1)))]) (h' := zH (zui (zui I 1 3 ((I 1 3) + 1)) 1 3 (((I 1 3) + 1) + 1)) P) 11 rfl ?_
      cases hx
      exact wp_end rfl rfl ⟨rfl, rfl⟩
    · rw [if_neg c2] at hx
      refine wp_blk (pc' := 39) (L' := [some (.ref 1), some (.int (f_S_figureAt I (I 1 3))), some (.int (f_S_figureAt (zui I 1 3 ((I 1 3) + 1)) ((I 1 3) + 1)))]) (st' := [.int (f_S_figureAt I (I 1 3))]) (h' := zH (zui I 1 3 ((I 1 3) + 1)) P) 1 rfl ?_
      cases hx
      exact wp_end rfl rfl ⟨rfl, rfl⟩
  · rw [if_neg c1] at hx
    refine wp_blk (pc' := 14) (L' := [some (.ref 1), some (.int (f_S_figureAt I (I 1 3))), none]) (st' := [.int (f_S_figureAt I (I 1 3))]) (h' := zH I P) 1 rfl ?_
    cases hx
    exact wp_end rfl rfl ⟨rfl, rfl⟩
set_option maxRecDepth 100000 in
theorem xp_S_readNumber_G {X : Nat × (Nat → Int32)} (I : Nat → Nat → Int32) (P : Nat → Nat → Option Nat) (r : Int32 × (Nat → Nat → Int32)) (hx : x_S_readNumber I = some r) : Wf X 20 [some (.ref 1), none, none] (zG I P) (some (.int r.1)) (zG r.2 P) := by
  unfold Wf
  unfold x_S_readNumber at hx
  refine wp_blk (pc' := 5) (L' := [some (.ref 1), none, none]) (st' := [.int (I 1 3), .ref 1]) (h' := zG I P) 3 rfl ?_
  refine wp_callf (d := 21) (as := [.ref 1, .int (I 1 3)]) (rest := []) (Ld := [some (.ref 1), some (.int (I 1 3)), none]) (pc' := 8) (st' := [.int (f_S_figureAt I (I 1 3))]) (r := some (.int (f_S_figureAt I (I 1 3)))) (h1 := zG I P) rfl rfl rfl rfl rfl rfl rfl rfl rfl (sp_S_figureAt_G I P (I 1 3)) ?_
  refine wp_blk (pc' := 10) (L' := [some (.ref 1), some (.int (f_S_figureAt I (I 1 3))), none]) (st' := [.int (f_S_figureAt I (I 1 3))]) (h' := zG I P) 2 rfl ?_
  refine wp_ge (a := f_S_figureAt I (I 1 3)) (b := 0) (s1 := (15, [some (.ref 1), some (.int (f_S_figureAt I (I 1 3))), none], [], zG I P)) (s2 := (13, [some (.ref 1), some (.int (f_S_figureAt I (I 1 3))), none], [], zG I P)) rfl (fun c1 => ?_) (fun c1 => ?_)
  · rw [if_pos c1] at hx
    refine wp_blk (pc' := 30) (L' := [some (.ref 1), some (.int (f_S_figureAt I (I 1 3))), none]) (st' := [.int ((I 1 3) + 1), .ref 1]) (h' := zG (zui I 1 3 ((I 1 3) + 1)) P) 9 rfl ?_
    refine wp_callf (d := 21) (as := [.ref 1, .int ((I 1 3) + 1)]) (rest := []) (Ld := [some (.ref 1), some (.int ((I 1 3) + 1)), none]) (pc' := 33) (st' := [.int (f_S_figureAt (zui I 1 3 ((I 1 3) + 1)) ((I 1 3) + 1))]) (r := some (.int (f_S_figureAt (zui I 1 3 ((I 1 3) + 1)) ((I 1 3) + 1)))) (h1 := zG (zui I 1 3 ((I 1 3) + 1)) P) rfl rfl rfl rfl rfl rfl rfl rfl rfl (sp_S_figureAt_G (zui I 1 3 ((I 1 3) + 1)) P ((I 1 3) + 1)) ?_
    refine wp_blk (pc' := 35) (L' := [some (.ref 1), some (.int (f_S_figureAt I (I 1 3))), some (.int (f_S_figureAt (zui I 1 3 ((I 1 3) + 1)) ((I 1 3) + 1)))]) (st' := [.int (f_S_figureAt (zui I 1 3 ((I 1 3) + 1)) ((I 1 3) + 1))]) (h' := zG (zui I 1 3 ((I 1 3) + 1)) P) 2 rfl ?_
    refine wp_ge (a := f_S_figureAt (zui I 1 3 ((I 1 3) + 1)) ((I 1 3) + 1)) (b := 0) (s1 := (40, [some (.ref 1), some (.int (f_S_figureAt I (I 1 3))), some (.int (f_S_figureAt (zui I 1 3 ((I 1 3) + 1)) ((I 1 3) + 1)))], [], zG (zui I 1 3 ((I 1 3) + 1)) P)) (s2 := (38, [some (.ref 1), some (.int (f_S_figureAt I (I 1 3))), some (.int (f_S_figureAt (zui I 1 3 ((I 1 3) + 1)) ((I 1 3) + 1)))], [], zG (zui I 1 3 ((I 1 3) + 1)) P)) rfl (fun c2 => ?_) (fun c2 => ?_)
    · rw [if_pos c2] at hx
      refine wp_blk (pc' := 56) (L' := [some (.ref 1), some (.int (f_S_figureAt I (I 1 3))), some (.int (f_S_figureAt (zui I 1 3 ((I 1 3) + 1)) ((I 1 3) + 1)))]) (st' := [.int ((10 * (f_S_figureAt I (I 1 3))) + (f_S_figureAt (zui I 1 3 ((I 1 3) + 1)) ((I 1 3) + 1)))]) (h' := zG (zui (zui I 1 3 ((I 1 3) + 1)) 1 3 (((I 1 3) + 1) + 1)) P) 11 rfl ?_
      cases hx
      exact wp_end rfl rfl ⟨rfl, rfl⟩
    · rw [if_neg c2] at hx
      refine wp_blk (pc' := 39) (L' := [some (.ref 1), some (.int (f_S_figureAt I (I 1 3))), some (.int (f_S_figureAt (zui I 1 3 ((I 1 3) + 1)) ((I 1 3) + 1)))]) (st' := [.int (f_S_figureAt I (I 1 3))]) (h' := zG (zui I 1 3 ((I 1 3) + 1)) P) 1 rfl ?_
      cases hx
      exact wp_end rfl rfl ⟨rfl, rfl⟩
  · rw [if_neg c1] at hx
    refine wp_blk (pc' := 14) (L' := [some (.ref 1), some (.int (f_S_figureAt I (I 1 3))), none]) (st' := [.int (f_S_figureAt I (I 1 3))]) (h' := zG I P) 1 rfl ?_
    cases hx
    exact wp_end rfl rfl ⟨rfl, rfl⟩
def l_S_readNumbers_2 : Nat → (Nat → Nat → Int32) → Int32 → Int32 → Option (Int32 × (Nat → Nat → Int32))
  | 0, _, _, _ => none
  | n + 1, I, x1, x2 => if x1 ≤ x2 then (some (1, I)) else (if Int32.ofNat 3 ≤ x2 then (some (1, I)) else ((x_S_readNumber I).bind (fun q1 => if zinb x2 3 = true then (if x2 = x1 - 1 then (if zinb x2 3 = true then (if (zui q1.2 3 x2.toNatClampNeg q1.1) 3 x2.toNatClampNeg < 0 then (some (0, (zui q1.2 3 x2.toNatClampNeg q1.1))) else (if f_S_letterAt (zui q1.2 3 x2.toNatClampNeg q1.1) (q1.2 1 3) = 59 then (l_S_readNumbers_2 n (zui (zui q1.2 3 x2.toNatClampNeg q1.1) 1 3 ((q1.2 1 3) + 1)) x1 (x2 + 1)) else (some (0, (zui q1.2 3 x2.toNatClampNeg q1.1))))) else none) else (if zinb x2 3 = true then (if (zui q1.2 3 x2.toNatClampNeg q1.1) 3 x2.toNatClampNeg < 0 then (some (0, (zui q1.2 3 x2.toNatClampNeg q1.1))) else (if f_S_letterAt (zui q1.2 3 x2.toNatClampNeg q1.1) (q1.2 1 3) = 44 then (l_S_readNumbers_2 n (zui (zui q1.2 3 x2.toNatClampNeg q1.1) 1 3 ((q1.2 1 3) + 1)) x1 (x2 + 1)) else (some (0, (zui q1.2 3 x2.toNatClampNeg q1.1))))) else none)) else none)))
def x_S_readNumbers (I : Nat → Nat → Int32) (k : Int32) : Option (Int32 × (Nat → Nat → Int32)) := l_S_readNumbers_2 1000 I k 0
set_option maxRecDepth 100000 in
theorem lp_S_readNumbers_2 {X : Nat × (Nat → Int32)} (P : Nat → Nat → Option Nat) : ∀ (n : Nat) (I : Nat → Nat → Int32) (x1 : Int32) (x2 : Int32) (r : Int32 × (Nat → Nat → Int32)), l_S_readNumbers_2 n I x1 x2 = some r → Wp X 19 2 [some (.ref 1), some (.int x1), some (.int x2), none] [] (zH I P) (fun r2 h2 => r2 = some (.int r.1) ∧ h2 = zH r.2 P) := by
  intro n
  induction n with
  | zero => intro I x1 x2 r hx; cases hx
  | succ n ih =>
    intro I x1 x2 r hx
    rw [l_S_readNumbers_2] at hx
    refine wp_blk (pc' := 4) (L' := [some (.ref 1), some (.int x1), some (.int x2), none]) (st' := [.int x1, .int x2]) (h' := zH I P) 2 rfl ?_
    refine wp_ge (a := x2) (b := x1) (s1 := (80, [some (.ref 1), some (.int x1), some (.int x2), none], [], zH I P)) (s2 := (7, [some (.ref 1), some (.int x1), some (.int x2), none], [], zH I P)) rfl (fun c1 => ?_) (fun c1 => ?_)
    · rw [if_pos c1] at hx
      refine wp_blk (pc' := 81) (L' := [some (.ref 1), some (.int x1), some (.int x2), none]) (st' := [.int 1]) (h' := zH I P) 1 rfl ?_
      cases hx
      exact wp_end rfl rfl ⟨rfl, rfl⟩
    · rw [if_neg c1] at hx
      refine wp_blk (pc' := 13) (L' := [some (.ref 1), some (.int x1), some (.int x2), none]) (st' := [.int (Int32.ofNat 3), .int x2]) (h' := zH I P) 4 rfl ?_
      refine wp_ge (a := x2) (b := Int32.ofNat 3) (s1 := (80, [some (.ref 1), some (.int x1), some (.int x2), none], [], zH I P)) (s2 := (16, [some (.ref 1), some (.int x1), some (.int x2), none], [], zH I P)) rfl (fun c2 => ?_) (fun c2 => ?_)
      · rw [if_pos c2] at hx
        refine wp_blk (pc' := 81) (L' := [some (.ref 1), some (.int x1), some (.int x2), none]) (st' := [.int 1]) (h' := zH I P) 1 rfl ?_
        cases hx
        exact wp_end rfl rfl ⟨rfl, rfl⟩
      · rw [if_neg c2] at hx
        refine wp_blk (pc' := 22) (L' := [some (.ref 1), some (.int x1), some (.int x2), none]) (st' := [.ref 1, .int x2, .ref 3]) (h' := zH I P) 4 rfl ?_
        obtain ⟨y1, hy1, hx⟩ := zbind hx
        refine wp_callf (d := 20) (as := [.ref 1]) (rest := [.int x2, .ref 3]) (Ld := [some (.ref 1), none, none]) (pc' := 25) (st' := [.int y1.1, .int x2, .ref 3]) (r := some (.int y1.1)) (h1 := zH y1.2 P) rfl rfl rfl rfl rfl rfl rfl rfl rfl (xp_S_readNumber _ _  _ hy1) ?_
        obtain ⟨c3, hx⟩ := zite hx
        refine wp_chk (P := zinb x2 3 = true) (pc' := 26) (L' := [some (.ref 1), some (.int x1), some (.int x2), none]) (st' := []) (h' := zH (zui y1.2 3 x2.toNatClampNeg y1.1) P) rfl c3 ?_
        refine wp_blk (pc' := 30) (L' := [some (.ref 1), some (.int x1), some (.int x2), none]) (st' := [.int (x1 - 1), .int x2]) (h' := zH (zui y1.2 3 x2.toNatClampNeg y1.1) P) 4 rfl ?_
        refine wp_ne (a := x2) (b := x1 - 1) (s1 := (38, [some (.ref 1), some (.int x1), some (.int x2), none], [], zH (zui y1.2 3 x2.toNatClampNeg y1.1) P)) (s2 := (33, [some (.ref 1), some (.int x1), some (.int x2), none], [], zH (zui y1.2 3 x2.toNatClampNeg y1.1) P)) rfl (fun c4 => ?_) (fun c4 => ?_)
        · rw [if_neg c4] at hx
          refine wp_blk (pc' := 46) (L' := [some (.ref 1), some (.int x1), some (.int x2), some (.int 44)]) (st' := [.int x2, .ref 3]) (h' := zH (zui y1.2 3 x2.toNatClampNeg y1.1) P) 5 rfl ?_
          obtain ⟨c5, hx⟩ := zite hx
          refine wp_chk (P := zinb x2 3 = true) (pc' := 47) (L' := [some (.ref 1), some (.int x1), some (.int x2), some (.int 44)]) (st' := [.int ((zui y1.2 3 x2.toNatClampNeg y1.1) 3 x2.toNatClampNeg)]) (h' := zH (zui y1.2 3 x2.toNatClampNeg y1.1) P) rfl c5 ?_
          refine wp_lt (a := (zui y1.2 3 x2.toNatClampNeg y1.1) 3 x2.toNatClampNeg) (b := 0) (s1 := (62, [some (.ref 1), some (.int x1), some (.int x2), some (.int 44)], [], zH (zui y1.2 3 x2.toNatClampNeg y1.1) P)) (s2 := (50, [some (.ref 1), some (.int x1), some (.int x2), some (.int 44)], [], zH (zui y1.2 3 x2.toNatClampNeg y1.1) P)) rfl (fun c6 => ?_) (fun c6 => ?_)
          · rw [if_pos c6] at hx
            refine wp_blk (pc' := 63) (L' := [some (.ref 1), some (.int x1), some (.int x2), some (.int 44)]) (st' := [.int 0]) (h' := zH (zui y1.2 3 x2.toNatClampNeg y1.1) P) 1 rfl ?_
            cases hx
            exact wp_end rfl rfl ⟨rfl, rfl⟩
          · rw [if_neg c6] at hx
            refine wp_blk (pc' := 55) (L' := [some (.ref 1), some (.int x1), some (.int x2), some (.int 44)]) (st' := [.int (y1.2 1 3), .ref 1]) (h' := zH (zui y1.2 3 x2.toNatClampNeg y1.1) P) 3 rfl ?_
            refine wp_callf (d := 18) (as := [.ref 1, .int (y1.2 1 3)]) (rest := []) (Ld := [some (.ref 1), some (.int (y1.2 1 3))]) (pc' := 58) (st' := [.int (f_S_letterAt (zui y1.2 3 x2.toNatClampNeg y1.1) (y1.2 1 3))]) (r := some (.int (f_S_letterAt (zui y1.2 3 x2.toNatClampNeg y1.1) (y1.2 1 3)))) (h1 := zH (zui y1.2 3 x2.toNatClampNeg y1.1) P) rfl rfl rfl rfl rfl rfl rfl rfl rfl (sp_S_letterAt (zui y1.2 3 x2.toNatClampNeg y1.1) P (y1.2 1 3)) ?_
            refine wp_blk (pc' := 59) (L' := [some (.ref 1), some (.int x1), some (.int x2), some (.int 44)]) (st' := [.int 44, .int (f_S_letterAt (zui y1.2 3 x2.toNatClampNeg y1.1) (y1.2 1 3))]) (h' := zH (zui y1.2 3 x2.toNatClampNeg y1.1) P) 1 rfl ?_
            refine wp_eq (a := f_S_letterAt (zui y1.2 3 x2.toNatClampNeg y1.1) (y1.2 1 3)) (b := 44) (s1 := (64, [some (.ref 1), some (.int x1), some (.int x2), some (.int 44)], [], zH (zui y1.2 3 x2.toNatClampNeg y1.1) P)) (s2 := (62, [some (.ref 1), some (.int x1), some (.int x2), some (.int 44)], [], zH (zui y1.2 3 x2.toNatClampNeg y1.1) P)) rfl (fun c7 => ?_) (fun c7 => ?_)
            · rw [if_pos c7] at hx
              refine wp_blk (pc' := 2) (L' := [some (.ref 1), some (.int x1), some (.int (x2 + 1)), some (.int 44)]) (st' := []) (h' := zH (zui (zui y1.2 3 x2.toNatClampNeg y1.1) 1 3 ((y1.2 1 3) + 1)) P) 8 rfl ?_
              exact wp_forget (ih _ _ _ _ hx) (zle_c (zle_c (zle_c (zle_n zle_nil))))
            · rw [if_neg c7] at hx
              refine wp_blk (pc' := 63) (L' := [some (.ref 1), some (.int x1), some (.int x2), some (.int 44)]) (st' := [.int 0]) (h' := zH (zui y1.2 3 x2.toNatClampNeg y1.1) P) 1 rfl ?_
              cases hx
              exact wp_end rfl rfl ⟨rfl, rfl⟩
        · rw [if_pos c4] at hx
          refine wp_blk (pc' := 46) (L' := [some (.ref 1), some (.int x1), some (.int x2), some (.int 59)]) (st' := [.int x2, .ref 3]) (h' := zH (zui y1.2 3 x2.toNatClampNeg y1.1) P) 6 rfl ?_
          obtain ⟨c8, hx⟩ := zite hx
          refine wp_chk (P := zinb x2 3 = true) (pc' := 47) (L' := [some (.ref 1), some (.int x1), some (.int x2), some (.int 59)]) (st' := [.int ((zui y1.2 3 x2.toNatClampNeg y1.1) 3 x2.toNatClampNeg)]) (h' := zH (zui y1.2 3 x2.toNatClampNeg y1.1) P) rfl c8 ?_
          refine wp_lt (a := (zui y1.2 3 x2.toNatClampNeg y1.1) 3 x2.toNatClampNeg) (b := 0) (s1 := (62, [some (.ref 1), some (.int x1), some (.int x2), some (.int 59)], [], zH (zui y1.2 3 x2.toNatClampNeg y1.1) P)) (s2 := (50, [some (.ref 1), some (.int x1), some (.int x2), some (.int 59)], [], zH (zui y1.2 3 x2.toNatClampNeg y1.1) P)) rfl (fun c9 => ?_) (fun c9 => ?_)
          · rw [if_pos c9] at hx
            refine wp_blk (pc' := 63) (L' := [some (.ref 1), some (.int x1), some (.int x2), some (.int 59)]) (st' := [.int 0]) (h' := zH (zui y1.2 3 x2.toNatClampNeg y1.1) P) 1 rfl ?_
            cases hx
            exact wp_end rfl rfl ⟨rfl, rfl⟩
          · rw [if_neg c9] at hx
            refine wp_blk (pc' := 55) (L' := [some (.ref 1), some (.int x1), some (.int x2), some (.int 59)]) (st' := [.int (y1.2 1 3), .ref 1]) (h' := zH (zui y1.2 3 x2.toNatClampNeg y1.1) P) 3 rfl ?_
            refine wp_callf (d := 18) (as := [.ref 1, .int (y1.2 1 3)]) (rest := []) (Ld := [some (.ref 1), some (.int (y1.2 1 3))]) (pc' := 58) (st' := [.int (f_S_letterAt (zui y1.2 3 x2.toNatClampNeg y1.1) (y1.2 1 3))]) (r := some (.int (f_S_letterAt (zui y1.2 3 x2.toNatClampNeg y1.1) (y1.2 1 3)))) (h1 := zH (zui y1.2 3 x2.toNatClampNeg y1.1) P) rfl rfl rfl rfl rfl rfl rfl rfl rfl (sp_S_letterAt (zui y1.2 3 x2.toNatClampNeg y1.1) P (y1.2 1 3)) ?_
            refine wp_blk (pc' := 59) (L' := [some (.ref 1), some (.int x1), some (.int x2), some (.int 59)]) (st' := [.int 59, .int (f_S_letterAt (zui y1.2 3 x2.toNatClampNeg y1.1) (y1.2 1 3))]) (h' := zH (zui y1.2 3 x2.toNatClampNeg y1.1) P) 1 rfl ?_
            refine wp_eq (a := f_S_letterAt (zui y1.2 3 x2.toNatClampNeg y1.1) (y1.2 1 3)) (b := 59) (s1 := (64, [some (.ref 1), some (.int x1), some (.int x2), some (.int 59)], [], zH (zui y1.2 3 x2.toNatClampNeg y1.1) P)) (s2 := (62, [some (.ref 1), some (.int x1), some (.int x2), some (.int 59)], [], zH (zui y1.2 3 x2.toNatClampNeg y1.1) P)) rfl (fun c10 => ?_) (fun c10 => ?_)
            · rw [if_pos c10] at hx
              refine wp_blk (pc' := 2) (L' := [some (.ref 1), some (.int x1), some (.int (x2 + 1)), some (.int 59)]) (st' := []) (h' := zH (zui (zui y1.2 3 x2.toNatClampNeg y1.1) 1 3 ((y1.2 1 3) + 1)) P) 8 rfl ?_
              exact wp_forget (ih _ _ _ _ hx) (zle_c (zle_c (zle_c (zle_n zle_nil))))
            · rw [if_neg c10] at hx
              refine wp_blk (pc' := 63) (L' := [some (.ref 1), some (.int x1), some (.int x2), some (.int 59)]) (st' := [.int 0]) (h' := zH (zui y1.2 3 x2.toNatClampNeg y1.1) P) 1 rfl ?_
              cases hx
              exact wp_end rfl rfl ⟨rfl, rfl⟩
set_option maxRecDepth 100000 in
theorem xp_S_readNumbers {X : Nat × (Nat → Int32)} (I : Nat → Nat → Int32) (P : Nat → Nat → Option Nat) (k : Int32) (r : Int32 × (Nat → Nat → Int32)) (hx : x_S_readNumbers I k = some r) : Wf X 19 [some (.ref 1), some (.int k), none, none] (zH I P) (some (.int r.1)) (zH r.2 P) := by
  unfold Wf
  unfold x_S_readNumbers at hx
  refine wp_blk (pc' := 2) (L' := [some (.ref 1), some (.int k), some (.int 0), none]) (st' := []) (h' := zH I P) 2 rfl ?_
  exact lp_S_readNumbers_2 P _ _ _ _ _ hx
set_option maxRecDepth 100000 in
theorem lp_S_readNumbers_2_G {X : Nat × (Nat → Int32)} (P : Nat → Nat → Option Nat) : ∀ (n : Nat) (I : Nat → Nat → Int32) (x1 : Int32) (x2 : Int32) (r : Int32 × (Nat → Nat → Int32)), l_S_readNumbers_2 n I x1 x2 = some r → Wp X 19 2 [some (.ref 1), some (.int x1), some (.int x2), none] [] (zG I P) (fun r2 h2 => r2 = some (.int r.1) ∧ h2 = zG r.2 P) := by
  intro n
  induction n with
  | zero => intro I x1 x2 r hx; cases hx
  | succ n ih =>
    intro I x1 x2 r hx
    rw [l_S_readNumbers_2] at hx
    refine wp_blk (pc' := 4) (L' := [some (.ref 1), some (.int x1), some (.int x2), none]) (st' := [.int x1, .int x2]) (h' := zG I P) 2 rfl ?_
    refine wp_ge (a := x2) (b := x1) (s1 := (80, [some (.ref 1), some (.int x1), some (.int x2), none], [], zG I P)) (s2 := (7, [some (.ref 1), some (.int x1), some (.int x2), none], [], zG I P)) rfl (fun c1 => ?_) (fun c1 => ?_)
    · rw [if_pos c1] at hx
      refine wp_blk (pc' := 81) (L' := [some (.ref 1), some (.int x1), some (.int x2), none]) (st' := [.int 1]) (h' := zG I P) 1 rfl ?_
      cases hx
      exact wp_end rfl rfl ⟨rfl, rfl⟩
    · rw [if_neg c1] at hx
      refine wp_blk (pc' := 13) (L' := [some (.ref 1), some (.int x1), some (.int x2), none]) (st' := [.int (Int32.ofNat 3), .int x2]) (h' := zG I P) 4 rfl ?_
      refine wp_ge (a := x2) (b := Int32.ofNat 3) (s1 := (80, [some (.ref 1), some (.int x1), some (.int x2), none], [], zG I P)) (s2 := (16, [some (.ref 1), some (.int x1), some (.int x2), none], [], zG I P)) rfl (fun c2 => ?_) (fun c2 => ?_)
      · rw [if_pos c2] at hx
        refine wp_blk (pc' := 81) (L' := [some (.ref 1), some (.int x1), some (.int x2), none]) (st' := [.int 1]) (h' := zG I P) 1 rfl ?_
        cases hx
        exact wp_end rfl rfl ⟨rfl, rfl⟩
      · rw [if_neg c2] at hx
        refine wp_blk (pc' := 22) (L' := [some (.ref 1), some (.int x1), some (.int x2), none]) (st' := [.ref 1, .int x2, .ref 3]) (h' := zG I P) 4 rfl ?_
        obtain ⟨y1, hy1, hx⟩ := zbind hx
        refine wp_callf (d := 20) (as := [.ref 1]) (rest := [.int x2, .ref 3]) (Ld := [some (.ref 1), none, none]) (pc' := 25) (st' := [.int y1.1, .int x2, .ref 3]) (r := some (.int y1.1)) (h1 := zG y1.2 P) rfl rfl rfl rfl rfl rfl rfl rfl rfl (xp_S_readNumber_G _ _  _ hy1) ?_
        obtain ⟨c3, hx⟩ := zite hx
        refine wp_chk (P := zinb x2 3 = true) (pc' := 26) (L' := [some (.ref 1), some (.int x1), some (.int x2), none]) (st' := []) (h' := zG (zui y1.2 3 x2.toNatClampNeg y1.1) P) rfl c3 ?_
        refine wp_blk (pc' := 30) (L' := [some (.ref 1), some (.int x1), some (.int x2), none]) (st' := [.int (x1 - 1), .int x2]) (h' := zG (zui y1.2 3 x2.toNatClampNeg y1.1) P) 4 rfl ?_
        refine wp_ne (a := x2) (b := x1 - 1) (s1 := (38, [some (.ref 1), some (.int x1), some (.int x2), none], [], zG (zui y1.2 3 x2.toNatClampNeg y1.1) P)) (s2 := (33, [some (.ref 1), some (.int x1), some (.int x2), none], [], zG (zui y1.2 3 x2.toNatClampNeg y1.1) P)) rfl (fun c4 => ?_) (fun c4 => ?_)
        · rw [if_neg c4] at hx
          refine wp_blk (pc' := 46) (L' := [some (.ref 1), some (.int x1), some (.int x2), some (.int 44)]) (st' := [.int x2, .ref 3]) (h' := zG (zui y1.2 3 x2.toNatClampNeg y1.1) P) 5 rfl ?_
          obtain ⟨c5, hx⟩ := zite hx
          refine wp_chk (P := zinb x2 3 = true) (pc' := 47) (L' := [some (.ref 1), some (.int x1), some (.int x2), some (.int 44)]) (st' := [.int ((zui y1.2 3 x2.toNatClampNeg y1.1) 3 x2.toNatClampNeg)]) (h' := zG (zui y1.2 3 x2.toNatClampNeg y1.1) P) rfl c5 ?_
          refine wp_lt (a := (zui y1.2 3 x2.toNatClampNeg y1.1) 3 x2.toNatClampNeg) (b := 0) (s1 := (62, [some (.ref 1), some (.int x1), some (.int x2), some (.int 44)], [], zG (zui y1.2 3 x2.toNatClampNeg y1.1) P)) (s2 := (50, [some (.ref 1), some (.int x1), some (.int x2), some (.int 44)], [], zG (zui y1.2 3 x2.toNatClampNeg y1.1) P)) rfl (fun c6 => ?_) (fun c6 => ?_)
          · rw [if_pos c6] at hx
            refine wp_blk (pc' := 63) (L' := [some (.ref 1), some (.int x1), some (.int x2), some (.int 44)]) (st' := [.int 0]) (h' := zG (zui y1.2 3 x2.toNatClampNeg y1.1) P) 1 rfl ?_
            cases hx
            exact wp_end rfl rfl ⟨rfl, rfl⟩
          · rw [if_neg c6] at hx
            refine wp_blk (pc' := 55) (L' := [some (.ref 1), some (.int x1), some (.int x2), some (.int 44)]) (st' := [.int (y1.2 1 3), .ref 1]) (h' := zG (zui y1.2 3 x2.toNatClampNeg y1.1) P) 3 rfl ?_
            refine wp_callf (d := 18) (as := [.ref 1, .int (y1.2 1 3)]) (rest := []) (Ld := [some (.ref 1), some (.int (y1.2 1 3))]) (pc' := 58) (st' := [.int (f_S_letterAt (zui y1.2 3 x2.toNatClampNeg y1.1) (y1.2 1 3))]) (r := some (.int (f_S_letterAt (zui y1.2 3 x2.toNatClampNeg y1.1) (y1.2 1 3)))) (h1 := zG (zui y1.2 3 x2.toNatClampNeg y1.1) P) rfl rfl rfl rfl rfl rfl rfl rfl rfl (sp_S_letterAt_G (zui y1.2 3 x2.toNatClampNeg y1.1) P (y1.2 1 3)) ?_
            refine wp_blk (pc' := 59) (L' := [some (.ref 1), some (.int x1), some (.int x2), some (.int 44)]) (st' := [.int 44, .int (f_S_letterAt (zui y1.2 3 x2.toNatClampNeg y1.1) (y1.2 1 3))]) (h' := zG (zui y1.2 3 x2.toNatClampNeg y1.1) P) 1 rfl ?_
            refine wp_eq (a := f_S_letterAt (zui y1.2 3 x2.toNatClampNeg y1.1) (y1.2 1 3)) (b := 44) (s1 := (64, [some (.ref 1), some (.int x1), some (.int x2), some (.int 44)], [], zG (zui y1.2 3 x2.toNatClampNeg y1.1) P)) (s2 := (62, [some (.ref 1), some (.int x1), some (.int x2), some (.int 44)], [], zG (zui y1.2 3 x2.toNatClampNeg y1.1) P)) rfl (fun c7 => ?_) (fun c7 => ?_)
            · rw [if_pos c7] at hx
              refine wp_blk (pc' := 2) (L' := [some (.ref 1), some (.int x1), some (.int (x2 + 1)), some (.int 44)]) (st' := []) (h' := zG (zui (zui y1.2 3 x2.toNatClampNeg y1.1) 1 3 ((y1.2 1 3) + 1)) P) 8 rfl ?_
              exact wp_forget (ih _ _ _ _ hx) (zle_c (zle_c (zle_c (zle_n zle_nil))))
            · rw [if_neg c7] at hx
              refine wp_blk (pc' := 63) (L' := [some (.ref 1), some (.int x1), some (.int x2), some (.int 44)]) (st' := [.int 0]) (h' := zG (zui y1.2 3 x2.toNatClampNeg y1.1) P) 1 rfl ?_
              cases hx
              exact wp_end rfl rfl ⟨rfl, rfl⟩
        · rw [if_pos c4] at hx
          refine wp_blk (pc' := 46) (L' := [some (.ref 1), some (.int x1), some (.int x2), some (.int 59)]) (st' := [.int x2, .ref 3]) (h' := zG (zui y1.2 3 x2.toNatClampNeg y1.1) P) 6 rfl ?_
          obtain ⟨c8, hx⟩ := zite hx
          refine wp_chk (P := zinb x2 3 = true) (pc' := 47) (L' := [some (.ref 1), some (.int x1), some (.int x2), some (.int 59)]) (st' := [.int ((zui y1.2 3 x2.toNatClampNeg y1.1) 3 x2.toNatClampNeg)]) (h' := zG (zui y1.2 3 x2.toNatClampNeg y1.1) P) rfl c8 ?_
          refine wp_lt (a := (zui y1.2 3 x2.toNatClampNeg y1.1) 3 x2.toNatClampNeg) (b := 0) (s1 := (62, [some (.ref 1), some (.int x1), some (.int x2), some (.int 59)], [], zG (zui y1.2 3 x2.toNatClampNeg y1.1) P)) (s2 := (50, [some (.ref 1), some (.int x1), some (.int x2), some (.int 59)], [], zG (zui y1.2 3 x2.toNatClampNeg y1.1) P)) rfl (fun c9 => ?_) (fun c9 => ?_)
          · rw [if_pos c9] at hx
            refine wp_blk (pc' := 63) (L' := [some (.ref 1), some (.int x1), some (.int x2), some (.int 59)]) (st' := [.int 0]) (h' := zG (zui y1.2 3 x2.toNatClampNeg y1.1) P) 1 rfl ?_
            cases hx
            exact wp_end rfl rfl ⟨rfl, rfl⟩
          · rw [if_neg c9] at hx
            refine wp_blk (pc' := 55) (L' := [some (.ref 1), some (.int x1), some (.int x2), some (.int 59)]) (st' := [.int (y1.2 1 3), .ref 1]) (h' := zG (zui y1.2 3 x2.toNatClampNeg y1.1) P) 3 rfl ?_
            refine wp_callf (d := 18) (as := [.ref 1, .int (y1.2 1 3)]) (rest := []) (Ld := [some (.ref 1), some (.int (y1.2 1 3))]) (pc' := 58) (st' := [.int (f_S_letterAt (zui y1.2 3 x2.toNatClampNeg y1.1) (y1.2 1 3))]) (r := some (.int (f_S_letterAt (zui y1.2 3 x2.toNatClampNeg y1.1) (y1.2 1 3)))) (h1 := zG (zui y1.2 3 x2.toNatClampNeg y1.1) P) rfl rfl rfl rfl rfl rfl rfl rfl rfl (sp_S_letterAt_G (zui y1.2 3 x2.toNatClampNeg y1.1) P (y1.2 1 3)) ?_
            refine wp_blk (pc' := 59) (L' := [some (.ref 1), some (.int x1), some (.int x2), some (.int 59)]) (st' := [.int 59, .int (f_S_letterAt (zui y1.2 3 x2.toNatClampNeg y1.1) (y1.2 1 3))]) (h' := zG (zui y1.2 3 x2.toNatClampNeg y1.1) P) 1 rfl ?_
            refine wp_eq (a := f_S_letterAt (zui y1.2 3 x2.toNatClampNeg y1.1) (y1.2 1 3)) (b := 59) (s1 := (64, [some (.ref 1), some (.int x1), some (.int x2), some (.int 59)], [], zG (zui y1.2 3 x2.toNatClampNeg y1.1) P)) (s2 := (62, [some (.ref 1), some (.int x1), some (.int x2), some (.int 59)], [], zG (zui y1.2 3 x2.toNatClampNeg y1.1) P)) rfl (fun c10 => ?_) (fun c10 => ?_)
            · rw [if_pos c10] at hx
              refine wp_blk (pc' := 2) (L' := [some (.ref 1), some (.int x1), some (.int (x2 + 1)), some (.int 59)]) (st' := []) (h' := zG (zui (zui y1.2 3 x2.toNatClampNeg y1.1) 1 3 ((y1.2 1 3) + 1)) P) 8 rfl ?_
              exact wp_forget (ih _ _ _ _ hx) (zle_c (zle_c (zle_c (zle_n zle_nil))))
            · rw [if_neg c10] at hx
              refine wp_blk (pc' := 63) (L' := [some (.ref 1), some (.int x1), some (.int x2), some (.int 59)]) (st' := [.int 0]) (h' := zG (zui y1.2 3 x2.toNatClampNeg y1.1) P) 1 rfl ?_
              cases hx
              exact wp_end rfl rfl ⟨rfl, rfl⟩
set_option maxRecDepth 100000 in
theorem xp_S_readNumbers_G {X : Nat × (Nat → Int32)} (I : Nat → Nat → Int32) (P : Nat → Nat → Option Nat) (k : Int32) (r : Int32 × (Nat → Nat → Int32)) (hx : x_S_readNumbers I k = some r) : Wf X 19 [some (.ref 1), some (.int k), none, none] (zG I P) (some (.int r.1)) (zG r.2 P) := by
  unfold Wf
  unfold x_S_readNumbers at hx
  refine wp_blk (pc' := 2) (L' := [some (.ref 1), some (.int k), some (.int 0), none]) (st' := []) (h' := zG I P) 2 rfl ?_
  exact lp_S_readNumbers_2_G P _ _ _ _ _ hx
def x_S_readItem (m mk ml mt : Nat) (I : Nat → Nat → Int32) : Option (Int32 × (Nat → Nat → Int32)) := if f_S_letterAt I (I 1 3) = 111 then ((x_S_readNumbers (zui I 1 3 ((I 1 3) + 1)) 3).bind (fun q2 => if q2.1 = 0 then (some (0, q2.2)) else (if (f_S_letterAt I (I 1 3)) = 97 then (some (f_M_tellGone m mk ml mt q2.2 (q2.2 3 0), (g_M_tellGone m mk ml mt q2.2 (q2.2 3 0)))) else (if (f_S_letterAt I (I 1 3)) = 99 then (some (f_M_addCustomer m mk ml mt q2.2 (q2.2 3 0), (g_M_addCustomer m mk ml mt q2.2 (q2.2 3 0)))) else (if (f_S_letterAt I (I 1 3)) = 111 then (some (f_M_tellWord m mk ml mt q2.2 (q2.2 3 0) (q2.2 3 1) (q2.2 3 2), (g_M_tellWord m mk ml mt q2.2 (q2.2 3 0) (q2.2 3 1) (q2.2 3 2)))) else (if (f_S_letterAt I (I 1 3)) = 115 then (some (f_M_tellStone m mk ml mt q2.2 (q2.2 3 0), (g_M_tellStone m mk ml mt q2.2 (q2.2 3 0)))) else (some (0, q2.2)))))))) else ((x_S_readNumbers (zui I 1 3 ((I 1 3) + 1)) 1).bind (fun q1 => if q1.1 = 0 then (some (0, q1.2)) else (if (f_S_letterAt I (I 1 3)) = 97 then (some (f_M_tellGone m mk ml mt q1.2 (q1.2 3 0), (g_M_tellGone m mk ml mt q1.2 (q1.2 3 0)))) else (if (f_S_letterAt I (I 1 3)) = 99 then (some (f_M_addCustomer m mk ml mt q1.2 (q1.2 3 0), (g_M_addCustomer m mk ml mt q1.2 (q1.2 3 0)))) else (if (f_S_letterAt I (I 1 3)) = 111 then (some (f_M_tellWord m mk ml mt q1.2 (q1.2 3 0) (q1.2 3 1) (q1.2 3 2), (g_M_tellWord m mk ml mt q1.2 (q1.2 3 0) (q1.2 3 1) (q1.2 3 2)))) else (if (f_S_letterAt I (I 1 3)) = 115 then (some (f_M_tellStone m mk ml mt q1.2 (q1.2 3 0), (g_M_tellStone m mk ml mt q1.2 (q1.2 3 0)))) else (some (0, q1.2))))))))
set_option maxRecDepth 100000 in
theorem xp_S_readItem_4 {X : Nat × (Nat → Int32)} (I : Nat → Nat → Int32) (P : Nat → Nat → Option Nat) (r : Int32 × (Nat → Nat → Int32)) (hx : x_S_readItem 4 5 6 7 I = some r) : Wf X 17 [some (.ref 1), some (.ref 4), none] (zH I P) (some (.int r.1)) (zH r.2 P) := by
  unfold Wf
  unfold x_S_readItem at hx
  refine wp_blk (pc' := 5) (L' := [some (.ref 1), some (.ref 4), none]) (st' := [.int (I 1 3), .ref 1]) (h' := zH I P) 3 rfl ?_
  refine wp_callf (d := 18) (as := [.ref 1, .int (I 1 3)]) (rest := []) (Ld := [some (.ref 1), some (.int (I 1 3))]) (pc' := 8) (st' := [.int (f_S_letterAt I (I 1 3))]) (r := some (.int (f_S_letterAt I (I 1 3)))) (h1 := zH I P) rfl rfl rfl rfl rfl rfl rfl rfl rfl (sp_S_letterAt I P (I 1 3)) ?_
  refine wp_blk (pc' := 23) (L' := [some (.ref 1), some (.ref 4), some (.int (f_S_letterAt I (I 1 3)))]) (st' := [.int 111, .int (f_S_letterAt I (I 1 3)), .ref 1]) (h' := zH (zui I 1 3 ((I 1 3) + 1)) P) 10 rfl ?_
  refine wp_ne (a := f_S_letterAt I (I 1 3)) (b := 111) (s1 := (30, [some (.ref 1), some (.ref 4), some (.int (f_S_letterAt I (I 1 3)))], [.ref 1], zH (zui I 1 3 ((I 1 3) + 1)) P)) (s2 := (26, [some (.ref 1), some (.ref 4), some (.int (f_S_letterAt I (I 1 3)))], [.ref 1], zH (zui I 1 3 ((I 1 3) + 1)) P)) rfl (fun c1 => ?_) (fun c1 => ?_)
  · rw [if_neg c1] at hx
    refine wp_blk (pc' := 31) (L' := [some (.ref 1), some (.ref 4), some (.int (f_S_letterAt I (I 1 3)))]) (st' := [.int 1, .ref 1]) (h' := zH (zui I 1 3 ((I 1 3) + 1)) P) 1 rfl ?_
    obtain ⟨y1, hy1, hx⟩ := zbind hx
    refine wp_callf (d := 19) (as := [.ref 1, .int 1]) (rest := []) (Ld := [some (.ref 1), some (.int 1), none, none]) (pc' := 34) (st' := [.int y1.1]) (r := some (.int y1.1)) (h1 := zH y1.2 P) rfl rfl rfl rfl rfl rfl rfl rfl rfl (xp_S_readNumbers _ _ _ _ hy1) ?_
    refine wp_ne (a := y1.1) (b := 0) (s1 := (39, [some (.ref 1), some (.ref 4), some (.int (f_S_letterAt I (I 1 3)))], [], zH y1.2 P)) (s2 := (37, [some (.ref 1), some (.ref 4), some (.int (f_S_letterAt I (I 1 3)))], [], zH y1.2 P)) rfl (fun c2 => ?_) (fun c2 => ?_)
    · rw [if_neg c2] at hx
      refine wp_blk (pc' := 40) (L' := [some (.ref 1), some (.ref 4), some (.int (f_S_letterAt I (I 1 3)))]) (st' := [.int (f_S_letterAt I (I 1 3))]) (h' := zH y1.2 P) 1 rfl ?_
      by_cases c3 : (f_S_letterAt I (I 1 3)) = 97
      · rw [if_pos c3] at hx
        refine wp_swk (pc' := 129) (L' := [some (.ref 1), some (.ref 4), some (.int (f_S_letterAt I (I 1 3)))]) (st' := []) (h' := zH y1.2 P) c3 rfl ?_
        refine wp_blk (pc' := 136) (L' := [some (.ref 1), some (.ref 4), some (.int (f_S_letterAt I (I 1 3)))]) (st' := [.int (y1.2 3 0), .ref 4]) (h' := zH y1.2 P) 5 rfl ?_
        refine wp_callf (d := 28) (as := [.ref 4, .int (y1.2 3 0)]) (rest := []) (Ld := [some (.ref 4), some (.int (y1.2 3 0))]) (pc' := 139) (st' := [.int (f_M_tellGone 4 5 6 7 y1.2 (y1.2 3 0))]) (r := some (.int (f_M_tellGone 4 5 6 7 y1.2 (y1.2 3 0)))) (h1 := zH (g_M_tellGone 4 5 6 7 y1.2 (y1.2 3 0)) P) rfl rfl rfl rfl rfl rfl rfl rfl rfl (sp_M_tellGone_4 y1.2 P (y1.2 3 0)) ?_
        cases hx
        exact wp_endb rfl rfl (fb_M_tellGone 4 5 6 7 y1.2 (y1.2 3 0)) ⟨rfl, rfl⟩
      rw [if_neg c3] at hx
      by_cases c4 : (f_S_letterAt I (I 1 3)) = 99
      · rw [if_pos c4] at hx
        refine wp_swk (pc' := 84) (L' := [some (.ref 1), some (.ref 4), some (.int (f_S_letterAt I (I 1 3)))]) (st' := []) (h' := zH y1.2 P) c4 rfl ?_
        refine wp_blk (pc' := 91) (L' := [some (.ref 1), some (.ref 4), some (.int (f_S_letterAt I (I 1 3)))]) (st' := [.int (y1.2 3 0), .ref 4]) (h' := zH y1.2 P) 5 rfl ?_
        refine wp_callf (d := 22) (as := [.ref 4, .int (y1.2 3 0)]) (rest := []) (Ld := [some (.ref 4), some (.int (y1.2 3 0))]) (pc' := 94) (st' := [.int (f_M_addCustomer 4 5 6 7 y1.2 (y1.2 3 0))]) (r := some (.int (f_M_addCustomer 4 5 6 7 y1.2 (y1.2 3 0)))) (h1 := zH (g_M_addCustomer 4 5 6 7 y1.2 (y1.2 3 0)) P) rfl rfl rfl rfl rfl rfl rfl rfl rfl (sp_M_addCustomer_4 y1.2 P (y1.2 3 0)) ?_
        cases hx
        exact wp_endb rfl rfl (fb_M_addCustomer 4 5 6 7 y1.2 (y1.2 3 0)) ⟨rfl, rfl⟩
      rw [if_neg c4] at hx
      by_cases c5 : (f_S_letterAt I (I 1 3)) = 111
      · rw [if_pos c5] at hx
        refine wp_swk (pc' := 95) (L' := [some (.ref 1), some (.ref 4), some (.int (f_S_letterAt I (I 1 3)))]) (st' := []) (h' := zH y1.2 P) c5 rfl ?_
        refine wp_blk (pc' := 114) (L' := [some (.ref 1), some (.ref 4), some (.int (f_S_letterAt I (I 1 3)))]) (st' := [.int (y1.2 3 2), .int (y1.2 3 1), .int (y1.2 3 0), .ref 4]) (h' := zH y1.2 P) 13 rfl ?_
        refine wp_callf (d := 23) (as := [.ref 4, .int (y1.2 3 0), .int (y1.2 3 1), .int (y1.2 3 2)]) (rest := []) (Ld := [some (.ref 4), some (.int (y1.2 3 0)), some (.int (y1.2 3 1)), some (.int (y1.2 3 2))]) (pc' := 117) (st' := [.int (f_M_tellWord 4 5 6 7 y1.2 (y1.2 3 0) (y1.2 3 1) (y1.2 3 2))]) (r := some (.int (f_M_tellWord 4 5 6 7 y1.2 (y1.2 3 0) (y1.2 3 1) (y1.2 3 2)))) (h1 := zH (g_M_tellWord 4 5 6 7 y1.2 (y1.2 3 0) (y1.2 3 1) (y1.2 3 2)) P) rfl rfl rfl rfl rfl rfl rfl rfl rfl (sp_M_tellWord_4 y1.2 P (y1.2 3 0) (y1.2 3 1) (y1.2 3 2)) ?_
        cases hx
        exact wp_endb rfl rfl (fb_M_tellWord 4 5 6 7 y1.2 (y1.2 3 0) (y1.2 3 1) (y1.2 3 2)) ⟨rfl, rfl⟩
      rw [if_neg c5] at hx
      by_cases c6 : (f_S_letterAt I (I 1 3)) = 115
      · rw [if_pos c6] at hx
        refine wp_swk (pc' := 118) (L' := [some (.ref 1), some (.ref 4), some (.int (f_S_letterAt I (I 1 3)))]) (st' := []) (h' := zH y1.2 P) c6 rfl ?_
        refine wp_blk (pc' := 125) (L' := [some (.ref 1), some (.ref 4), some (.int (f_S_letterAt I (I 1 3)))]) (st' := [.int (y1.2 3 0), .ref 4]) (h' := zH y1.2 P) 5 rfl ?_
        refine wp_callf (d := 27) (as := [.ref 4, .int (y1.2 3 0)]) (rest := []) (Ld := [some (.ref 4), some (.int (y1.2 3 0))]) (pc' := 128) (st' := [.int (f_M_tellStone 4 5 6 7 y1.2 (y1.2 3 0))]) (r := some (.int (f_M_tellStone 4 5 6 7 y1.2 (y1.2 3 0)))) (h1 := zH (g_M_tellStone 4 5 6 7 y1.2 (y1.2 3 0)) P) rfl rfl rfl rfl rfl rfl rfl rfl rfl (sp_M_tellStone_4 y1.2 P (y1.2 3 0)) ?_
        cases hx
        exact wp_endb rfl rfl (fb_M_tellStone 4 5 6 7 y1.2 (y1.2 3 0)) ⟨rfl, rfl⟩
      rw [if_neg c6] at hx
      refine wp_lookD rfl rfl rfl (pc2 := 140) rfl (by decide) (by decide) (fun z hz => by simp at hz; rcases hz with rfl | rfl | rfl | rfl <;> first | exact lv_neT c3 rfl | exact lv_neT c4 rfl | exact lv_neT c5 rfl | exact lv_neT c6 rfl) ?_
      refine wp_blk (pc' := 141) (L' := [some (.ref 1), some (.ref 4), some (.int (f_S_letterAt I (I 1 3)))]) (st' := [.int 0]) (h' := zH y1.2 P) 1 rfl ?_
      cases hx
      exact wp_end rfl rfl ⟨rfl, rfl⟩
    · rw [if_pos c2] at hx
      refine wp_blk (pc' := 38) (L' := [some (.ref 1), some (.ref 4), some (.int (f_S_letterAt I (I 1 3)))]) (st' := [.int 0]) (h' := zH y1.2 P) 1 rfl ?_
      cases hx
      exact wp_end rfl rfl ⟨rfl, rfl⟩
  · rw [if_pos c1] at hx
    refine wp_blk (pc' := 31) (L' := [some (.ref 1), some (.ref 4), some (.int (f_S_letterAt I (I 1 3)))]) (st' := [.int 3, .ref 1]) (h' := zH (zui I 1 3 ((I 1 3) + 1)) P) 2 rfl ?_
    obtain ⟨y2, hy2, hx⟩ := zbind hx
    refine wp_callf (d := 19) (as := [.ref 1, .int 3]) (rest := []) (Ld := [some (.ref 1), some (.int 3), none, none]) (pc' := 34) (st' := [.int y2.1]) (r := some (.int y2.1)) (h1 := zH y2.2 P) rfl rfl rfl rfl rfl rfl rfl rfl rfl (xp_S_readNumbers _ _ _ _ hy2) ?_
    refine wp_ne (a := y2.1) (b := 0) (s1 := (39, [some (.ref 1), some (.ref 4), some (.int (f_S_letterAt I (I 1 3)))], [], zH y2.2 P)) (s2 := (37, [some (.ref 1), some (.ref 4), some (.int (f_S_letterAt I (I 1 3)))], [], zH y2.2 P)) rfl (fun c7 => ?_) (fun c7 => ?_)
    · rw [if_neg c7] at hx
      refine wp_blk (pc' := 40) (L' := [some (.ref 1), some (.ref 4), some (.int (f_S_letterAt I (I 1 3)))]) (st' := [.int (f_S_letterAt I (I 1 3))]) (h' := zH y2.2 P) 1 rfl ?_
      by_cases c8 : (f_S_letterAt I (I 1 3)) = 97
      · rw [if_pos c8] at hx
        refine wp_swk (pc' := 129) (L' := [some (.ref 1), some (.ref 4), some (.int (f_S_letterAt I (I 1 3)))]) (st' := []) (h' := zH y2.2 P) c8 rfl ?_
        refine wp_blk (pc' := 136) (L' := [some (.ref 1), some (.ref 4), some (.int (f_S_letterAt I (I 1 3)))]) (st' := [.int (y2.2 3 0), .ref 4]) (h' := zH y2.2 P) 5 rfl ?_
        refine wp_callf (d := 28) (as := [.ref 4, .int (y2.2 3 0)]) (rest := []) (Ld := [some (.ref 4), some (.int (y2.2 3 0))]) (pc' := 139) (st' := [.int (f_M_tellGone 4 5 6 7 y2.2 (y2.2 3 0))]) (r := some (.int (f_M_tellGone 4 5 6 7 y2.2 (y2.2 3 0)))) (h1 := zH (g_M_tellGone 4 5 6 7 y2.2 (y2.2 3 0)) P) rfl rfl rfl rfl rfl rfl rfl rfl rfl (sp_M_tellGone_4 y2.2 P (y2.2 3 0)) ?_
        cases hx
        exact wp_endb rfl rfl (fb_M_tellGone 4 5 6 7 y2.2 (y2.2 3 0)) ⟨rfl, rfl⟩
      rw [if_neg c8] at hx
      by_cases c9 : (f_S_letterAt I (I 1 3)) = 99
      · rw [if_pos c9] at hx
        refine wp_swk (pc' := 84) (L' := [some (.ref 1), some (.ref 4), some (.int (f_S_letterAt I (I 1 3)))]) (st' := []) (h' := zH y2.2 P) c9 rfl ?_
        refine wp_blk (pc' := 91) (L' := [some (.ref 1), some (.ref 4), some (.int (f_S_letterAt I (I 1 3)))]) (st' := [.int (y2.2 3 0), .ref 4]) (h' := zH y2.2 P) 5 rfl ?_
        refine wp_callf (d := 22) (as := [.ref 4, .int (y2.2 3 0)]) (rest := []) (Ld := [some (.ref 4), some (.int (y2.2 3 0))]) (pc' := 94) (st' := [.int (f_M_addCustomer 4 5 6 7 y2.2 (y2.2 3 0))]) (r := some (.int (f_M_addCustomer 4 5 6 7 y2.2 (y2.2 3 0)))) (h1 := zH (g_M_addCustomer 4 5 6 7 y2.2 (y2.2 3 0)) P) rfl rfl rfl rfl rfl rfl rfl rfl rfl (sp_M_addCustomer_4 y2.2 P (y2.2 3 0)) ?_
        cases hx
        exact wp_endb rfl rfl (fb_M_addCustomer 4 5 6 7 y2.2 (y2.2 3 0)) ⟨rfl, rfl⟩
      rw [if_neg c9] at hx
      by_cases c10 : (f_S_letterAt I (I 1 3)) = 111
      · rw [if_pos c10] at hx
        refine wp_swk (pc' := 95) (L' := [some (.ref 1), some (.ref 4), some (.int (f_S_letterAt I (I 1 3)))]) (st' := []) (h' := zH y2.2 P) c10 rfl ?_
        refine wp_blk (pc' := 114) (L' := [some (.ref 1), some (.ref 4), some (.int (f_S_letterAt I (I 1 3)))]) (st' := [.int (y2.2 3 2), .int (y2.2 3 1), .int (y2.2 3 0), .ref 4]) (h' := zH y2.2 P) 13 rfl ?_
        refine wp_callf (d := 23) (as := [.ref 4, .int (y2.2 3 0), .int (y2.2 3 1), .int (y2.2 3 2)]) (rest := []) (Ld := [some (.ref 4), some (.int (y2.2 3 0)), some (.int (y2.2 3 1)), some (.int (y2.2 3 2))]) (pc' := 117) (st' := [.int (f_M_tellWord 4 5 6 7 y2.2 (y2.2 3 0) (y2.2 3 1) (y2.2 3 2))]) (r := some (.int (f_M_tellWord 4 5 6 7 y2.2 (y2.2 3 0) (y2.2 3 1) (y2.2 3 2)))) (h1 := zH (g_M_tellWord 4 5 6 7 y2.2 (y2.2 3 0) (y2.2 3 1) (y2.2 3 2)) P) rfl rfl rfl rfl rfl rfl rfl rfl rfl (sp_M_tellWord_4 y2.2 P (y2.2 3 0) (y2.2 3 1) (y2.2 3 2)) ?_
        cases hx
        exact wp_endb rfl rfl (fb_M_tellWord 4 5 6 7 y2.2 (y2.2 3 0) (y2.2 3 1) (y2.2 3 2)) ⟨rfl, rfl⟩
      rw [if_neg c10] at hx
      by_cases c11 : (f_S_letterAt I (I 1 3)) = 115
      · rw [if_pos c11] at hx
        refine wp_swk (pc' := 118) (L' := [some (.ref 1), some (.ref 4), some (.int (f_S_letterAt I (I 1 3)))]) (st' := []) (h' := zH y2.2 P) c11 rfl ?_
        refine wp_blk (pc' := 125) (L' := [some (.ref 1), some (.ref 4), some (.int (f_S_letterAt I (I 1 3)))]) (st' := [.int (y2.2 3 0), .ref 4]) (h' := zH y2.2 P) 5 rfl ?_
        refine wp_callf (d := 27) (as := [.ref 4, .int (y2.2 3 0)]) (rest := []) (Ld := [some (.ref 4), some (.int (y2.2 3 0))]) (pc' := 128) (st' := [.int (f_M_tellStone 4 5 6 7 y2.2 (y2.2 3 0))]) (r := some (.int (f_M_tellStone 4 5 6 7 y2.2 (y2.2 3 0)))) (h1 := zH (g_M_tellStone 4 5 6 7 y2.2 (y2.2 3 0)) P) rfl rfl rfl rfl rfl rfl rfl rfl rfl (sp_M_tellStone_4 y2.2 P (y2.2 3 0)) ?_
        cases hx
        exact wp_endb rfl rfl (fb_M_tellStone 4 5 6 7 y2.2 (y2.2 3 0)) ⟨rfl, rfl⟩
      rw [if_neg c11] at hx
      refine wp_lookD rfl rfl rfl (pc2 := 140) rfl (by decide) (by decide) (fun z hz => by simp at hz; rcases hz with rfl | rfl | rfl | rfl <;> first | exact lv_neT c8 rfl | exact lv_neT c9 rfl | exact lv_neT c10 rfl | exact lv_neT c11 rfl) ?_
      refine wp_blk (pc' := 141) (L' := [some (.ref 1), some (.ref 4), some (.int (f_S_letterAt I (I 1 3)))]) (st' := [.int 0]) (h' := zH y2.2 P) 1 rfl ?_
      cases hx
      exact wp_end rfl rfl ⟨rfl, rfl⟩
    · rw [if_pos c7] at hx
      refine wp_blk (pc' := 38) (L' := [some (.ref 1), some (.ref 4), some (.int (f_S_letterAt I (I 1 3)))]) (st' := [.int 0]) (h' := zH y2.2 P) 1 rfl ?_
      cases hx
      exact wp_end rfl rfl ⟨rfl, rfl⟩
set_option maxRecDepth 100000 in
theorem xp_S_readItem_4_G {X : Nat × (Nat → Int32)} (I : Nat → Nat → Int32) (P : Nat → Nat → Option Nat) (r : Int32 × (Nat → Nat → Int32)) (hx : x_S_readItem 4 5 6 7 I = some r) : Wf X 17 [some (.ref 1), some (.ref 4), none] (zG I P) (some (.int r.1)) (zG r.2 P) := by
  unfold Wf
  unfold x_S_readItem at hx
  refine wp_blk (pc' := 5) (L' := [some (.ref 1), some (.ref 4), none]) (st' := [.int (I 1 3), .ref 1]) (h' := zG I P) 3 rfl ?_
  refine wp_callf (d := 18) (as := [.ref 1, .int (I 1 3)]) (rest := []) (Ld := [some (.ref 1), some (.int (I 1 3))]) (pc' := 8) (st' := [.int (f_S_letterAt I (I 1 3))]) (r := some (.int (f_S_letterAt I (I 1 3)))) (h1 := zG I P) rfl rfl rfl rfl rfl rfl rfl rfl rfl (sp_S_letterAt_G I P (I 1 3)) ?_
  refine wp_blk (pc' := 23) (L' := [some (.ref 1), some (.ref 4), some (.int (f_S_letterAt I (I 1 3)))]) (st' := [.int 111, .int (f_S_letterAt I (I 1 3)), .ref 1]) (h' := zG (zui I 1 3 ((I 1 3) + 1)) P) 10 rfl ?_
  refine wp_ne (a := f_S_letterAt I (I 1 3)) (b := 111) (s1 := (30, [some (.ref 1), some (.ref 4), some (.int (f_S_letterAt I (I 1 3)))], [.ref 1], zG (zui I 1 3 ((I 1 3) + 1)) P)) (s2 := (26, [some (.ref 1), some (.ref 4), some (.int (f_S_letterAt I (I 1 3)))], [.ref 1], zG (zui I 1 3 ((I 1 3) + 1)) P)) rfl (fun c1 => ?_) (fun c1 => ?_)
  · rw [if_neg c1] at hx
    refine wp_blk (pc' := 31) (L' := [some (.ref 1), some (.ref 4), some (.int (f_S_letterAt I (I 1 3)))]) (st' := [.int 1, .ref 1]) (h' := zG (zui I 1 3 ((I 1 3) + 1)) P) 1 rfl ?_
    obtain ⟨y1, hy1, hx⟩ := zbind hx
    refine wp_callf (d := 19) (as := [.ref 1, .int 1]) (rest := []) (Ld := [some (.ref 1), some (.int 1), none, none]) (pc' := 34) (st' := [.int y1.1]) (r := some (.int y1.1)) (h1 := zG y1.2 P) rfl rfl rfl rfl rfl rfl rfl rfl rfl (xp_S_readNumbers_G _ _ _ _ hy1) ?_
    refine wp_ne (a := y1.1) (b := 0) (s1 := (39, [some (.ref 1), some (.ref 4), some (.int (f_S_letterAt I (I 1 3)))], [], zG y1.2 P)) (s2 := (37, [some (.ref 1), some (.ref 4), some (.int (f_S_letterAt I (I 1 3)))], [], zG y1.2 P)) rfl (fun c2 => ?_) (fun c2 => ?_)
    · rw [if_neg c2] at hx
      refine wp_blk (pc' := 40) (L' := [some (.ref 1), some (.ref 4), some (.int (f_S_letterAt I (I 1 3)))]) (st' := [.int (f_S_letterAt I (I 1 3))]) (h' := zG y1.2 P) 1 rfl ?_
      by_cases c3 : (f_S_letterAt I (I 1 3)) = 97
      · rw [if_pos c3] at hx
        refine wp_swk (pc' := 129) (L' := [some (.ref 1), some (.ref 4), some (.int (f_S_letterAt I (I 1 3)))]) (st' := []) (h' := zG y1.2 P) c3 rfl ?_
        refine wp_blk (pc' := 136) (L' := [some (.ref 1), some (.ref 4), some (.int (f_S_letterAt I (I 1 3)))]) (st' := [.int (y1.2 3 0), .ref 4]) (h' := zG y1.2 P) 5 rfl ?_
        refine wp_callf (d := 28) (as := [.ref 4, .int (y1.2 3 0)]) (rest := []) (Ld := [some (.ref 4), some (.int (y1.2 3 0))]) (pc' := 139) (st' := [.int (f_M_tellGone 4 5 6 7 y1.2 (y1.2 3 0))]) (r := some (.int (f_M_tellGone 4 5 6 7 y1.2 (y1.2 3 0)))) (h1 := zG (g_M_tellGone 4 5 6 7 y1.2 (y1.2 3 0)) P) rfl rfl rfl rfl rfl rfl rfl rfl rfl (sp_M_tellGone_4_G y1.2 P (y1.2 3 0)) ?_
        cases hx
        exact wp_endb rfl rfl (fb_M_tellGone 4 5 6 7 y1.2 (y1.2 3 0)) ⟨rfl, rfl⟩
      rw [if_neg c3] at hx
      by_cases c4 : (f_S_letterAt I (I 1 3)) = 99
      · rw [if_pos c4] at hx
        refine wp_swk (pc' := 84) (L' := [some (.ref 1), some (.ref 4), some (.int (f_S_letterAt I (I 1 3)))]) (st' := []) (h' := zG y1.2 P) c4 rfl ?_
        refine wp_blk (pc' := 91) (L' := [some (.ref 1), some (.ref 4), some (.int (f_S_letterAt I (I 1 3)))]) (st' := [.int (y1.2 3 0), .ref 4]) (h' := zG y1.2 P) 5 rfl ?_
        refine wp_callf (d := 22) (as := [.ref 4, .int (y1.2 3 0)]) (rest := []) (Ld := [some (.ref 4), some (.int (y1.2 3 0))]) (pc' := 94) (st' := [.int (f_M_addCustomer 4 5 6 7 y1.2 (y1.2 3 0))]) (r := some (.int (f_M_addCustomer 4 5 6 7 y1.2 (y1.2 3 0)))) (h1 := zG (g_M_addCustomer 4 5 6 7 y1.2 (y1.2 3 0)) P) rfl rfl rfl rfl rfl rfl rfl rfl rfl (sp_M_addCustomer_4_G y1.2 P (y1.2 3 0)) ?_
        cases hx
        exact wp_endb rfl rfl (fb_M_addCustomer 4 5 6 7 y1.2 (y1.2 3 0)) ⟨rfl, rfl⟩
      rw [if_neg c4] at hx
      by_cases c5 : (f_S_letterAt I (I 1 3)) = 111
      · rw [if_pos c5] at hx
        refine wp_swk (pc' := 95) (L' := [some (.ref 1), some (.ref 4), some (.int (f_S_letterAt I (I 1 3)))]) (st' := []) (h' := zG y1.2 P) c5 rfl ?_
        refine wp_blk (pc' := 114) (L' := [some (.ref 1), some (.ref 4), some (.int (f_S_letterAt I (I 1 3)))]) (st' := [.int (y1.2 3 2), .int (y1.2 3 1), .int (y1.2 3 0), .ref 4]) (h' := zG y1.2 P) 13 rfl ?_
        refine wp_callf (d := 23) (as := [.ref 4, .int (y1.2 3 0), .int (y1.2 3 1), .int (y1.2 3 2)]) (rest := []) (Ld := [some (.ref 4), some (.int (y1.2 3 0)), some (.int (y1.2 3 1)), some (.int (y1.2 3 2))]) (pc' := 117) (st' := [.int (f_M_tellWord 4 5 6 7 y1.2 (y1.2 3 0) (y1.2 3 1) (y1.2 3 2))]) (r := some (.int (f_M_tellWord 4 5 6 7 y1.2 (y1.2 3 0) (y1.2 3 1) (y1.2 3 2)))) (h1 := zG (g_M_tellWord 4 5 6 7 y1.2 (y1.2 3 0) (y1.2 3 1) (y1.2 3 2)) P) rfl rfl rfl rfl rfl rfl rfl rfl rfl (sp_M_tellWord_4_G y1.2 P (y1.2 3 0) (y1.2 3 1) (y1.2 3 2)) ?_
        cases hx
        exact wp_endb rfl rfl (fb_M_tellWord 4 5 6 7 y1.2 (y1.2 3 0) (y1.2 3 1) (y1.2 3 2)) ⟨rfl, rfl⟩
      rw [if_neg c5] at hx
      by_cases c6 : (f_S_letterAt I (I 1 3)) = 115
      · rw [if_pos c6] at hx
        refine wp_swk (pc' := 118) (L' := [some (.ref 1), some (.ref 4), some (.int (f_S_letterAt I (I 1 3)))]) (st' := []) (h' := zG y1.2 P) c6 rfl ?_
        refine wp_blk (pc' := 125) (L' := [some (.ref 1), some (.ref 4), some (.int (f_S_letterAt I (I 1 3)))]) (st' := [.int (y1.2 3 0), .ref 4]) (h' := zG y1.2 P) 5 rfl ?_
        refine wp_callf (d := 27) (as := [.ref 4, .int (y1.2 3 0)]) (rest := []) (Ld := [some (.ref 4), some (.int (y1.2 3 0))]) (pc' := 128) (st' := [.int (f_M_tellStone 4 5 6 7 y1.2 (y1.2 3 0))]) (r := some (.int (f_M_tellStone 4 5 6 7 y1.2 (y1.2 3 0)))) (h1 := zG (g_M_tellStone 4 5 6 7 y1.2 (y1.2 3 0)) P) rfl rfl rfl rfl rfl rfl rfl rfl rfl (sp_M_tellStone_4_G y1.2 P (y1.2 3 0)) ?_
        cases hx
        exact wp_endb rfl rfl (fb_M_tellStone 4 5 6 7 y1.2 (y1.2 3 0)) ⟨rfl, rfl⟩
      rw [if_neg c6] at hx
      refine wp_lookD rfl rfl rfl (pc2 := 140) rfl (by decide) (by decide) (fun z hz => by simp at hz; rcases hz with rfl | rfl | rfl | rfl <;> first | exact lv_neT c3 rfl | exact lv_neT c4 rfl | exact lv_neT c5 rfl | exact lv_neT c6 rfl) ?_
      refine wp_blk (pc' := 141) (L' := [some (.ref 1), some (.ref 4), some (.int (f_S_letterAt I (I 1 3)))]) (st' := [.int 0]) (h' := zG y1.2 P) 1 rfl ?_
      cases hx
      exact wp_end rfl rfl ⟨rfl, rfl⟩
    · rw [if_pos c2] at hx
      refine wp_blk (pc' := 38) (L' := [some (.ref 1), some (.ref 4), some (.int (f_S_letterAt I (I 1 3)))]) (st' := [.int 0]) (h' := zG y1.2 P) 1 rfl ?_
      cases hx
      exact wp_end rfl rfl ⟨rfl, rfl⟩
  · rw [if_pos c1] at hx
    refine wp_blk (pc' := 31) (L' := [some (.ref 1), some (.ref 4), some (.int (f_S_letterAt I (I 1 3)))]) (st' := [.int 3, .ref 1]) (h' := zG (zui I 1 3 ((I 1 3) + 1)) P) 2 rfl ?_
    obtain ⟨y2, hy2, hx⟩ := zbind hx
    refine wp_callf (d := 19) (as := [.ref 1, .int 3]) (rest := []) (Ld := [some (.ref 1), some (.int 3), none, none]) (pc' := 34) (st' := [.int y2.1]) (r := some (.int y2.1)) (h1 := zG y2.2 P) rfl rfl rfl rfl rfl rfl rfl rfl rfl (xp_S_readNumbers_G _ _ _ _ hy2) ?_
    refine wp_ne (a := y2.1) (b := 0) (s1 := (39, [some (.ref 1), some (.ref 4), some (.int (f_S_letterAt I (I 1 3)))], [], zG y2.2 P)) (s2 := (37, [some (.ref 1), some (.ref 4), some (.int (f_S_letterAt I (I 1 3)))], [], zG y2.2 P)) rfl (fun c7 => ?_) (fun c7 => ?_)
    · rw [if_neg c7] at hx
      refine wp_blk (pc' := 40) (L' := [some (.ref 1), some (.ref 4), some (.int (f_S_letterAt I (I 1 3)))]) (st' := [.int (f_S_letterAt I (I 1 3))]) (h' := zG y2.2 P) 1 rfl ?_
      by_cases c8 : (f_S_letterAt I (I 1 3)) = 97
      · rw [if_pos c8] at hx
        refine wp_swk (pc' := 129) (L' := [some (.ref 1), some (.ref 4), some (.int (f_S_letterAt I (I 1 3)))]) (st' := []) (h' := zG y2.2 P) c8 rfl ?_
        refine wp_blk (pc' := 136) (L' := [some (.ref 1), some (.ref 4), some (.int (f_S_letterAt I (I 1 3)))]) (st' := [.int (y2.2 3 0), .ref 4]) (h' := zG y2.2 P) 5 rfl ?_
        refine wp_callf (d := 28) (as := [.ref 4, .int (y2.2 3 0)]) (rest := []) (Ld := [some (.ref 4), some (.int (y2.2 3 0))]) (pc' := 139) (st' := [.int (f_M_tellGone 4 5 6 7 y2.2 (y2.2 3 0))]) (r := some (.int (f_M_tellGone 4 5 6 7 y2.2 (y2.2 3 0)))) (h1 := zG (g_M_tellGone 4 5 6 7 y2.2 (y2.2 3 0)) P) rfl rfl rfl rfl rfl rfl rfl rfl rfl (sp_M_tellGone_4_G y2.2 P (y2.2 3 0)) ?_
        cases hx
        exact wp_endb rfl rfl (fb_M_tellGone 4 5 6 7 y2.2 (y2.2 3 0)) ⟨rfl, rfl⟩
      rw [if_neg c8] at hx
      by_cases c9 : (f_S_letterAt I (I 1 3)) = 99
      · rw [if_pos c9] at hx
        refine wp_swk (pc' := 84) (L' := [some (.ref 1), some (.ref 4), some (.int (f_S_letterAt I (I 1 3)))]) (st' := []) (h' := zG y2.2 P) c9 rfl ?_
        refine wp_blk (pc' := 91) (L' := [some (.ref 1), some (.ref 4), some (.int (f_S_letterAt I (I 1 3)))]) (st' := [.int (y2.2 3 0), .ref 4]) (h' := zG y2.2 P) 5 rfl ?_
        refine wp_callf (d := 22) (as := [.ref 4, .int (y2.2 3 0)]) (rest := []) (Ld := [some (.ref 4), some (.int (y2.2 3 0))]) (pc' := 94) (st' := [.int (f_M_addCustomer 4 5 6 7 y2.2 (y2.2 3 0))]) (r := some (.int (f_M_addCustomer 4 5 6 7 y2.2 (y2.2 3 0)))) (h1 := zG (g_M_addCustomer 4 5 6 7 y2.2 (y2.2 3 0)) P) rfl rfl rfl rfl rfl rfl rfl rfl rfl (sp_M_addCustomer_4_G y2.2 P (y2.2 3 0)) ?_
        cases hx
        exact wp_endb rfl rfl (fb_M_addCustomer 4 5 6 7 y2.2 (y2.2 3 0)) ⟨rfl, rfl⟩
      rw [if_neg c9] at hx
      by_cases c10 : (f_S_letterAt I (I 1 3)) = 111
      · rw [if_pos c10] at hx
        refine wp_swk (pc' := 95) (L' := [some (.ref 1), some (.ref 4), some (.int (f_S_letterAt I (I 1 3)))]) (st' := []) (h' := zG y2.2 P) c10 rfl ?_
        refine wp_blk (pc' := 114) (L' := [some (.ref 1), some (.ref 4), some (.int (f_S_letterAt I (I 1 3)))]) (st' := [.int (y2.2 3 2), .int (y2.2 3 1), .int (y2.2 3 0), .ref 4]) (h' := zG y2.2 P) 13 rfl ?_
        refine wp_callf (d := 23) (as := [.ref 4, .int (y2.2 3 0), .int (y2.2 3 1), .int (y2.2 3 2)]) (rest := []) (Ld := [some (.ref 4), some (.int (y2.2 3 0)), some (.int (y2.2 3 1)), some (.int (y2.2 3 2))]) (pc' := 117) (st' := [.int (f_M_tellWord 4 5 6 7 y2.2 (y2.2 3 0) (y2.2 3 1) (y2.2 3 2))]) (r := some (.int (f_M_tellWord 4 5 6 7 y2.2 (y2.2 3 0) (y2.2 3 1) (y2.2 3 2)))) (h1 := zG (g_M_tellWord 4 5 6 7 y2.2 (y2.2 3 0) (y2.2 3 1) (y2.2 3 2)) P) rfl rfl rfl rfl rfl rfl rfl rfl rfl (sp_M_tellWord_4_G y2.2 P (y2.2 3 0) (y2.2 3 1) (y2.2 3 2)) ?_
        cases hx
        exact wp_endb rfl rfl (fb_M_tellWord 4 5 6 7 y2.2 (y2.2 3 0) (y2.2 3 1) (y2.2 3 2)) ⟨rfl, rfl⟩
      rw [if_neg c10] at hx
      by_cases c11 : (f_S_letterAt I (I 1 3)) = 115
      · rw [if_pos c11] at hx
        refine wp_swk (pc' := 118) (L' := [some (.ref 1), some (.ref 4), some (.int (f_S_letterAt I (I 1 3)))]) (st' := []) (h' := zG y2.2 P) c11 rfl ?_
        refine wp_blk (pc' := 125) (L' := [some (.ref 1), some (.ref 4), some (.int (f_S_letterAt I (I 1 3)))]) (st' := [.int (y2.2 3 0), .ref 4]) (h' := zG y2.2 P) 5 rfl ?_
        refine wp_callf (d := 27) (as := [.ref 4, .int (y2.2 3 0)]) (rest := []) (Ld := [some (.ref 4), some (.int (y2.2 3 0))]) (pc' := 128) (st' := [.int (f_M_tellStone 4 5 6 7 y2.2 (y2.2 3 0))]) (r := some (.int (f_M_tellStone 4 5 6 7 y2.2 (y2.2 3 0)))) (h1 := zG (g_M_tellStone 4 5 6 7 y2.2 (y2.2 3 0)) P) rfl rfl rfl rfl rfl rfl rfl rfl rfl (sp_M_tellStone_4_G y2.2 P (y2.2 3 0)) ?_
        cases hx
        exact wp_endb rfl rfl (fb_M_tellStone 4 5 6 7 y2.2 (y2.2 3 0)) ⟨rfl, rfl⟩
      rw [if_neg c11] at hx
      refine wp_lookD rfl rfl rfl (pc2 := 140) rfl (by decide) (by decide) (fun z hz => by simp at hz; rcases hz with rfl | rfl | rfl | rfl <;> first | exact lv_neT c8 rfl | exact lv_neT c9 rfl | exact lv_neT c10 rfl | exact lv_neT c11 rfl) ?_
      refine wp_blk (pc' := 141) (L' := [some (.ref 1), some (.ref 4), some (.int (f_S_letterAt I (I 1 3)))]) (st' := [.int 0]) (h' := zG y2.2 P) 1 rfl ?_
      cases hx
      exact wp_end rfl rfl ⟨rfl, rfl⟩
    · rw [if_pos c7] at hx
      refine wp_blk (pc' := 38) (L' := [some (.ref 1), some (.ref 4), some (.int (f_S_letterAt I (I 1 3)))]) (st' := [.int 0]) (h' := zG y2.2 P) 1 rfl ?_
      cases hx
      exact wp_end rfl rfl ⟨rfl, rfl⟩
set_option maxRecDepth 100000 in
theorem xp_S_readItem_8 {X : Nat × (Nat → Int32)} (I : Nat → Nat → Int32) (P : Nat → Nat → Option Nat) (r : Int32 × (Nat → Nat → Int32)) (hx : x_S_readItem 8 9 10 11 I = some r) : Wf X 17 [some (.ref 1), some (.ref 8), none] (zH I P) (some (.int r.1)) (zH r.2 P) := by
  unfold Wf
  unfold x_S_readItem at hx
  refine wp_blk (pc' := 5) (L' := [some (.ref 1), some (.ref 8), none]) (st' := [.int (I 1 3), .ref 1]) (h' := zH I P) 3 rfl ?_
  refine wp_callf (d := 18) (as := [.ref 1, .int (I 1 3)]) (rest := []) (Ld := [some (.ref 1), some (.int (I 1 3))]) (pc' := 8) (st' := [.int (f_S_letterAt I (I 1 3))]) (r := some (.int (f_S_letterAt I (I 1 3)))) (h1 := zH I P) rfl rfl rfl rfl rfl rfl rfl rfl rfl (sp_S_letterAt I P (I 1 3)) ?_
  refine wp_blk (pc' := 23) (L' := [some (.ref 1), some (.ref 8), some (.int (f_S_letterAt I (I 1 3)))]) (st' := [.int 111, .int (f_S_letterAt I (I 1 3)), .ref 1]) (h' := zH (zui I 1 3 ((I 1 3) + 1)) P) 10 rfl ?_
  refine wp_ne (a := f_S_letterAt I (I 1 3)) (b := 111) (s1 := (30, [some (.ref 1), some (.ref 8), some (.int (f_S_letterAt I (I 1 3)))], [.ref 1], zH (zui I 1 3 ((I 1 3) + 1)) P)) (s2 := (26, [some (.ref 1), some (.ref 8), some (.int (f_S_letterAt I (I 1 3)))], [.ref 1], zH (zui I 1 3 ((I 1 3) + 1)) P)) rfl (fun c1 => ?_) (fun c1 => ?_)
  · rw [if_neg c1] at hx
    refine wp_blk (pc' := 31) (L' := [some (.ref 1), some (.ref 8), some (.int (f_S_letterAt I (I 1 3)))]) (st' := [.int 1, .ref 1]) (h' := zH (zui I 1 3 ((I 1 3) + 1)) P) 1 rfl ?_
    obtain ⟨y1, hy1, hx⟩ := zbind hx
    refine wp_callf (d := 19) (as := [.ref 1, .int 1]) (rest := []) (Ld := [some (.ref 1), some (.int 1), none, none]) (pc' := 34) (st' := [.int y1.1]) (r := some (.int y1.1)) (h1 := zH y1.2 P) rfl rfl rfl rfl rfl rfl rfl rfl rfl (xp_S_readNumbers _ _ _ _ hy1) ?_
    refine wp_ne (a := y1.1) (b := 0) (s1 := (39, [some (.ref 1), some (.ref 8), some (.int (f_S_letterAt I (I 1 3)))], [], zH y1.2 P)) (s2 := (37, [some (.ref 1), some (.ref 8), some (.int (f_S_letterAt I (I 1 3)))], [], zH y1.2 P)) rfl (fun c2 => ?_) (fun c2 => ?_)
    · rw [if_neg c2] at hx
      refine wp_blk (pc' := 40) (L' := [some (.ref 1), some (.ref 8), some (.int (f_S_letterAt I (I 1 3)))]) (st' := [.int (f_S_letterAt I (I 1 3))]) (h' := zH y1.2 P) 1 rfl ?_
      by_cases c3 : (f_S_letterAt I (I 1 3)) = 97
      · rw [if_pos c3] at hx
        refine wp_swk (pc' := 129) (L' := [some (.ref 1), some (.ref 8), some (.int (f_S_letterAt I (I 1 3)))]) (st' := []) (h' := zH y1.2 P) c3 rfl ?_
        refine wp_blk (pc' := 136) (L' := [some (.ref 1), some (.ref 8), some (.int (f_S_letterAt I (I 1 3)))]) (st' := [.int (y1.2 3 0), .ref 8]) (h' := zH y1.2 P) 5 rfl ?_
        refine wp_callf (d := 28) (as := [.ref 8, .int (y1.2 3 0)]) (rest := []) (Ld := [some (.ref 8), some (.int (y1.2 3 0))]) (pc' := 139) (st' := [.int (f_M_tellGone 8 9 10 11 y1.2 (y1.2 3 0))]) (r := some (.int (f_M_tellGone 8 9 10 11 y1.2 (y1.2 3 0)))) (h1 := zH (g_M_tellGone 8 9 10 11 y1.2 (y1.2 3 0)) P) rfl rfl rfl rfl rfl rfl rfl rfl rfl (sp_M_tellGone_8 y1.2 P (y1.2 3 0)) ?_
        cases hx
        exact wp_endb rfl rfl (fb_M_tellGone 8 9 10 11 y1.2 (y1.2 3 0)) ⟨rfl, rfl⟩
      rw [if_neg c3] at hx
      by_cases c4 : (f_S_letterAt I (I 1 3)) = 99
      · rw [if_pos c4] at hx
        refine wp_swk (pc' := 84) (L' := [some (.ref 1), some (.ref 8), some (.int (f_S_letterAt I (I 1 3)))]) (st' := []) (h' := zH y1.2 P) c4 rfl ?_
        refine wp_blk (pc' := 91) (L' := [some (.ref 1), some (.ref 8), some (.int (f_S_letterAt I (I 1 3)))]) (st' := [.int (y1.2 3 0), .ref 8]) (h' := zH y1.2 P) 5 rfl ?_
        refine wp_callf (d := 22) (as := [.ref 8, .int (y1.2 3 0)]) (rest := []) (Ld := [some (.ref 8), some (.int (y1.2 3 0))]) (pc' := 94) (st' := [.int (f_M_addCustomer 8 9 10 11 y1.2 (y1.2 3 0))]) (r := some (.int (f_M_addCustomer 8 9 10 11 y1.2 (y1.2 3 0)))) (h1 := zH (g_M_addCustomer 8 9 10 11 y1.2 (y1.2 3 0)) P) rfl rfl rfl rfl rfl rfl rfl rfl rfl (sp_M_addCustomer_8 y1.2 P (y1.2 3 0)) ?_
        cases hx
        exact wp_endb rfl rfl (fb_M_addCustomer 8 9 10 11 y1.2 (y1.2 3 0)) ⟨rfl, rfl⟩
      rw [if_neg c4] at hx
      by_cases c5 : (f_S_letterAt I (I 1 3)) = 111
      · rw [if_pos c5] at hx
        refine wp_swk (pc' := 95) (L' := [some (.ref 1), some (.ref 8), some (.int (f_S_letterAt I (I 1 3)))]) (st' := []) (h' := zH y1.2 P) c5 rfl ?_
        refine wp_blk (pc' := 114) (L' := [some (.ref 1), some (.ref 8), some (.int (f_S_letterAt I (I 1 3)))]) (st' := [.int (y1.2 3 2), .int (y1.2 3 1), .int (y1.2 3 0), .ref 8]) (h' := zH y1.2 P) 13 rfl ?_
        refine wp_callf (d := 23) (as := [.ref 8, .int (y1.2 3 0), .int (y1.2 3 1), .int (y1.2 3 2)]) (rest := []) (Ld := [some (.ref 8), some (.int (y1.2 3 0)), some (.int (y1.2 3 1)), some (.int (y1.2 3 2))]) (pc' := 117) (st' := [.int (f_M_tellWord 8 9 10 11 y1.2 (y1.2 3 0) (y1.2 3 1) (y1.2 3 2))]) (r := some (.int (f_M_tellWord 8 9 10 11 y1.2 (y1.2 3 0) (y1.2 3 1) (y1.2 3 2)))) (h1 := zH (g_M_tellWord 8 9 10 11 y1.2 (y1.2 3 0) (y1.2 3 1) (y1.2 3 2)) P) rfl rfl rfl rfl rfl rfl rfl rfl rfl (sp_M_tellWord_8 y1.2 P (y1.2 3 0) (y1.2 3 1) (y1.2 3 2)) ?_
        cases hx
        exact wp_endb rfl rfl (fb_M_tellWord 8 9 10 11 y1.2 (y1.2 3 0) (y1.2 3 1) (y1.2 3 2)) ⟨rfl, rfl⟩
      rw [if_neg c5] at hx
      by_cases c6 : (f_S_letterAt I (I 1 3)) = 115
      · rw [if_pos c6] at hx
        refine wp_swk (pc' := 118) (L' := [some (.ref 1), some (.ref 8), some (.int (f_S_letterAt I (I 1 3)))]) (st' := []) (h' := zH y1.2 P) c6 rfl ?_
        refine wp_blk (pc' := 125) (L' := [some (.ref 1), some (.ref 8), some (.int (f_S_letterAt I (I 1 3)))]) (st' := [.int (y1.2 3 0), .ref 8]) (h' := zH y1.2 P) 5 rfl ?_
        refine wp_callf (d := 27) (as := [.ref 8, .int (y1.2 3 0)]) (rest := []) (Ld := [some (.ref 8), some (.int (y1.2 3 0))]) (pc' := 128) (st' := [.int (f_M_tellStone 8 9 10 11 y1.2 (y1.2 3 0))]) (r := some (.int (f_M_tellStone 8 9 10 11 y1.2 (y1.2 3 0)))) (h1 := zH (g_M_tellStone 8 9 10 11 y1.2 (y1.2 3 0)) P) rfl rfl rfl rfl rfl rfl rfl rfl rfl (sp_M_tellStone_8 y1.2 P (y1.2 3 0)) ?_
        cases hx
        exact wp_endb rfl rfl (fb_M_tellStone 8 9 10 11 y1.2 (y1.2 3 0)) ⟨rfl, rfl⟩
      rw [if_neg c6] at hx
      refine wp_lookD rfl rfl rfl (pc2 := 140) rfl (by decide) (by decide) (fun z hz => by simp at hz; rcases hz with rfl | rfl | rfl | rfl <;> first | exact lv_neT c3 rfl | exact lv_neT c4 rfl | exact lv_neT c5 rfl | exact lv_neT c6 rfl) ?_
      refine wp_blk (pc' := 141) (L' := [some (.ref 1), some (.ref 8), some (.int (f_S_letterAt I (I 1 3)))]) (st' := [.int 0]) (h' := zH y1.2 P) 1 rfl ?_
      cases hx
      exact wp_end rfl rfl ⟨rfl, rfl⟩
    · rw [if_pos c2] at hx
      refine wp_blk (pc' := 38) (L' := [some (.ref 1), some (.ref 8), some (.int (f_S_letterAt I (I 1 3)))]) (st' := [.int 0]) (h' := zH y1.2 P) 1 rfl ?_
      cases hx
      exact wp_end rfl rfl ⟨rfl, rfl⟩
  · rw [if_pos c1] at hx
    refine wp_blk (pc' := 31) (L' := [some (.ref 1), some (.ref 8), some (.int (f_S_letterAt I (I 1 3)))]) (st' := [.int 3, .ref 1]) (h' := zH (zui I 1 3 ((I 1 3) + 1)) P) 2 rfl ?_
    obtain ⟨y2, hy2, hx⟩ := zbind hx
    refine wp_callf (d := 19) (as := [.ref 1, .int 3]) (rest := []) (Ld := [some (.ref 1), some (.int 3), none, none]) (pc' := 34) (st' := [.int y2.1]) (r := some (.int y2.1)) (h1 := zH y2.2 P) rfl rfl rfl rfl rfl rfl rfl rfl rfl (xp_S_readNumbers _ _ _ _ hy2) ?_
    refine wp_ne (a := y2.1) (b := 0) (s1 := (39, [some (.ref 1), some (.ref 8), some (.int (f_S_letterAt I (I 1 3)))], [], zH y2.2 P)) (s2 := (37, [some (.ref 1), some (.ref 8), some (.int (f_S_letterAt I (I 1 3)))], [], zH y2.2 P)) rfl (fun c7 => ?_) (fun c7 => ?_)
    · rw [if_neg c7] at hx
      refine wp_blk (pc' := 40) (L' := [some (.ref 1), some (.ref 8), some (.int (f_S_letterAt I (I 1 3)))]) (st' := [.int (f_S_letterAt I (I 1 3))]) (h' := zH y2.2 P) 1 rfl ?_
      by_cases c8 : (f_S_letterAt I (I 1 3)) = 97
      · rw [if_pos c8] at hx
        refine wp_swk (pc' := 129) (L' := [some (.ref 1), some (.ref 8), some (.int (f_S_letterAt I (I 1 3)))]) (st' := []) (h' := zH y2.2 P) c8 rfl ?_
        refine wp_blk (pc' := 136) (L' := [some (.ref 1), some (.ref 8), some (.int (f_S_letterAt I (I 1 3)))]) (st' := [.int (y2.2 3 0), .ref 8]) (h' := zH y2.2 P) 5 rfl ?_
        refine wp_callf (d := 28) (as := [.ref 8, .int (y2.2 3 0)]) (rest := []) (Ld := [some (.ref 8), some (.int (y2.2 3 0))]) (pc' := 139) (st' := [.int (f_M_tellGone 8 9 10 11 y2.2 (y2.2 3 0))]) (r := some (.int (f_M_tellGone 8 9 10 11 y2.2 (y2.2 3 0)))) (h1 := zH (g_M_tellGone 8 9 10 11 y2.2 (y2.2 3 0)) P) rfl rfl rfl rfl rfl rfl rfl rfl rfl (sp_M_tellGone_8 y2.2 P (y2.2 3 0)) ?_
        cases hx
        exact wp_endb rfl rfl (fb_M_tellGone 8 9 10 11 y2.2 (y2.2 3 0)) ⟨rfl, rfl⟩
      rw [if_neg c8] at hx
      by_cases c9 : (f_S_letterAt I (I 1 3)) = 99
      · rw [if_pos c9] at hx
        refine wp_swk (pc' := 84) (L' := [some (.ref 1), some (.ref 8), some (.int (f_S_letterAt I (I 1 3)))]) (st' := []) (h' := zH y2.2 P) c9 rfl ?_
        refine wp_blk (pc' := 91) (L' := [some (.ref 1), some (.ref 8), some (.int (f_S_letterAt I (I 1 3)))]) (st' := [.int (y2.2 3 0), .ref 8]) (h' := zH y2.2 P) 5 rfl ?_
        refine wp_callf (d := 22) (as := [.ref 8, .int (y2.2 3 0)]) (rest := []) (Ld := [some (.ref 8), some (.int (y2.2 3 0))]) (pc' := 94) (st' := [.int (f_M_addCustomer 8 9 10 11 y2.2 (y2.2 3 0))]) (r := some (.int (f_M_addCustomer 8 9 10 11 y2.2 (y2.2 3 0)))) (h1 := zH (g_M_addCustomer 8 9 10 11 y2.2 (y2.2 3 0)) P) rfl rfl rfl rfl rfl rfl rfl rfl rfl (sp_M_addCustomer_8 y2.2 P (y2.2 3 0)) ?_
        cases hx
        exact wp_endb rfl rfl (fb_M_addCustomer 8 9 10 11 y2.2 (y2.2 3 0)) ⟨rfl, rfl⟩
      rw [if_neg c9] at hx
      by_cases c10 : (f_S_letterAt I (I 1 3)) = 111
      · rw [if_pos c10] at hx
        refine wp_swk (pc' := 95) (L' := [some (.ref 1), some (.ref 8), some (.int (f_S_letterAt I (I 1 3)))]) (st' := []) (h' := zH y2.2 P) c10 rfl ?_
        refine wp_blk (pc' := 114) (L' := [some (.ref 1), some (.ref 8), some (.int (f_S_letterAt I (I 1 3)))]) (st' := [.int (y2.2 3 2), .int (y2.2 3 1), .int (y2.2 3 0), .ref 8]) (h' := zH y2.2 P) 13 rfl ?_
        refine wp_callf (d := 23) (as := [.ref 8, .int (y2.2 3 0), .int (y2.2 3 1), .int (y2.2 3 2)]) (rest := []) (Ld := [some (.ref 8), some (.int (y2.2 3 0)), some (.int (y2.2 3 1)), some (.int (y2.2 3 2))]) (pc' := 117) (st' := [.int (f_M_tellWord 8 9 10 11 y2.2 (y2.2 3 0) (y2.2 3 1) (y2.2 3 2))]) (r := some (.int (f_M_tellWord 8 9 10 11 y2.2 (y2.2 3 0) (y2.2 3 1) (y2.2 3 2)))) (h1 := zH (g_M_tellWord 8 9 10 11 y2.2 (y2.2 3 0) (y2.2 3 1) (y2.2 3 2)) P) rfl rfl rfl rfl rfl rfl rfl rfl rfl (sp_M_tellWord_8 y2.2 P (y2.2 3 0) (y2.2 3 1) (y2.2 3 2)) ?_
        cases hx
        exact wp_endb rfl rfl (fb_M_tellWord 8 9 10 11 y2.2 (y2.2 3 0) (y2.2 3 1) (y2.2 3 2)) ⟨rfl, rfl⟩
      rw [if_neg c10] at hx
      by_cases c11 : (f_S_letterAt I (I 1 3)) = 115
      · rw [if_pos c11] at hx
        refine wp_swk (pc' := 118) (L' := [some (.ref 1), some (.ref 8), some (.int (f_S_letterAt I (I 1 3)))]) (st' := []) (h' := zH y2.2 P) c11 rfl ?_
        refine wp_blk (pc' := 125) (L' := [some (.ref 1), some (.ref 8), some (.int (f_S_letterAt I (I 1 3)))]) (st' := [.int (y2.2 3 0), .ref 8]) (h' := zH y2.2 P) 5 rfl ?_
        refine wp_callf (d := 27) (as := [.ref 8, .int (y2.2 3 0)]) (rest := []) (Ld := [some (.ref 8), some (.int (y2.2 3 0))]) (pc' := 128) (st' := [.int (f_M_tellStone 8 9 10 11 y2.2 (y2.2 3 0))]) (r := some (.int (f_M_tellStone 8 9 10 11 y2.2 (y2.2 3 0)))) (h1 := zH (g_M_tellStone 8 9 10 11 y2.2 (y2.2 3 0)) P) rfl rfl rfl rfl rfl rfl rfl rfl rfl (sp_M_tellStone_8 y2.2 P (y2.2 3 0)) ?_
        cases hx
        exact wp_endb rfl rfl (fb_M_tellStone 8 9 10 11 y2.2 (y2.2 3 0)) ⟨rfl, rfl⟩
      rw [if_neg c11] at hx
      refine wp_lookD rfl rfl rfl (pc2 := 140) rfl (by decide) (by decide) (fun z hz => by simp at hz; rcases hz with rfl | rfl | rfl | rfl <;> first | exact lv_neT c8 rfl | exact lv_neT c9 rfl | exact lv_neT c10 rfl | exact lv_neT c11 rfl) ?_
      refine wp_blk (pc' := 141) (L' := [some (.ref 1), some (.ref 8), some (.int (f_S_letterAt I (I 1 3)))]) (st' := [.int 0]) (h' := zH y2.2 P) 1 rfl ?_
      cases hx
      exact wp_end rfl rfl ⟨rfl, rfl⟩
    · rw [if_pos c7] at hx
      refine wp_blk (pc' := 38) (L' := [some (.ref 1), some (.ref 8), some (.int (f_S_letterAt I (I 1 3)))]) (st' := [.int 0]) (h' := zH y2.2 P) 1 rfl ?_
      cases hx
      exact wp_end rfl rfl ⟨rfl, rfl⟩
set_option maxRecDepth 100000 in
theorem xp_S_readItem_8_G {X : Nat × (Nat → Int32)} (I : Nat → Nat → Int32) (P : Nat → Nat → Option Nat) (r : Int32 × (Nat → Nat → Int32)) (hx : x_S_readItem 8 9 10 11 I = some r) : Wf X 17 [some (.ref 1), some (.ref 8), none] (zG I P) (some (.int r.1)) (zG r.2 P) := by
  unfold Wf
  unfold x_S_readItem at hx
  refine wp_blk (pc' := 5) (L' := [some (.ref 1), some (.ref 8), none]) (st' := [.int (I 1 3), .ref 1]) (h' := zG I P) 3 rfl ?_
  refine wp_callf (d := 18) (as := [.ref 1, .int (I 1 3)]) (rest := []) (Ld := [some (.ref 1), some (.int (I 1 3))]) (pc' := 8) (st' := [.int (f_S_letterAt I (I 1 3))]) (r := some (.int (f_S_letterAt I (I 1 3)))) (h1 := zG I P) rfl rfl rfl rfl rfl rfl rfl rfl rfl (sp_S_letterAt_G I P (I 1 3)) ?_
  refine wp_blk (pc' := 23) (L' := [some (.ref 1), some (.ref 8), some (.int (f_S_letterAt I (I 1 3)))]) (st' := [.int 111, .int (f_S_letterAt I (I 1 3)), .ref 1]) (h' := zG (zui I 1 3 ((I 1 3) + 1)) P) 10 rfl ?_
  refine wp_ne (a := f_S_letterAt I (I 1 3)) (b := 111) (s1 := (30, [some (.ref 1), some (.ref 8), some (.int (f_S_letterAt I (I 1 3)))], [.ref 1], zG (zui I 1 3 ((I 1 3) + 1)) P)) (s2 := (26, [some (.ref 1), some (.ref 8), some (.int (f_S_letterAt I (I 1 3)))], [.ref 1], zG (zui I 1 3 ((I 1 3) + 1)) P)) rfl (fun c1 => ?_) (fun c1 => ?_)
  · rw [if_neg c1] at hx
    refine wp_blk (pc' := 31) (L' := [some (.ref 1), some (.ref 8), some (.int (f_S_letterAt I (I 1 3)))]) (st' := [.int 1, .ref 1]) (h' := zG (zui I 1 3 ((I 1 3) + 1)) P) 1 rfl ?_
    obtain ⟨y1, hy1, hx⟩ := zbind hx
    refine wp_callf (d := 19) (as := [.ref 1, .int 1]) (rest := []) (Ld := [some (.ref 1), some (.int 1), none, none]) (pc' := 34) (st' := [.int y1.1]) (r := some (.int y1.1)) (h1 := zG y1.2 P) rfl rfl rfl rfl rfl rfl rfl rfl rfl (xp_S_readNumbers_G _ _ _ _ hy1) ?_
    refine wp_ne (a := y1.1) (b := 0) (s1 := (39, [some (.ref 1), some (.ref 8), some (.int (f_S_letterAt I (I 1 3)))], [], zG y1.2 P)) (s2 := (37, [some (.ref 1), some (.ref 8), some (.int (f_S_letterAt I (I 1 3)))], [], zG y1.2 P)) rfl (fun c2 => ?_) (fun c2 => ?_)
    · rw [if_neg c2] at hx
      refine wp_blk (pc' := 40) (L' := [some (.ref 1), some (.ref 8), some (.int (f_S_letterAt I (I 1 3)))]) (st' := [.int (f_S_letterAt I (I 1 3))]) (h' := zG y1.2 P) 1 rfl ?_
      by_cases c3 : (f_S_letterAt I (I 1 3)) = 97
      · rw [if_pos c3] at hx
        refine wp_swk (pc' := 129) (L' := [some (.ref 1), some (.ref 8), some (.int (f_S_letterAt I (I 1 3)))]) (st' := []) (h' := zG y1.2 P) c3 rfl ?_
        refine wp_blk (pc' := 136) (L' := [some (.ref 1), some (.ref 8), some (.int (f_S_letterAt I (I 1 3)))]) (st' := [.int (y1.2 3 0), .ref 8]) (h' := zG y1.2 P) 5 rfl ?_
        refine wp_callf (d := 28) (as := [.ref 8, .int (y1.2 3 0)]) (rest := []) (Ld := [some (.ref 8), some (.int (y1.2 3 0))]) (pc' := 139) (st' := [.int (f_M_tellGone 8 9 10 11 y1.2 (y1.2 3 0))]) (r := some (.int (f_M_tellGone 8 9 10 11 y1.2 (y1.2 3 0)))) (h1 := zG (g_M_tellGone 8 9 10 11 y1.2 (y1.2 3 0)) P) rfl rfl rfl rfl rfl rfl rfl rfl rfl (sp_M_tellGone_8_G y1.2 P (y1.2 3 0)) ?_
        cases hx
        exact wp_endb rfl rfl (fb_M_tellGone 8 9 10 11 y1.2 (y1.2 3 0)) ⟨rfl, rfl⟩
      rw [if_neg c3] at hx
      by_cases c4 : (f_S_letterAt I (I 1 3)) = 99
      · rw [if_pos c4] at hx
        refine wp_swk (pc' := 84) (L' := [some (.ref 1), some (.ref 8), some (.int (f_S_letterAt I (I 1 3)))]) (st' := []) (h' := zG y1.2 P) c4 rfl ?_
        refine wp_blk (pc' := 91) (L' := [some (.ref 1), some (.ref 8), some (.int (f_S_letterAt I (I 1 3)))]) (st' := [.int (y1.2 3 0), .ref 8]) (h' := zG y1.2 P) 5 rfl ?_
        refine wp_callf (d := 22) (as := [.ref 8, .int (y1.2 3 0)]) (rest := []) (Ld := [some (.ref 8), some (.int (y1.2 3 0))]) (pc' := 94) (st' := [.int (f_M_addCustomer 8 9 10 11 y1.2 (y1.2 3 0))]) (r := some (.int (f_M_addCustomer 8 9 10 11 y1.2 (y1.2 3 0)))) (h1 := zG (g_M_addCustomer 8 9 10 11 y1.2 (y1.2 3 0)) P) rfl rfl rfl rfl rfl rfl rfl rfl rfl (sp_M_addCustomer_8_G y1.2 P (y1.2 3 0)) ?_
        cases hx
        exact wp_endb rfl rfl (fb_M_addCustomer 8 9 10 11 y1.2 (y1.2 3 0)) ⟨rfl, rfl⟩
      rw [if_neg c4] at hx
      by_cases c5 : (f_S_letterAt I (I 1 3)) = 111
      · rw [if_pos c5] at hx
        refine wp_swk (pc' := 95) (L' := [some (.ref 1), some (.ref 8), some (.int (f_S_letterAt I (I 1 3)))]) (st' := []) (h' := zG y1.2 P) c5 rfl ?_
        refine wp_blk (pc' := 114) (L' := [some (.ref 1), some (.ref 8), some (.int (f_S_letterAt I (I 1 3)))]) (st' := [.int (y1.2 3 2), .int (y1.2 3 1), .int (y1.2 3 0), .ref 8]) (h' := zG y1.2 P) 13 rfl ?_
        refine wp_callf (d := 23) (as := [.ref 8, .int (y1.2 3 0), .int (y1.2 3 1), .int (y1.2 3 2)]) (rest := []) (Ld := [some (.ref 8), some (.int (y1.2 3 0)), some (.int (y1.2 3 1)), some (.int (y1.2 3 2))]) (pc' := 117) (st' := [.int (f_M_tellWord 8 9 10 11 y1.2 (y1.2 3 0) (y1.2 3 1) (y1.2 3 2))]) (r := some (.int (f_M_tellWord 8 9 10 11 y1.2 (y1.2 3 0) (y1.2 3 1) (y1.2 3 2)))) (h1 := zG (g_M_tellWord 8 9 10 11 y1.2 (y1.2 3 0) (y1.2 3 1) (y1.2 3 2)) P) rfl rfl rfl rfl rfl rfl rfl rfl rfl (sp_M_tellWord_8_G y1.2 P (y1.2 3 0) (y1.2 3 1) (y1.2 3 2)) ?_
        cases hx
        exact wp_endb rfl rfl (fb_M_tellWord 8 9 10 11 y1.2 (y1.2 3 0) (y1.2 3 1) (y1.2 3 2)) ⟨rfl, rfl⟩
      rw [if_neg c5] at hx
      by_cases c6 : (f_S_letterAt I (I 1 3)) = 115
      · rw [if_pos c6] at hx
        refine wp_swk (pc' := 118) (L' := [some (.ref 1), some (.ref 8), some (.int (f_S_letterAt I (I 1 3)))]) (st' := []) (h' := zG y1.2 P) c6 rfl ?_
        refine wp_blk (pc' := 125) (L' := [some (.ref 1), some (.ref 8), some (.int (f_S_letterAt I (I 1 3)))]) (st' := [.int (y1.2 3 0), .ref 8]) (h' := zG y1.2 P) 5 rfl ?_
        refine wp_callf (d := 27) (as := [.ref 8, .int (y1.2 3 0)]) (rest := []) (Ld := [some (.ref 8), some (.int (y1.2 3 0))]) (pc' := 128) (st' := [.int (f_M_tellStone 8 9 10 11 y1.2 (y1.2 3 0))]) (r := some (.int (f_M_tellStone 8 9 10 11 y1.2 (y1.2 3 0)))) (h1 := zG (g_M_tellStone 8 9 10 11 y1.2 (y1.2 3 0)) P) rfl rfl rfl rfl rfl rfl rfl rfl rfl (sp_M_tellStone_8_G y1.2 P (y1.2 3 0)) ?_
        cases hx
        exact wp_endb rfl rfl (fb_M_tellStone 8 9 10 11 y1.2 (y1.2 3 0)) ⟨rfl, rfl⟩
      rw [if_neg c6] at hx
      refine wp_lookD rfl rfl rfl (pc2 := 140) rfl (by decide) (by decide) (fun z hz => by simp at hz; rcases hz with rfl | rfl | rfl | rfl <;> first | exact lv_neT c3 rfl | exact lv_neT c4 rfl | exact lv_neT c5 rfl | exact lv_neT c6 rfl) ?_
      refine wp_blk (pc' := 141) (L' := [some (.ref 1), some (.ref 8), some (.int (f_S_letterAt I (I 1 3)))]) (st' := [.int 0]) (h' := zG y1.2 P) 1 rfl ?_
      cases hx
      exact wp_end rfl rfl ⟨rfl, rfl⟩
    · rw [if_pos c2] at hx
      refine wp_blk (pc' := 38) (L' := [some (.ref 1), some (.ref 8), some (.int (f_S_letterAt I (I 1 3)))]) (st' := [.int 0]) (h' := zG y1.2 P) 1 rfl ?_
      cases hx
      exact wp_end rfl rfl ⟨rfl, rfl⟩
  · rw [if_pos c1] at hx
    refine wp_blk (pc' := 31) (L' := [some (.ref 1), some (.ref 8), some (.int (f_S_letterAt I (I 1 3)))]) (st' := [.int 3, .ref 1]) (h' := zG (zui I 1 3 ((I 1 3) + 1)) P) 2 rfl ?_
    obtain ⟨y2, hy2, hx⟩ := zbind hx
    refine wp_callf (d := 19) (as := [.ref 1, .int 3]) (rest := []) (Ld := [some (.ref 1), some (.int 3), none, none]) (pc' := 34) (st' := [.int y2.1]) (r := some (.int y2.1)) (h1 := zG y2.2 P) rfl rfl rfl rfl rfl rfl rfl rfl rfl (xp_S_readNumbers_G _ _ _ _ hy2) ?_
    refine wp_ne (a := y2.1) (b := 0) (s1 := (39, [some (.ref 1), some (.ref 8), some (.int (f_S_letterAt I (I 1 3)))], [], zG y2.2 P)) (s2 := (37, [some (.ref 1), some (.ref 8), some (.int (f_S_letterAt I (I 1 3)))], [], zG y2.2 P)) rfl (fun c7 => ?_) (fun c7 => ?_)
    · rw [if_neg c7] at hx
      refine wp_blk (pc' := 40) (L' := [some (.ref 1), some (.ref 8), some (.int (f_S_letterAt I (I 1 3)))]) (st' := [.int (f_S_letterAt I (I 1 3))]) (h' := zG y2.2 P) 1 rfl ?_
      by_cases c8 : (f_S_letterAt I (I 1 3)) = 97
      · rw [if_pos c8] at hx
        refine wp_swk (pc' := 129) (L' := [some (.ref 1), some (.ref 8), some (.int (f_S_letterAt I (I 1 3)))]) (st' := []) (h' := zG y2.2 P) c8 rfl ?_
        refine wp_blk (pc' := 136) (L' := [some (.ref 1), some (.ref 8), some (.int (f_S_letterAt I (I 1 3)))]) (st' := [.int (y2.2 3 0), .ref 8]) (h' := zG y2.2 P) 5 rfl ?_
        refine wp_callf (d := 28) (as := [.ref 8, .int (y2.2 3 0)]) (rest := []) (Ld := [some (.ref 8), some (.int (y2.2 3 0))]) (pc' := 139) (st' := [.int (f_M_tellGone 8 9 10 11 y2.2 (y2.2 3 0))]) (r := some (.int (f_M_tellGone 8 9 10 11 y2.2 (y2.2 3 0)))) (h1 := zG (g_M_tellGone 8 9 10 11 y2.2 (y2.2 3 0)) P) rfl rfl rfl rfl rfl rfl rfl rfl rfl (sp_M_tellGone_8_G y2.2 P (y2.2 3 0)) ?_
        cases hx
        exact wp_endb rfl rfl (fb_M_tellGone 8 9 10 11 y2.2 (y2.2 3 0)) ⟨rfl, rfl⟩
      rw [if_neg c8] at hx
      by_cases c9 : (f_S_letterAt I (I 1 3)) = 99
      · rw [if_pos c9] at hx
        refine wp_swk (pc' := 84) (L' := [some (.ref 1), some (.ref 8), some (.int (f_S_letterAt I (I 1 3)))]) (st' := []) (h' := zG y2.2 P) c9 rfl ?_
        refine wp_blk (pc' := 91) (L' := [some (.ref 1), some (.ref 8), some (.int (f_S_letterAt I (I 1 3)))]) (st' := [.int (y2.2 3 0), .ref 8]) (h' := zG y2.2 P) 5 rfl ?_
        refine wp_callf (d := 22) (as := [.ref 8, .int (y2.2 3 0)]) (rest := []) (Ld := [some (.ref 8), some (.int (y2.2 3 0))]) (pc' := 94) (st' := [.int (f_M_addCustomer 8 9 10 11 y2.2 (y2.2 3 0))]) (r := some (.int (f_M_addCustomer 8 9 10 11 y2.2 (y2.2 3 0)))) (h1 := zG (g_M_addCustomer 8 9 10 11 y2.2 (y2.2 3 0)) P) rfl rfl rfl rfl rfl rfl rfl rfl rfl (sp_M_addCustomer_8_G y2.2 P (y2.2 3 0)) ?_
        cases hx
        exact wp_endb rfl rfl (fb_M_addCustomer 8 9 10 11 y2.2 (y2.2 3 0)) ⟨rfl, rfl⟩
      rw [if_neg c9] at hx
      by_cases c10 : (f_S_letterAt I (I 1 3)) = 111
      · rw [if_pos c10] at hx
        refine wp_swk (pc' := 95) (L' := [some (.ref 1), some (.ref 8), some (.int (f_S_letterAt I (I 1 3)))]) (st' := []) (h' := zG y2.2 P) c10 rfl ?_
        refine wp_blk (pc' := 114) (L' := [some (.ref 1), some (.ref 8), some (.int (f_S_letterAt I (I 1 3)))]) (st' := [.int (y2.2 3 2), .int (y2.2 3 1), .int (y2.2 3 0), .ref 8]) (h' := zG y2.2 P) 13 rfl ?_
        refine wp_callf (d := 23) (as := [.ref 8, .int (y2.2 3 0), .int (y2.2 3 1), .int (y2.2 3 2)]) (rest := []) (Ld := [some (.ref 8), some (.int (y2.2 3 0)), some (.int (y2.2 3 1)), some (.int (y2.2 3 2))]) (pc' := 117) (st' := [.int (f_M_tellWord 8 9 10 11 y2.2 (y2.2 3 0) (y2.2 3 1) (y2.2 3 2))]) (r := some (.int (f_M_tellWord 8 9 10 11 y2.2 (y2.2 3 0) (y2.2 3 1) (y2.2 3 2)))) (h1 := zG (g_M_tellWord 8 9 10 11 y2.2 (y2.2 3 0) (y2.2 3 1) (y2.2 3 2)) P) rfl rfl rfl rfl rfl rfl rfl rfl rfl (sp_M_tellWord_8_G y2.2 P (y2.2 3 0) (y2.2 3 1) (y2.2 3 2)) ?_
        cases hx
        exact wp_endb rfl rfl (fb_M_tellWord 8 9 10 11 y2.2 (y2.2 3 0) (y2.2 3 1) (y2.2 3 2)) ⟨rfl, rfl⟩
      rw [if_neg c10] at hx
      by_cases c11 : (f_S_letterAt I (I 1 3)) = 115
      · rw [if_pos c11] at hx
        refine wp_swk (pc' := 118) (L' := [some (.ref 1), some (.ref 8), some (.int (f_S_letterAt I (I 1 3)))]) (st' := []) (h' := zG y2.2 P) c11 rfl ?_
        refine wp_blk (pc' := 125) (L' := [some (.ref 1), some (.ref 8), some (.int (f_S_letterAt I (I 1 3)))]) (st' := [.int (y2.2 3 0), .ref 8]) (h' := zG y2.2 P) 5 rfl ?_
        refine wp_callf (d := 27) (as := [.ref 8, .int (y2.2 3 0)]) (rest := []) (Ld := [some (.ref 8), some (.int (y2.2 3 0))]) (pc' := 128) (st' := [.int (f_M_tellStone 8 9 10 11 y2.2 (y2.2 3 0))]) (r := some (.int (f_M_tellStone 8 9 10 11 y2.2 (y2.2 3 0)))) (h1 := zG (g_M_tellStone 8 9 10 11 y2.2 (y2.2 3 0)) P) rfl rfl rfl rfl rfl rfl rfl rfl rfl (sp_M_tellStone_8_G y2.2 P (y2.2 3 0)) ?_
        cases hx
        exact wp_endb rfl rfl (fb_M_tellStone 8 9 10 11 y2.2 (y2.2 3 0)) ⟨rfl, rfl⟩
      rw [if_neg c11] at hx
      refine wp_lookD rfl rfl rfl (pc2 := 140) rfl (by decide) (by decide) (fun z hz => by simp at hz; rcases hz with rfl | rfl | rfl | rfl <;> first | exact lv_neT c8 rfl | exact lv_neT c9 rfl | exact lv_neT c10 rfl | exact lv_neT c11 rfl) ?_
      refine wp_blk (pc' := 141) (L' := [some (.ref 1), some (.ref 8), some (.int (f_S_letterAt I (I 1 3)))]) (st' := [.int 0]) (h' := zG y2.2 P) 1 rfl ?_
      cases hx
      exact wp_end rfl rfl ⟨rfl, rfl⟩
    · rw [if_pos c7] at hx
      refine wp_blk (pc' := 38) (L' := [some (.ref 1), some (.ref 8), some (.int (f_S_letterAt I (I 1 3)))]) (st' := [.int 0]) (h' := zG y2.2 P) 1 rfl ?_
      cases hx
      exact wp_end rfl rfl ⟨rfl, rfl⟩
def l_S_readInto_11 (m mk ml mt : Nat) : Nat → (Nat → Nat → Int32) → Int32 → Option (Int32 × (Nat → Nat → Int32))
  | 0, _, _ => none
  | n + 1, I, x2 => if 200 ≤ x2 then (some (-4, I)) else (if I 1 2 ≤ I 1 3 then (some (-4, I)) else ((x_S_readItem m mk ml mt I).bind (fun q2 => if q2.1 = 0 then (some (I 1 3, q2.2)) else (l_S_readInto_11 m mk ml mt n q2.2 (x2 + 1)))))
def x_S_readInto (m mk ml mt : Nat) (I : Nat → Nat → Int32) : Option (Int32 × (Nat → Nat → Int32)) := (x_M_clear m mk ml mt I).bind (fun q1 => l_S_readInto_11 m mk ml mt 1000 (zui q1.2 1 3 0) 0)
set_option maxRecDepth 100000 in
theorem lp_S_readInto_11_4 {X : Nat × (Nat → Int32)} (P : Nat → Nat → Option Nat) : ∀ (n : Nat) (I : Nat → Nat → Int32) (x2 : Int32) (r : Int32 × (Nat → Nat → Int32)), l_S_readInto_11 4 5 6 7 n I x2 = some r → Wp X 14 11 [some (.ref 1), some (.ref 4), some (.int x2), none] [] (zH I P) (fun r2 h2 => r2 = some (.int r.1) ∧ h2 = zH r.2 P) := by
  intro n
  induction n with
  | zero => intro I x2 r hx; cases hx
  | succ n ih =>
    intro I x2 r hx
    rw [l_S_readInto_11] at hx
    refine wp_blk (pc' := 15) (L' := [some (.ref 1), some (.ref 4), some (.int x2), none]) (st' := [.int 200, .int x2]) (h' := zH I P) 2 rfl ?_
    refine wp_ge (a := x2) (b := 200) (s1 := (50, [some (.ref 1), some (.ref 4), some (.int x2), none], [], zH I P)) (s2 := (18, [some (.ref 1), some (.ref 4), some (.int x2), none], [], zH I P)) rfl (fun c1 => ?_) (fun c1 => ?_)
    · rw [if_pos c1] at hx
      refine wp_blk (pc' := 52) (L' := [some (.ref 1), some (.ref 4), some (.int x2), none]) (st' := [.int (-4)]) (h' := zH I P) 1 rfl ?_
      cases hx
      exact wp_end rfl rfl ⟨rfl, rfl⟩
    · rw [if_neg c1] at hx
      refine wp_blk (pc' := 26) (L' := [some (.ref 1), some (.ref 4), some (.int x2), none]) (st' := [.int (I 1 2), .int (I 1 3)]) (h' := zH I P) 4 rfl ?_
      refine wp_ge (a := I 1 3) (b := I 1 2) (s1 := (50, [some (.ref 1), some (.ref 4), some (.int x2), none], [], zH I P)) (s2 := (29, [some (.ref 1), some (.ref 4), some (.int x2), none], [], zH I P)) rfl (fun c2 => ?_) (fun c2 => ?_)
      · rw [if_pos c2] at hx
        refine wp_blk (pc' := 52) (L' := [some (.ref 1), some (.ref 4), some (.int x2), none]) (st' := [.int (-4)]) (h' := zH I P) 1 rfl ?_
        cases hx
        exact wp_end rfl rfl ⟨rfl, rfl⟩
      · rw [if_neg c2] at hx
        refine wp_blk (pc' := 36) (L' := [some (.ref 1), some (.ref 4), some (.int x2), some (.int (I 1 3))]) (st' := [.ref 4, .ref 1]) (h' := zH I P) 5 rfl ?_
        obtain ⟨y1, hy1, hx⟩ := zbind hx
        refine wp_callf (d := 17) (as := [.ref 1, .ref 4]) (rest := []) (Ld := [some (.ref 1), some (.ref 4), none]) (pc' := 39) (st' := [.int y1.1]) (r := some (.int y1.1)) (h1 := zH y1.2 P) rfl rfl rfl rfl rfl rfl rfl rfl rfl (xp_S_readItem_4 _ _  _ hy1) ?_
        refine wp_ne (a := y1.1) (b := 0) (s1 := (44, [some (.ref 1), some (.ref 4), some (.int x2), some (.int (I 1 3))], [], zH y1.2 P)) (s2 := (42, [some (.ref 1), some (.ref 4), some (.int x2), some (.int (I 1 3))], [], zH y1.2 P)) rfl (fun c3 => ?_) (fun c3 => ?_)
        · rw [if_neg c3] at hx
          refine wp_blk (pc' := 11) (L' := [some (.ref 1), some (.ref 4), some (.int (x2 + 1)), some (.int (I 1 3))]) (st' := []) (h' := zH y1.2 P) 2 rfl ?_
          exact wp_forget (ih _ _ _ hx) (zle_c (zle_c (zle_c (zle_n zle_nil))))
        · rw [if_pos c3] at hx
          refine wp_blk (pc' := 43) (L' := [some (.ref 1), some (.ref 4), some (.int x2), some (.int (I 1 3))]) (st' := [.int (I 1 3)]) (h' := zH y1.2 P) 1 rfl ?_
          cases hx
          exact wp_end rfl rfl ⟨rfl, rfl⟩
set_option maxRecDepth 100000 in
theorem xp_S_readInto_4 {X : Nat × (Nat → Int32)} (I : Nat → Nat → Int32) (P : Nat → Nat → Option Nat) (r : Int32 × (Nat → Nat → Int32)) (hx : x_S_readInto 4 5 6 7 I = some r) : Wf X 14 [some (.ref 1), some (.ref 4), none, none] (zH I P) (some (.int r.1)) (zH r.2 P) := by
  unfold Wf
  unfold x_S_readInto at hx
  refine wp_blk (pc' := 1) (L' := [some (.ref 1), some (.ref 4), none, none]) (st' := [.ref 4]) (h' := zH I P) 1 rfl ?_
  obtain ⟨y1, hy1, hx⟩ := zbind hx
  refine wp_callf (d := 15) (as := [.ref 4]) (rest := []) (Ld := [some (.ref 4)]) (pc' := 4) (st' := []) (r := none) (h1 := zH y1.2 P) rfl rfl rfl rfl rfl rfl rfl rfl rfl (xp_M_clear_4 _ _  _ hy1) ?_
  refine wp_blk (pc' := 11) (L' := [some (.ref 1), some (.ref 4), some (.int 0), none]) (st' := []) (h' := zH (zui y1.2 1 3 0) P) 5 rfl ?_
  exact lp_S_readInto_11_4 P _ _ _ _ hx
set_option maxRecDepth 100000 in
theorem lp_S_readInto_11_4_G {X : Nat × (Nat → Int32)} (P : Nat → Nat → Option Nat) : ∀ (n : Nat) (I : Nat → Nat → Int32) (x2 : Int32) (r : Int32 × (Nat → Nat → Int32)), l_S_readInto_11 4 5 6 7 n I x2 = some r → Wp X 14 11 [some (.ref 1), some (.ref 4), some (.int x2), none] [] (zG I P) (fun r2 h2 => r2 = some (.int r.1) ∧ h2 = zG r.2 P) := by
  intro n
  induction n with
  | zero => intro I x2 r hx; cases hx
  | succ n ih =>
    intro I x2 r hx
    rw [l_S_readInto_11] at hx
    refine wp_blk (pc' := 15) (L' := [some (.ref 1), some (.ref 4), some (.int x2), none]) (st' := [.int 200, .int x2]) (h' := zG I P) 2 rfl ?_
    refine wp_ge (a := x2) (b := 200) (s1 := (50, [some (.ref 1), some (.ref 4), some (.int x2), none], [], zG I P)) (s2 := (18, [some (.ref 1), some (.ref 4), some (.int x2), none], [], zG I P)) rfl (fun c1 => ?_) (fun c1 => ?_)
    · rw [if_pos c1] at hx
      refine wp_blk (pc' := 52) (L' := [some (.ref 1), some (.ref 4), some (.int x2), none]) (st' := [.int (-4)]) (h' := zG I P) 1 rfl ?_
      cases hx
      exact wp_end rfl rfl ⟨rfl, rfl⟩
    · rw [if_neg c1] at hx
      refine wp_blk (pc' := 26) (L' := [some (.ref 1), some (.ref 4), some (.int x2), none]) (st' := [.int (I 1 2), .int (I 1 3)]) (h' := zG I P) 4 rfl ?_
      refine wp_ge (a := I 1 3) (b := I 1 2) (s1 := (50, [some (.ref 1), some (.ref 4), some (.int x2), none], [], zG I P)) (s2 := (29, [some (.ref 1), some (.ref 4), some (.int x2), none], [], zG I P)) rfl (fun c2 => ?_) (fun c2 => ?_)
      · rw [if_pos c2] at hx
        refine wp_blk (pc' := 52) (L' := [some (.ref 1), some (.ref 4), some (.int x2), none]) (st' := [.int (-4)]) (h' := zG I P) 1 rfl ?_
        cases hx
        exact wp_end rfl rfl ⟨rfl, rfl⟩
      · rw [if_neg c2] at hx
        refine wp_blk (pc' := 36) (L' := [some (.ref 1), some (.ref 4), some (.int x2), some (.int (I 1 3))]) (st' := [.ref 4, .ref 1]) (h' := zG I P) 5 rfl ?_
        obtain ⟨y1, hy1, hx⟩ := zbind hx
        refine wp_callf (d := 17) (as := [.ref 1, .ref 4]) (rest := []) (Ld := [some (.ref 1), some (.ref 4), none]) (pc' := 39) (st' := [.int y1.1]) (r := some (.int y1.1)) (h1 := zG y1.2 P) rfl rfl rfl rfl rfl rfl rfl rfl rfl (xp_S_readItem_4_G _ _  _ hy1) ?_
        refine wp_ne (a := y1.1) (b := 0) (s1 := (44, [some (.ref 1), some (.ref 4), some (.int x2), some (.int (I 1 3))], [], zG y1.2 P)) (s2 := (42, [some (.ref 1), some (.ref 4), some (.int x2), some (.int (I 1 3))], [], zG y1.2 P)) rfl (fun c3 => ?_) (fun c3 => ?_)
        · rw [if_neg c3] at hx
          refine wp_blk (pc' := 11) (L' := [some (.ref 1), some (.ref 4), some (.int (x2 + 1)), some (.int (I 1 3))]) (st' := []) (h' := zG y1.2 P) 2 rfl ?_
          exact wp_forget (ih _ _ _ hx) (zle_c (zle_c (zle_c (zle_n zle_nil))))
        · rw [if_pos c3] at hx
          refine wp_blk (pc' := 43) (L' := [some (.ref 1), some (.ref 4), some (.int x2), some (.int (I 1 3))]) (st' := [.int (I 1 3)]) (h' := zG y1.2 P) 1 rfl ?_
          cases hx
          exact wp_end rfl rfl ⟨rfl, rfl⟩
set_option maxRecDepth 100000 in
theorem xp_S_readInto_4_G {X : Nat × (Nat → Int32)} (I : Nat → Nat → Int32) (P : Nat → Nat → Option Nat) (r : Int32 × (Nat → Nat → Int32)) (hx : x_S_readInto 4 5 6 7 I = some r) : Wf X 14 [some (.ref 1), some (.ref 4), none, none] (zG I P) (some (.int r.1)) (zG r.2 P) := by
  unfold Wf
  unfold x_S_readInto at hx
  refine wp_blk (pc' := 1) (L' := [some (.ref 1), some (.ref 4), none, none]) (st' := [.ref 4]) (h' := zG I P) 1 rfl ?_
  obtain ⟨y1, hy1, hx⟩ := zbind hx
  refine wp_callf (d := 15) (as := [.ref 4]) (rest := []) (Ld := [some (.ref 4)]) (pc' := 4) (st' := []) (r := none) (h1 := zG y1.2 P) rfl rfl rfl rfl rfl rfl rfl rfl rfl (xp_M_clear_4_G _ _  _ hy1) ?_
  refine wp_blk (pc' := 11) (L' := [some (.ref 1), some (.ref 4), some (.int 0), none]) (st' := []) (h' := zG (zui y1.2 1 3 0) P) 5 rfl ?_
  exact lp_S_readInto_11_4_G P _ _ _ _ hx
set_option maxRecDepth 100000 in
theorem lp_S_readInto_11_8 {X : Nat × (Nat → Int32)} (P : Nat → Nat → Option Nat) : ∀ (n : Nat) (I : Nat → Nat → Int32) (x2 : Int32) (r : Int32 × (Nat → Nat → Int32)), l_S_readInto_11 8 9 10 11 n I x2 = some r → Wp X 14 11 [some (.ref 1), some (.ref 8), some (.int x2), none] [] (zH I P) (fun r2 h2 => r2 = some (.int r.1) ∧ h2 = zH r.2 P) := by
  intro n
  induction n with
  | zero => intro I x2 r hx; cases hx
  | succ n ih =>
    intro I x2 r hx
    rw [l_S_readInto_11] at hx
    refine wp_blk (pc' := 15) (L' := [some (.ref 1), some (.ref 8), some (.int x2), none]) (st' := [.int 200, .int x2]) (h' := zH I P) 2 rfl ?_
    refine wp_ge (a := x2) (b := 200) (s1 := (50, [some (.ref 1), some (.ref 8), some (.int x2), none], [], zH I P)) (s2 := (18, [some (.ref 1), some (.ref 8), some (.int x2), none], [], zH I P)) rfl (fun c1 => ?_) (fun c1 => ?_)
    · rw [if_pos c1] at hx
      refine wp_blk (pc' := 52) (L' := [some (.ref 1), some (.ref 8), some (.int x2), none]) (st' := [.int (-4)]) (h' := zH I P) 1 rfl ?_
      cases hx
      exact wp_end rfl rfl ⟨rfl, rfl⟩
    · rw [if_neg c1] at hx
      refine wp_blk (pc' := 26) (L' := [some (.ref 1), some (.ref 8), some (.int x2), none]) (st' := [.int (I 1 2), .int (I 1 3)]) (h' := zH I P) 4 rfl ?_
      refine wp_ge (a := I 1 3) (b := I 1 2) (s1 := (50, [some (.ref 1), some (.ref 8), some (.int x2), none], [], zH I P)) (s2 := (29, [some (.ref 1), some (.ref 8), some (.int x2), none], [], zH I P)) rfl (fun c2 => ?_) (fun c2 => ?_)
      · rw [if_pos c2] at hx
        refine wp_blk (pc' := 52) (L' := [some (.ref 1), some (.ref 8), some (.int x2), none]) (st' := [.int (-4)]) (h' := zH I P) 1 rfl ?_
        cases hx
        exact wp_end rfl rfl ⟨rfl, rfl⟩
      · rw [if_neg c2] at hx
        refine wp_blk (pc' := 36) (L' := [some (.ref 1), some (.ref 8), some (.int x2), some (.int (I 1 3))]) (st' := [.ref 8, .ref 1]) (h' := zH I P) 5 rfl ?_
        obtain ⟨y1, hy1, hx⟩ := zbind hx
        refine wp_callf (d := 17) (as := [.ref 1, .ref 8]) (rest := []) (Ld := [some (.ref 1), some (.ref 8), none]) (pc' := 39) (st' := [.int y1.1]) (r := some (.int y1.1)) (h1 := zH y1.2 P) rfl rfl rfl rfl rfl rfl rfl rfl rfl (xp_S_readItem_8 _ _  _ hy1) ?_
        refine wp_ne (a := y1.1) (b := 0) (s1 := (44, [some (.ref 1), some (.ref 8), some (.int x2), some (.int (I 1 3))], [], zH y1.2 P)) (s2 := (42, [some (.ref 1), some (.ref 8), some (.int x2), some (.int (I 1 3))], [], zH y1.2 P)) rfl (fun c3 => ?_) (fun c3 => ?_)
        · rw [if_neg c3] at hx
          refine wp_blk (pc' := 11) (L' := [some (.ref 1), some (.ref 8), some (.int (x2 + 1)), some (.int (I 1 3))]) (st' := []) (h' := zH y1.2 P) 2 rfl ?_
          exact wp_forget (ih _ _ _ hx) (zle_c (zle_c (zle_c (zle_n zle_nil))))
        · rw [if_pos c3] at hx
          refine wp_blk (pc' := 43) (L' := [some (.ref 1), some (.ref 8), some (.int x2), some (.int (I 1 3))]) (st' := [.int (I 1 3)]) (h' := zH y1.2 P) 1 rfl ?_
          cases hx
          exact wp_end rfl rfl ⟨rfl, rfl⟩
set_option maxRecDepth 100000 in
theorem xp_S_readInto_8 {X : Nat × (Nat → Int32)} (I : Nat → Nat → Int32) (P : Nat → Nat → Option Nat) (r : Int32 × (Nat → Nat → Int32)) (hx : x_S_readInto 8 9 10 11 I = some r) : Wf X 14 [some (.ref 1), some (.ref 8), none, none] (zH I P) (some (.int r.1)) (zH r.2 P) := by
  unfold Wf
  unfold x_S_readInto at hx
  refine wp_blk (pc' := 1) (L' := [some (.ref 1), some (.ref 8), none, none]) (st' := [.ref 8]) (h' := zH I P) 1 rfl ?_
  obtain ⟨y1, hy1, hx⟩ := zbind hx
  refine wp_callf (d := 15) (as := [.ref 8]) (rest := []) (Ld := [some (.ref 8)]) (pc' := 4) (st' := []) (r := none) (h1 := zH y1.2 P) rfl rfl rfl rfl rfl rfl rfl rfl rfl (xp_M_clear_8 _ _  _ hy1) ?_
  refine wp_blk (pc' := 11) (L' := [some (.ref 1), some (.ref 8), some (.int 0), none]) (st' := []) (h' := zH (zui y1.2 1 3 0) P) 5 rfl ?_
  exact lp_S_readInto_11_8 P _ _ _ _ hx
set_option maxRecDepth 100000 in
theorem lp_S_readInto_11_8_G {X : Nat × (Nat → Int32)} (P : Nat → Nat → Option Nat) : ∀ (n : Nat) (I : Nat → Nat → Int32) (x2 : Int32) (r : Int32 × (Nat → Nat → Int32)), l_S_readInto_11 8 9 10 11 n I x2 = some r → Wp X 14 11 [some (.ref 1), some (.ref 8), some (.int x2), none] [] (zG I P) (fun r2 h2 => r2 = some (.int r.1) ∧ h2 = zG r.2 P) := by
  intro n
  induction n with
  | zero => intro I x2 r hx; cases hx
  | succ n ih =>
    intro I x2 r hx
    rw [l_S_readInto_11] at hx
    refine wp_blk (pc' := 15) (L' := [some (.ref 1), some (.ref 8), some (.int x2), none]) (st' := [.int 200, .int x2]) (h' := zG I P) 2 rfl ?_
    refine wp_ge (a := x2) (b := 200) (s1 := (50, [some (.ref 1), some (.ref 8), some (.int x2), none], [], zG I P)) (s2 := (18, [some (.ref 1), some (.ref 8), some (.int x2), none], [], zG I P)) rfl (fun c1 => ?_) (fun c1 => ?_)
    · rw [if_pos c1] at hx
      refine wp_blk (pc' := 52) (L' := [some (.ref 1), some (.ref 8), some (.int x2), none]) (st' := [.int (-4)]) (h' := zG I P) 1 rfl ?_
      cases hx
      exact wp_end rfl rfl ⟨rfl, rfl⟩
    · rw [if_neg c1] at hx
      refine wp_blk (pc' := 26) (L' := [some (.ref 1), some (.ref 8), some (.int x2), none]) (st' := [.int (I 1 2), .int (I 1 3)]) (h' := zG I P) 4 rfl ?_
      refine wp_ge (a := I 1 3) (b := I 1 2) (s1 := (50, [some (.ref 1), some (.ref 8), some (.int x2), none], [], zG I P)) (s2 := (29, [some (.ref 1), some (.ref 8), some (.int x2), none], [], zG I P)) rfl (fun c2 => ?_) (fun c2 => ?_)
      · rw [if_pos c2] at hx
        refine wp_blk (pc' := 52) (L' := [some (.ref 1), some (.ref 8), some (.int x2), none]) (st' := [.int (-4)]) (h' := zG I P) 1 rfl ?_
        cases hx
        exact wp_end rfl rfl ⟨rfl, rfl⟩
      · rw [if_neg c2] at hx
        refine wp_blk (pc' := 36) (L' := [some (.ref 1), some (.ref 8), some (.int x2), some (.int (I 1 3))]) (st' := [.ref 8, .ref 1]) (h' := zG I P) 5 rfl ?_
        obtain ⟨y1, hy1, hx⟩ := zbind hx
        refine wp_callf (d := 17) (as := [.ref 1, .ref 8]) (rest := []) (Ld := [some (.ref 1), some (.ref 8), none]) (pc' := 39) (st' := [.int y1.1]) (r := some (.int y1.1)) (h1 := zG y1.2 P) rfl rfl rfl rfl rfl rfl rfl rfl rfl (xp_S_readItem_8_G _ _  _ hy1) ?_
        refine wp_ne (a := y1.1) (b := 0) (s1 := (44, [some (.ref 1), some (.ref 8), some (.int x2), some (.int (I 1 3))], [], zG y1.2 P)) (s2 := (42, [some (.ref 1), some (.ref 8), some (.int x2), some (.int (I 1 3))], [], zG y1.2 P)) rfl (fun c3 => ?_) (fun c3 => ?_)
        · rw [if_neg c3] at hx
          refine wp_blk (pc' := 11) (L' := [some (.ref 1), some (.ref 8), some (.int (x2 + 1)), some (.int (I 1 3))]) (st' := []) (h' := zG y1.2 P) 2 rfl ?_
          exact wp_forget (ih _ _ _ hx) (zle_c (zle_c (zle_c (zle_n zle_nil))))
        · rw [if_pos c3] at hx
          refine wp_blk (pc' := 43) (L' := [some (.ref 1), some (.ref 8), some (.int x2), some (.int (I 1 3))]) (st' := [.int (I 1 3)]) (h' := zG y1.2 P) 1 rfl ?_
          cases hx
          exact wp_end rfl rfl ⟨rfl, rfl⟩
set_option maxRecDepth 100000 in
theorem xp_S_readInto_8_G {X : Nat × (Nat → Int32)} (I : Nat → Nat → Int32) (P : Nat → Nat → Option Nat) (r : Int32 × (Nat → Nat → Int32)) (hx : x_S_readInto 8 9 10 11 I = some r) : Wf X 14 [some (.ref 1), some (.ref 8), none, none] (zG I P) (some (.int r.1)) (zG r.2 P) := by
  unfold Wf
  unfold x_S_readInto at hx
  refine wp_blk (pc' := 1) (L' := [some (.ref 1), some (.ref 8), none, none]) (st' := [.ref 8]) (h' := zG I P) 1 rfl ?_
  obtain ⟨y1, hy1, hx⟩ := zbind hx
  refine wp_callf (d := 15) (as := [.ref 8]) (rest := []) (Ld := [some (.ref 8)]) (pc' := 4) (st' := []) (r := none) (h1 := zG y1.2 P) rfl rfl rfl rfl rfl rfl rfl rfl rfl (xp_M_clear_8_G _ _  _ hy1) ?_
  refine wp_blk (pc' := 11) (L' := [some (.ref 1), some (.ref 8), some (.int 0), none]) (st' := []) (h' := zG (zui y1.2 1 3 0) P) 5 rfl ?_
  exact lp_S_readInto_11_8_G P _ _ _ _ hx
