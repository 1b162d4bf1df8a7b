/-! THE CLASS: its questions (printed) -/
def f_G_areTwo (I : Nat → Nat → Int32) (i j : Int32) : Int32 := if f_M_has 4 5 6 7 I i = 0 then 0 else (if f_M_has 4 5 6 7 I j = 0 then 0 else (if i = j then 0 else 1))
theorem fb_G_areTwo (I : Nat → Nat → Int32) (i j : Int32) : f_G_areTwo I i j = 1 ∨ f_G_areTwo I i j = 0 := by
  unfold f_G_areTwo
  (repeat' split) <;> first | exact Or.inl rfl | exact Or.inr rfl
set_option maxRecDepth 100000 in
theorem sp_G_areTwo {X : Nat × (Nat → Int32)} (I : Nat → Nat → Int32) (P : Nat → Nat → Option Nat) (i j : Int32) : Wf X 47 [some (.ref 0), some (.int i), some (.int j)] (zH I P) (some (.int (f_G_areTwo I i j))) (zH I P) := by
  unfold Wf
  refine wp_blk (pc' := 5) (L' := [some (.ref 0), some (.int i), some (.int j)]) (st' := [.int i, .ref 4]) (h' := zH I P) 3 rfl ?_
  refine wp_callf (d := 24) (as := [.ref 4, .int i]) (rest := []) (Ld := [some (.ref 4), some (.int i)]) (pc' := 8) (st' := [.int (f_M_has 4 5 6 7 I i)]) (r := some (.int (f_M_has 4 5 6 7 I i))) (h1 := zH I P) rfl rfl rfl rfl rfl rfl rfl rfl rfl (sp_M_has_4 I P i) ?_
  refine wp_eq (a := f_M_has 4 5 6 7 I i) (b := 0) (s1 := (31, [some (.ref 0), some (.int i), some (.int j)], [], zH I P)) (s2 := (11, [some (.ref 0), some (.int i), some (.int j)], [], zH I P)) rfl (fun c1 => ?_) (fun c1 => ?_)
  · refine wp_blk (pc' := 32) (L' := [some (.ref 0), some (.int i), some (.int j)]) (st' := [.int 0]) (h' := zH I P) 1 rfl ?_
    exact wp_end rfl rfl ⟨by rw [f_G_areTwo, if_pos c1], rfl⟩
  · refine wp_blk (pc' := 16) (L' := [some (.ref 0), some (.int i), some (.int j)]) (st' := [.int j, .ref 4]) (h' := zH I P) 3 rfl ?_
    refine wp_callf (d := 24) (as := [.ref 4, .int j]) (rest := []) (Ld := [some (.ref 4), some (.int j)]) (pc' := 19) (st' := [.int (f_M_has 4 5 6 7 I j)]) (r := some (.int (f_M_has 4 5 6 7 I j))) (h1 := zH I P) rfl rfl rfl rfl rfl rfl rfl rfl rfl (sp_M_has_4 I P j) ?_
    refine wp_eq (a := f_M_has 4 5 6 7 I j) (b := 0) (s1 := (31, [some (.ref 0), some (.int i), some (.int j)], [], zH I P)) (s2 := (22, [some (.ref 0), some (.int i), some (.int j)], [], zH I P)) rfl (fun c2 => ?_) (fun c2 => ?_)
    · refine wp_blk (pc' := 32) (L' := [some (.ref 0), some (.int i), some (.int j)]) (st' := [.int 0]) (h' := zH I P) 1 rfl ?_
      exact wp_end rfl rfl ⟨by rw [f_G_areTwo, if_neg c1, if_pos c2], rfl⟩
    · refine wp_blk (pc' := 24) (L' := [some (.ref 0), some (.int i), some (.int j)]) (st' := [.int j, .int i]) (h' := zH I P) 2 rfl ?_
      refine wp_eq (a := i) (b := j) (s1 := (31, [some (.ref 0), some (.int i), some (.int j)], [], zH I P)) (s2 := (27, [some (.ref 0), some (.int i), some (.int j)], [], zH I P)) rfl (fun c3 => ?_) (fun c3 => ?_)
      · refine wp_blk (pc' := 32) (L' := [some (.ref 0), some (.int i), some (.int j)]) (st' := [.int 0]) (h' := zH I P) 1 rfl ?_
        exact wp_end rfl rfl ⟨by rw [f_G_areTwo, if_neg c1, if_neg c2, if_pos c3], rfl⟩
      · refine wp_blk (pc' := 32) (L' := [some (.ref 0), some (.int i), some (.int j)]) (st' := [.int 1]) (h' := zH I P) 2 rfl ?_
        exact wp_end rfl rfl ⟨by rw [f_G_areTwo, if_neg c1, if_neg c2, if_neg c3], rfl⟩
def x_G_write (I : Nat → Nat → Int32) (l : Int32) : Option (Int32 × (Nat → Nat → Int32)) := if l < 32 then (some (-1, I)) else (if l ≤ 126 then (if f_S_isFull I = 0 then (some (f_S_size (g_S_add I l), (g_S_add I l))) else (some (-3, I))) else (some (-1, I)))
set_option maxRecDepth 100000 in
theorem xp_G_write {X : Nat × (Nat → Int32)} (I : Nat → Nat → Int32) (P : Nat → Nat → Option Nat) (l : Int32) (r : Int32 × (Nat → Nat → Int32)) (hx : x_G_write I l = some r) : Wf X 30 [some (.ref 0), some (.int l)] (zH I P) (some (.int r.1)) (zH r.2 P) := by
  unfold Wf
  unfold x_G_write at hx
  refine wp_blk (pc' := 3) (L' := [some (.ref 0), some (.int l)]) (st' := [.int 32, .int l]) (h' := zH I P) 2 rfl ?_
  refine wp_lt (a := l) (b := 32) (s1 := (12, [some (.ref 0), some (.int l)], [], zH I P)) (s2 := (6, [some (.ref 0), some (.int l)], [], zH I P)) rfl (fun c1 => ?_) (fun c1 => ?_)
  · rw [if_pos c1] at hx
    refine wp_blk (pc' := 13) (L' := [some (.ref 0), some (.int l)]) (st' := [.int (-1)]) (h' := zH I P) 1 rfl ?_
    cases hx
    exact wp_end rfl rfl ⟨rfl, rfl⟩
  · rw [if_neg c1] at hx
    refine wp_blk (pc' := 9) (L' := [some (.ref 0), some (.int l)]) (st' := [.int 126, .int l]) (h' := zH I P) 2 rfl ?_
    refine wp_le (a := l) (b := 126) (s1 := (14, [some (.ref 0), some (.int l)], [], zH I P)) (s2 := (12, [some (.ref 0), some (.int l)], [], zH I P)) rfl (fun c2 => ?_) (fun c2 => ?_)
    · rw [if_pos c2] at hx
      refine wp_blk (pc' := 18) (L' := [some (.ref 0), some (.int l)]) (st' := [.ref 1]) (h' := zH I P) 2 rfl ?_
      refine wp_callf (d := 31) (as := [.ref 1]) (rest := []) (Ld := [some (.ref 1)]) (pc' := 21) (st' := [.int (f_S_isFull I)]) (r := some (.int (f_S_isFull I))) (h1 := zH I P) rfl rfl rfl rfl rfl rfl rfl rfl rfl (sp_S_isFull I P) ?_
      refine wp_eq (a := f_S_isFull I) (b := 0) (s1 := (27, [some (.ref 0), some (.int l)], [], zH I P)) (s2 := (24, [some (.ref 0), some (.int l)], [], zH I P)) rfl (fun c3 => ?_) (fun c3 => ?_)
      · rw [if_pos c3] at hx
        refine wp_blk (pc' := 32) (L' := [some (.ref 0), some (.int l)]) (st' := [.int l, .ref 1]) (h' := zH I P) 3 rfl ?_
        refine wp_callf (d := 13) (as := [.ref 1, .int l]) (rest := []) (Ld := [some (.ref 1), some (.int l)]) (pc' := 35) (st' := []) (r := none) (h1 := zH (g_S_add I l) P) rfl rfl rfl rfl rfl rfl rfl rfl rfl (sp_S_add I P l) ?_
        refine wp_blk (pc' := 39) (L' := [some (.ref 0), some (.int l)]) (st' := [.ref 1]) (h' := zH (g_S_add I l) P) 2 rfl ?_
        refine wp_callf (d := 32) (as := [.ref 1]) (rest := []) (Ld := [some (.ref 1)]) (pc' := 42) (st' := [.int (f_S_size (g_S_add I l))]) (r := some (.int (f_S_size (g_S_add I l)))) (h1 := zH (g_S_add I l) P) rfl rfl rfl rfl rfl rfl rfl rfl rfl (sp_S_size (g_S_add I l) P) ?_
        cases hx
        exact wp_end rfl rfl ⟨rfl, rfl⟩
      · rw [if_neg c3] at hx
        refine wp_blk (pc' := 26) (L' := [some (.ref 0), some (.int l)]) (st' := [.int (-3)]) (h' := zH I P) 1 rfl ?_
        cases hx
        exact wp_end rfl rfl ⟨rfl, rfl⟩
    · rw [if_neg c2] at hx
      refine wp_blk (pc' := 13) (L' := [some (.ref 0), some (.int l)]) (st' := [.int (-1)]) (h' := zH I P) 1 rfl ?_
      cases hx
      exact wp_end rfl rfl ⟨rfl, rfl⟩
def x_G_wipe (I : Nat → Nat → Int32) : Option (Int32 × (Nat → Nat → Int32)) := some (f_S_size I, (g_S_clear I))
set_option maxRecDepth 100000 in
theorem xp_G_wipe {X : Nat × (Nat → Int32)} (I : Nat → Nat → Int32) (P : Nat → Nat → Option Nat) (r : Int32 × (Nat → Nat → Int32)) (hx : x_G_wipe I = some r) : Wf X 33 [some (.ref 0), none] (zH I P) (some (.int r.1)) (zH r.2 P) := by
  unfold Wf
  unfold x_G_wipe at hx
  refine wp_blk (pc' := 4) (L' := [some (.ref 0), none]) (st' := [.ref 1]) (h' := zH I P) 2 rfl ?_
  refine wp_callf (d := 32) (as := [.ref 1]) (rest := []) (Ld := [some (.ref 1)]) (pc' := 7) (st' := [.int (f_S_size I)]) (r := some (.int (f_S_size I))) (h1 := zH I P) rfl rfl rfl rfl rfl rfl rfl rfl rfl (sp_S_size I P) ?_
  refine wp_blk (pc' := 12) (L' := [some (.ref 0), some (.int (f_S_size I))]) (st' := [.ref 1]) (h' := zH I P) 3 rfl ?_
  refine wp_callf (d := 29) (as := [.ref 1]) (rest := []) (Ld := [some (.ref 1)]) (pc' := 15) (st' := []) (r := none) (h1 := zH (g_S_clear I) P) rfl rfl rfl rfl rfl rfl rfl rfl rfl (sp_S_clear I P) ?_
  refine wp_blk (pc' := 16) (L' := [some (.ref 0), some (.int (f_S_size I))]) (st' := [.int (f_S_size I)]) (h' := zH (g_S_clear I) P) 1 rfl ?_
  cases hx
  exact wp_end rfl rfl ⟨rfl, rfl⟩
def x_G_fault (I : Nat → Nat → Int32) : Option (Int32 × (Nat → Nat → Int32)) := (x_S_readInto 8 9 10 11 I).bind (fun q1 => some (q1.1, q1.2))
set_option maxRecDepth 100000 in
theorem xp_G_fault {X : Nat × (Nat → Int32)} (I : Nat → Nat → Int32) (P : Nat → Nat → Option Nat) (r : Int32 × (Nat → Nat → Int32)) (hx : x_G_fault I = some r) : Wf X 34 [some (.ref 0)] (zH I P) (some (.int r.1)) (zH r.2 P) := by
  unfold Wf
  unfold x_G_fault at hx
  refine wp_blk (pc' := 8) (L' := [some (.ref 0)]) (st' := [.ref 8, .ref 1]) (h' := zH I P) 4 rfl ?_
  obtain ⟨y1, hy1, hx⟩ := zbind hx
  refine wp_callf (d := 14) (as := [.ref 1, .ref 8]) (rest := []) (Ld := [some (.ref 1), some (.ref 8), none, none]) (pc' := 11) (st' := [.int y1.1]) (r := some (.int y1.1)) (h1 := zH y1.2 P) rfl rfl rfl rfl rfl rfl rfl rfl rfl (xp_S_readInto_8 _ _  _ hy1) ?_
  cases hx
  exact wp_end rfl rfl ⟨rfl, rfl⟩
def f_H1_size (I : Nat → Nat → Int32) : Int32 := I 19 1
set_option maxRecDepth 100000 in
theorem sp_H1_size {X : Nat × (Nat → Int32)} (I : Nat → Nat → Int32) (P : Nat → Nat → Option Nat) : Wf X 80 [some (.ref 19)] (zH I P) (some (.int (f_H1_size I))) (zH I P) := by
  unfold Wf
  refine wp_blk (pc' := 4) (L' := [some (.ref 19)]) (st' := [.int (I 19 1)]) (h' := zH I P) 2 rfl ?_
  exact wp_end rfl rfl ⟨rfl, rfl⟩
def f_H1_isFull (I : Nat → Nat → Int32) : Int32 := if I 19 1 < Int32.ofNat 8 then 0 else 1
theorem fb_H1_isFull (I : Nat → Nat → Int32) : f_H1_isFull I = 1 ∨ f_H1_isFull I = 0 := by
  unfold f_H1_isFull
  (repeat' split) <;> first | exact Or.inl rfl | exact Or.inr rfl
set_option maxRecDepth 100000 in
theorem sp_H1_isFull {X : Nat × (Nat → Int32)} (I : Nat → Nat → Int32) (P : Nat → Nat → Option Nat) : Wf X 66 [some (.ref 19)] (zH I P) (some (.int (f_H1_isFull I))) (zH I P) := by
  unfold Wf
  refine wp_blk (pc' := 9) (L' := [some (.ref 19)]) (st' := [.int (Int32.ofNat 8), .int (I 19 1)]) (h' := zH I P) 5 rfl ?_
  refine wp_lt (a := I 19 1) (b := Int32.ofNat 8) (s1 := (16, [some (.ref 19)], [], zH I P)) (s2 := (12, [some (.ref 19)], [], zH I P)) rfl (fun c1 => ?_) (fun c1 => ?_)
  · refine wp_blk (pc' := 17) (L' := [some (.ref 19)]) (st' := [.int 0]) (h' := zH I P) 1 rfl ?_
    exact wp_end rfl rfl ⟨by rw [f_H1_isFull, if_pos c1], rfl⟩
  · refine wp_blk (pc' := 17) (L' := [some (.ref 19)]) (st' := [.int 1]) (h' := zH I P) 2 rfl ?_
    exact wp_end rfl rfl ⟨by rw [f_H1_isFull, if_neg c1], rfl⟩
def g_H1_clear (I : Nat → Nat → Int32) : Nat → Nat → Int32 := (zui I 19 1 0)
set_option maxRecDepth 100000 in
theorem sp_H1_clear {X : Nat × (Nat → Int32)} (I : Nat → Nat → Int32) (P : Nat → Nat → Option Nat) : Wf X 39 [some (.ref 19)] (zH I P) none (zH (g_H1_clear I) P) := by
  unfold Wf
  refine wp_blk (pc' := 5) (L' := [some (.ref 19)]) (st' := []) (h' := zH (zui I 19 1 0) P) 3 rfl ?_
  exact wp_end rfl rfl ⟨rfl, rfl⟩
def f_H2_size (I : Nat → Nat → Int32) : Int32 := I 53 1
set_option maxRecDepth 100000 in
theorem sp_H2_size {X : Nat × (Nat → Int32)} (I : Nat → Nat → Int32) (P : Nat → Nat → Option Nat) : Wf X 80 [some (.ref 53)] (zH I P) (some (.int (f_H2_size I))) (zH I P) := by
  unfold Wf
  refine wp_blk (pc' := 4) (L' := [some (.ref 53)]) (st' := [.int (I 53 1)]) (h' := zH I P) 2 rfl ?_
  exact wp_end rfl rfl ⟨rfl, rfl⟩
def f_H2_isFull (I : Nat → Nat → Int32) : Int32 := if I 53 1 < Int32.ofNat 2 then 0 else 1
theorem fb_H2_isFull (I : Nat → Nat → Int32) : f_H2_isFull I = 1 ∨ f_H2_isFull I = 0 := by
  unfold f_H2_isFull
  (repeat' split) <;> first | exact Or.inl rfl | exact Or.inr rfl
set_option maxRecDepth 100000 in
theorem sp_H2_isFull {X : Nat × (Nat → Int32)} (I : Nat → Nat → Int32) (P : Nat → Nat → Option Nat) : Wf X 66 [some (.ref 53)] (zH I P) (some (.int (f_H2_isFull I))) (zH I P) := by
  unfold Wf
  refine wp_blk (pc' := 9) (L' := [some (.ref 53)]) (st' := [.int (Int32.ofNat 2), .int (I 53 1)]) (h' := zH I P) 5 rfl ?_
  refine wp_lt (a := I 53 1) (b := Int32.ofNat 2) (s1 := (16, [some (.ref 53)], [], zH I P)) (s2 := (12, [some (.ref 53)], [], zH I P)) rfl (fun c1 => ?_) (fun c1 => ?_)
  · refine wp_blk (pc' := 17) (L' := [some (.ref 53)]) (st' := [.int 0]) (h' := zH I P) 1 rfl ?_
    exact wp_end rfl rfl ⟨by rw [f_H2_isFull, if_pos c1], rfl⟩
  · refine wp_blk (pc' := 17) (L' := [some (.ref 53)]) (st' := [.int 1]) (h' := zH I P) 2 rfl ?_
    exact wp_end rfl rfl ⟨by rw [f_H2_isFull, if_neg c1], rfl⟩
def g_H2_clear (I : Nat → Nat → Int32) : Nat → Nat → Int32 := (zui I 53 1 0)
set_option maxRecDepth 100000 in
theorem sp_H2_clear {X : Nat × (Nat → Int32)} (I : Nat → Nat → Int32) (P : Nat → Nat → Option Nat) : Wf X 39 [some (.ref 53)] (zH I P) none (zH (g_H2_clear I) P) := by
  unfold Wf
  refine wp_blk (pc' := 5) (L' := [some (.ref 53)]) (st' := []) (h' := zH (zui I 53 1 0) P) 3 rfl ?_
  exact wp_end rfl rfl ⟨rfl, rfl⟩
def x_G_lay (I : Nat → Nat → Int32) : Option (Int32 × (Nat → Nat → Int32)) := (x_S_readInto 8 9 10 11 I).bind (fun q1 => if q1.1 = -4 then (if f_M_size 8 9 10 11 q1.2 = 0 then (some (-2, q1.2)) else ((x_M_copy 4 5 6 7 8 9 10 11 q1.2).bind (fun q2 => some (f_M_size 4 5 6 7 (g_H2_clear (g_H1_clear (g_V_clear q2.2))), (g_H2_clear (g_H1_clear (g_V_clear q2.2))))))) else (some (-2, q1.2)))
set_option maxRecDepth 100000 in
theorem xp_G_lay {X : Nat × (Nat → Int32)} (I : Nat → Nat → Int32) (P : Nat → Nat → Option Nat) (r : Int32 × (Nat → Nat → Int32)) (hx : x_G_lay I = some r) : Wf X 35 [some (.ref 0)] (zH I P) (some (.int r.1)) (zH r.2 P) := by
  unfold Wf
  unfold x_G_lay at hx
  refine wp_blk (pc' := 8) (L' := [some (.ref 0)]) (st' := [.ref 8, .ref 1]) (h' := zH I P) 4 rfl ?_
  obtain ⟨y1, hy1, hx⟩ := zbind hx
  refine wp_callf (d := 14) (as := [.ref 1, .ref 8]) (rest := []) (Ld := [some (.ref 1), some (.ref 8), none, none]) (pc' := 11) (st' := [.int y1.1]) (r := some (.int y1.1)) (h1 := zH y1.2 P) rfl rfl rfl rfl rfl rfl rfl rfl rfl (xp_S_readInto_8 _ _  _ hy1) ?_
  refine wp_blk (pc' := 13) (L' := [some (.ref 0)]) (st' := [.int (-4), .int y1.1]) (h' := zH y1.2 P) 1 rfl ?_
  refine wp_ne (a := y1.1) (b := -4) (s1 := (26, [some (.ref 0)], [], zH y1.2 P)) (s2 := (16, [some (.ref 0)], [], zH y1.2 P)) rfl (fun c1 => ?_) (fun c1 => ?_)
  · rw [if_neg c1] at hx
    refine wp_blk (pc' := 28) (L' := [some (.ref 0)]) (st' := [.int (-2)]) (h' := zH y1.2 P) 1 rfl ?_
    cases hx
    exact wp_end rfl rfl ⟨rfl, rfl⟩
  · rw [if_pos c1] at hx
    refine wp_blk (pc' := 20) (L' := [some (.ref 0)]) (st' := [.ref 8]) (h' := zH y1.2 P) 2 rfl ?_
    refine wp_callf (d := 36) (as := [.ref 8]) (rest := []) (Ld := [some (.ref 8)]) (pc' := 23) (st' := [.int (f_M_size 8 9 10 11 y1.2)]) (r := some (.int (f_M_size 8 9 10 11 y1.2))) (h1 := zH y1.2 P) rfl rfl rfl rfl rfl rfl rfl rfl rfl (sp_M_size_8 y1.2 P) ?_
    refine wp_ne (a := f_M_size 8 9 10 11 y1.2) (b := 0) (s1 := (29, [some (.ref 0)], [], zH y1.2 P)) (s2 := (26, [some (.ref 0)], [], zH y1.2 P)) rfl (fun c2 => ?_) (fun c2 => ?_)
    · rw [if_neg c2] at hx
      refine wp_blk (pc' := 37) (L' := [some (.ref 0)]) (st' := [.ref 8, .ref 4]) (h' := zH y1.2 P) 4 rfl ?_
      obtain ⟨y2, hy2, hx⟩ := zbind hx
      refine wp_callf (d := 37) (as := [.ref 4, .ref 8]) (rest := []) (Ld := [some (.ref 4), some (.ref 8)]) (pc' := 40) (st' := []) (r := none) (h1 := zH y2.2 P) rfl rfl rfl rfl rfl rfl rfl rfl rfl (xp_M_copy_4_8 _ _  _ hy2) ?_
      refine wp_blk (pc' := 44) (L' := [some (.ref 0)]) (st' := [.ref 16]) (h' := zH y2.2 P) 2 rfl ?_
      refine wp_callf (d := 38) (as := [.ref 16]) (rest := []) (Ld := [some (.ref 16)]) (pc' := 47) (st' := []) (r := none) (h1 := zH (g_V_clear y2.2) P) rfl rfl rfl rfl rfl rfl rfl rfl rfl (sp_V_clear y2.2 P) ?_
      refine wp_blk (pc' := 51) (L' := [some (.ref 0)]) (st' := [.ref 19]) (h' := zH (g_V_clear y2.2) P) 2 rfl ?_
      refine wp_callf (d := 39) (as := [.ref 19]) (rest := []) (Ld := [some (.ref 19)]) (pc' := 54) (st' := []) (r := none) (h1 := zH (g_H1_clear (g_V_clear y2.2)) P) rfl rfl rfl rfl rfl rfl rfl rfl rfl (sp_H1_clear (g_V_clear y2.2) P) ?_
      refine wp_blk (pc' := 58) (L' := [some (.ref 0)]) (st' := [.ref 53]) (h' := zH (g_H1_clear (g_V_clear y2.2)) P) 2 rfl ?_
      refine wp_callf (d := 39) (as := [.ref 53]) (rest := []) (Ld := [some (.ref 53)]) (pc' := 61) (st' := []) (r := none) (h1 := zH (g_H2_clear (g_H1_clear (g_V_clear y2.2))) P) rfl rfl rfl rfl rfl rfl rfl rfl rfl (sp_H2_clear (g_H1_clear (g_V_clear y2.2)) P) ?_
      refine wp_blk (pc' := 65) (L' := [some (.ref 0)]) (st' := [.ref 4]) (h' := zH (g_H2_clear (g_H1_clear (g_V_clear y2.2))) P) 2 rfl ?_
      refine wp_callf (d := 36) (as := [.ref 4]) (rest := []) (Ld := [some (.ref 4)]) (pc' := 68) (st' := [.int (f_M_size 4 5 6 7 (g_H2_clear (g_H1_clear (g_V_clear y2.2))))]) (r := some (.int (f_M_size 4 5 6 7 (g_H2_clear (g_H1_clear (g_V_clear y2.2)))))) (h1 := zH (g_H2_clear (g_H1_clear (g_V_clear y2.2))) P) rfl rfl rfl rfl rfl rfl rfl rfl rfl (sp_M_size_4 (g_H2_clear (g_H1_clear (g_V_clear y2.2))) P) ?_
      cases hx
      exact wp_end rfl rfl ⟨rfl, rfl⟩
    · rw [if_pos c2] at hx
      refine wp_blk (pc' := 28) (L' := [some (.ref 0)]) (st' := [.int (-2)]) (h' := zH y1.2 P) 1 rfl ?_
      cases hx
      exact wp_end rfl rfl ⟨rfl, rfl⟩
def x_G_customer (I : Nat → Nat → Int32) (c w : Int32) : Option (Int32 × (Nat → Nat → Int32)) := if f_M_has 4 5 6 7 I c = 0 then (some (-1, I)) else (if f_G_isOutside I w 2 = 0 then (if w = 0 then (some (f_M_kindOf 4 5 6 7 I c, I)) else (if w = 1 then ((x_M_placeOf 4 5 6 7 I c).bind (fun q1 => some (q1.1, q1.2))) else (if f_M_isGone 4 5 6 7 I c = 0 then (some (0, I)) else (some (1, I))))) else (some (-1, I)))
set_option maxRecDepth 100000 in
theorem xp_G_customer {X : Nat × (Nat → Int32)} (I : Nat → Nat → Int32) (P : Nat → Nat → Option Nat) (c w : Int32) (r : Int32 × (Nat → Nat → Int32)) (hx : x_G_customer I c w = some r) : Wf X 40 [some (.ref 0), some (.int c), some (.int w)] (zH I P) (some (.int r.1)) (zH r.2 P) := by
  unfold Wf
  unfold x_G_customer at hx
  refine wp_blk (pc' := 5) (L' := [some (.ref 0), some (.int c), some (.int w)]) (st' := [.int c, .ref 4]) (h' := zH I P) 3 rfl ?_
  refine wp_callf (d := 24) (as := [.ref 4, .int c]) (rest := []) (Ld := [some (.ref 4), some (.int c)]) (pc' := 8) (st' := [.int (f_M_has 4 5 6 7 I c)]) (r := some (.int (f_M_has 4 5 6 7 I c))) (h1 := zH I P) rfl rfl rfl rfl rfl rfl rfl rfl rfl (sp_M_has_4 I P c) ?_
  refine wp_eq (a := f_M_has 4 5 6 7 I c) (b := 0) (s1 := (19, [some (.ref 0), some (.int c), some (.int w)], [], zH I P)) (s2 := (11, [some (.ref 0), some (.int c), some (.int w)], [], zH I P)) rfl (fun c1 => ?_) (fun c1 => ?_)
  · rw [if_pos c1] at hx
    refine wp_blk (pc' := 20) (L' := [some (.ref 0), some (.int c), some (.int w)]) (st' := [.int (-1)]) (h' := zH I P) 1 rfl ?_
    cases hx
    exact wp_end rfl rfl ⟨rfl, rfl⟩
  · rw [if_neg c1] at hx
    refine wp_blk (pc' := 13) (L' := [some (.ref 0), some (.int c), some (.int w)]) (st' := [.int 2, .int w]) (h' := zH I P) 2 rfl ?_
    refine wp_callf (d := 25) (as := [.int w, .int 2]) (rest := []) (Ld := [some (.int w), some (.int 2)]) (pc' := 16) (st' := [.int (f_G_isOutside I w 2)]) (r := some (.int (f_G_isOutside I w 2))) (h1 := zH I P) rfl rfl rfl rfl rfl rfl rfl rfl rfl (sp_G_isOutside I P w 2) ?_
    refine wp_eq (a := f_G_isOutside I w 2) (b := 0) (s1 := (21, [some (.ref 0), some (.int c), some (.int w)], [], zH I P)) (s2 := (19, [some (.ref 0), some (.int c), some (.int w)], [], zH I P)) rfl (fun c2 => ?_) (fun c2 => ?_)
    · rw [if_pos c2] at hx
      refine wp_blk (pc' := 22) (L' := [some (.ref 0), some (.int c), some (.int w)]) (st' := [.int w]) (h' := zH I P) 1 rfl ?_
      refine wp_ne (a := w) (b := 0) (s1 := (34, [some (.ref 0), some (.int c), some (.int w)], [], zH I P)) (s2 := (25, [some (.ref 0), some (.int c), some (.int w)], [], zH I P)) rfl (fun c3 => ?_) (fun c3 => ?_)
      · rw [if_neg c3] at hx
        refine wp_blk (pc' := 36) (L' := [some (.ref 0), some (.int c), some (.int w)]) (st' := [.int 1, .int w]) (h' := zH I P) 2 rfl ?_
        refine wp_ne (a := w) (b := 1) (s1 := (48, [some (.ref 0), some (.int c), some (.int w)], [], zH I P)) (s2 := (39, [some (.ref 0), some (.int c), some (.int w)], [], zH I P)) rfl (fun c4 => ?_) (fun c4 => ?_)
        · rw [if_neg c4] at hx
          refine wp_blk (pc' := 53) (L' := [some (.ref 0), some (.int c), some (.int w)]) (st' := [.int c, .ref 4]) (h' := zH I P) 3 rfl ?_
          refine wp_callf (d := 44) (as := [.ref 4, .int c]) (rest := []) (Ld := [some (.ref 4), some (.int c)]) (pc' := 56) (st' := [.int (f_M_isGone 4 5 6 7 I c)]) (r := some (.int (f_M_isGone 4 5 6 7 I c))) (h1 := zH I P) rfl rfl rfl rfl rfl rfl rfl rfl rfl (sp_M_isGone_4 I P c) ?_
          refine wp_eq (a := f_M_isGone 4 5 6 7 I c) (b := 0) (s1 := (63, [some (.ref 0), some (.int c), some (.int w)], [], zH I P)) (s2 := (59, [some (.ref 0), some (.int c), some (.int w)], [], zH I P)) rfl (fun c5 => ?_) (fun c5 => ?_)
          · rw [if_pos c5] at hx
            refine wp_blk (pc' := 64) (L' := [some (.ref 0), some (.int c), some (.int w)]) (st' := [.int 0]) (h' := zH I P) 1 rfl ?_
            cases hx
            exact wp_end rfl rfl ⟨rfl, rfl⟩
          · rw [if_neg c5] at hx
            refine wp_blk (pc' := 64) (L' := [some (.ref 0), some (.int c), some (.int w)]) (st' := [.int 1]) (h' := zH I P) 2 rfl ?_
            cases hx
            exact wp_end rfl rfl ⟨rfl, rfl⟩
        · rw [if_pos c4] at hx
          refine wp_blk (pc' := 44) (L' := [some (.ref 0), some (.int c), some (.int w)]) (st' := [.int c, .ref 4]) (h' := zH I P) 3 rfl ?_
          obtain ⟨y1, hy1, hx⟩ := zbind hx
          refine wp_callf (d := 42) (as := [.ref 4, .int c]) (rest := []) (Ld := [some (.ref 4), some (.int c), none]) (pc' := 47) (st' := [.int y1.1]) (r := some (.int y1.1)) (h1 := zH y1.2 P) rfl rfl rfl rfl rfl rfl rfl rfl rfl (xp_M_placeOf_4 _ _ _ _ hy1) ?_
          cases hx
          exact wp_end rfl rfl ⟨rfl, rfl⟩
      · rw [if_pos c3] at hx
        refine wp_blk (pc' := 30) (L' := [some (.ref 0), some (.int c), some (.int w)]) (st' := [.int c, .ref 4]) (h' := zH I P) 3 rfl ?_
        refine wp_callf (d := 41) (as := [.ref 4, .int c]) (rest := []) (Ld := [some (.ref 4), some (.int c)]) (pc' := 33) (st' := [.int (f_M_kindOf 4 5 6 7 I c)]) (r := some (.int (f_M_kindOf 4 5 6 7 I c))) (h1 := zH I P) rfl rfl rfl rfl rfl rfl rfl rfl rfl (sp_M_kindOf_4 I P c) ?_
        cases hx
        exact wp_end rfl rfl ⟨rfl, rfl⟩
    · rw [if_neg c2] at hx
      refine wp_blk (pc' := 20) (L' := [some (.ref 0), some (.int c), some (.int w)]) (st' := [.int (-1)]) (h' := zH I P) 1 rfl ?_
      cases hx
      exact wp_end rfl rfl ⟨rfl, rfl⟩
def x_G_says (I : Nat → Nat → Int32) (i j : Int32) : Option (Int32 × (Nat → Nat → Int32)) := if f_G_areTwo I i j = 0 then (some (-1, I)) else (some (f_M_wordOf 4 5 6 7 I i j, I))
set_option maxRecDepth 100000 in
theorem xp_G_says {X : Nat × (Nat → Int32)} (I : Nat → Nat → Int32) (P : Nat → Nat → Option Nat) (i j : Int32) (r : Int32 × (Nat → Nat → Int32)) (hx : x_G_says I i j = some r) : Wf X 46 [some (.ref 0), some (.int i), some (.int j)] (zH I P) (some (.int r.1)) (zH r.2 P) := by
  unfold Wf
  unfold x_G_says at hx
  refine wp_blk (pc' := 3) (L' := [some (.ref 0), some (.int i), some (.int j)]) (st' := [.int j, .int i, .ref 0]) (h' := zH I P) 3 rfl ?_
  refine wp_callf (d := 47) (as := [.ref 0, .int i, .int j]) (rest := []) (Ld := [some (.ref 0), some (.int i), some (.int j)]) (pc' := 6) (st' := [.int (f_G_areTwo I i j)]) (r := some (.int (f_G_areTwo I i j))) (h1 := zH I P) rfl rfl rfl rfl rfl rfl rfl rfl rfl (sp_G_areTwo I P i j) ?_
  refine wp_eq (a := f_G_areTwo I i j) (b := 0) (s1 := (21, [some (.ref 0), some (.int i), some (.int j)], [], zH I P)) (s2 := (9, [some (.ref 0), some (.int i), some (.int j)], [], zH I P)) rfl (fun c1 => ?_) (fun c1 => ?_)
  · rw [if_pos c1] at hx
    refine wp_blk (pc' := 22) (L' := [some (.ref 0), some (.int i), some (.int j)]) (st' := [.int (-1)]) (h' := zH I P) 1 rfl ?_
    cases hx
    exact wp_end rfl rfl ⟨rfl, rfl⟩
  · rw [if_neg c1] at hx
    refine wp_blk (pc' := 15) (L' := [some (.ref 0), some (.int i), some (.int j)]) (st' := [.int j, .int i, .ref 4]) (h' := zH I P) 4 rfl ?_
    refine wp_callf (d := 48) (as := [.ref 4, .int i, .int j]) (rest := []) (Ld := [some (.ref 4), some (.int i), some (.int j), none]) (pc' := 18) (st' := [.int (f_M_wordOf 4 5 6 7 I i j)]) (r := some (.int (f_M_wordOf 4 5 6 7 I i j))) (h1 := zH I P) rfl rfl rfl rfl rfl rfl rfl rfl rfl (sp_M_wordOf_4 I P i j) ?_
    refine wp_blk (pc' := 22) (L' := [some (.ref 0), some (.int i), some (.int j)]) (st' := [.int (f_M_wordOf 4 5 6 7 I i j)]) (h' := zH I P) 1 rfl ?_
    cases hx
    exact wp_end rfl rfl ⟨rfl, rfl⟩
def x_G_fine (I : Nat → Nat → Int32) (c w : Int32) : Option (Int32 × (Nat → Nat → Int32)) := if f_M_has 4 5 6 7 I c = 0 then (some (-1, I)) else (if f_G_isOutside I w 1 = 0 then (if f_M_isGone 4 5 6 7 I c = 0 then ((x_R_pass 4 5 6 7 I).bind (fun q1 => if w = 0 then (some (f_R_fineOf q1.2 c, q1.2)) else (some (f_G_breadOf q1.2 (f_R_fineOf q1.2 c), q1.2)))) else (some (-2, I))) else (some (-1, I)))
set_option maxRecDepth 100000 in
theorem xp_G_fine {X : Nat × (Nat → Int32)} (I : Nat → Nat → Int32) (P : Nat → Nat → Option Nat) (c w : Int32) (r : Int32 × (Nat → Nat → Int32)) (hx : x_G_fine I c w = some r) : Wf X 49 [some (.ref 0), some (.int c), some (.int w), none] (zH I P) (some (.int r.1)) (zH r.2 P) := by
  unfold Wf
  unfold x_G_fine at hx
  refine wp_blk (pc' := 5) (L' := [some (.ref 0), some (.int c), some (.int w), none]) (st' := [.int c, .ref 4]) (h' := zH I P) 3 rfl ?_
  refine wp_callf (d := 24) (as := [.ref 4, .int c]) (rest := []) (Ld := [some (.ref 4), some (.int c)]) (pc' := 8) (st' := [.int (f_M_has 4 5 6 7 I c)]) (r := some (.int (f_M_has 4 5 6 7 I c))) (h1 := zH I P) rfl rfl rfl rfl rfl rfl rfl rfl rfl (sp_M_has_4 I P c) ?_
  refine wp_eq (a := f_M_has 4 5 6 7 I c) (b := 0) (s1 := (19, [some (.ref 0), some (.int c), some (.int w), none], [], zH I P)) (s2 := (11, [some (.ref 0), some (.int c), some (.int w), none], [], zH I P)) rfl (fun c1 => ?_) (fun c1 => ?_)
  · rw [if_pos c1] at hx
    refine wp_blk (pc' := 20) (L' := [some (.ref 0), some (.int c), some (.int w), none]) (st' := [.int (-1)]) (h' := zH I P) 1 rfl ?_
    cases hx
    exact wp_end rfl rfl ⟨rfl, rfl⟩
  · rw [if_neg c1] at hx
    refine wp_blk (pc' := 13) (L' := [some (.ref 0), some (.int c), some (.int w), none]) (st' := [.int 1, .int w]) (h' := zH I P) 2 rfl ?_
    refine wp_callf (d := 25) (as := [.int w, .int 1]) (rest := []) (Ld := [some (.int w), some (.int 1)]) (pc' := 16) (st' := [.int (f_G_isOutside I w 1)]) (r := some (.int (f_G_isOutside I w 1))) (h1 := zH I P) rfl rfl rfl rfl rfl rfl rfl rfl rfl (sp_G_isOutside I P w 1) ?_
    refine wp_eq (a := f_G_isOutside I w 1) (b := 0) (s1 := (21, [some (.ref 0), some (.int c), some (.int w), none], [], zH I P)) (s2 := (19, [some (.ref 0), some (.int c), some (.int w), none], [], zH I P)) rfl (fun c2 => ?_) (fun c2 => ?_)
    · rw [if_pos c2] at hx
      refine wp_blk (pc' := 26) (L' := [some (.ref 0), some (.int c), some (.int w), none]) (st' := [.int c, .ref 4]) (h' := zH I P) 3 rfl ?_
      refine wp_callf (d := 44) (as := [.ref 4, .int c]) (rest := []) (Ld := [some (.ref 4), some (.int c)]) (pc' := 29) (st' := [.int (f_M_isGone 4 5 6 7 I c)]) (r := some (.int (f_M_isGone 4 5 6 7 I c))) (h1 := zH I P) rfl rfl rfl rfl rfl rfl rfl rfl rfl (sp_M_isGone_4 I P c) ?_
      refine wp_eq (a := f_M_isGone 4 5 6 7 I c) (b := 0) (s1 := (35, [some (.ref 0), some (.int c), some (.int w), none], [], zH I P)) (s2 := (32, [some (.ref 0), some (.int c), some (.int w), none], [], zH I P)) rfl (fun c3 => ?_) (fun c3 => ?_)
      · rw [if_pos c3] at hx
        refine wp_blk (pc' := 43) (L' := [some (.ref 0), some (.int c), some (.int w), none]) (st' := [.ref 4, .ref 12]) (h' := zH I P) 4 rfl ?_
        obtain ⟨y1, hy1, hx⟩ := zbind hx
        refine wp_callf (d := 50) (as := [.ref 12, .ref 4]) (rest := []) (Ld := [some (.ref 12), some (.ref 4)]) (pc' := 46) (st' := []) (r := none) (h1 := zH y1.2 P) rfl rfl rfl rfl rfl rfl rfl rfl rfl (xp_R_pass_4 _ _  _ hy1) ?_
        refine wp_blk (pc' := 51) (L' := [some (.ref 0), some (.int c), some (.int w), none]) (st' := [.int c, .ref 12]) (h' := zH y1.2 P) 3 rfl ?_
        refine wp_callf (d := 63) (as := [.ref 12, .int c]) (rest := []) (Ld := [some (.ref 12), some (.int c)]) (pc' := 54) (st' := [.int (f_R_fineOf y1.2 c)]) (r := some (.int (f_R_fineOf y1.2 c))) (h1 := zH y1.2 P) rfl rfl rfl rfl rfl rfl rfl rfl rfl (sp_R_fineOf y1.2 P c) ?_
        refine wp_blk (pc' := 56) (L' := [some (.ref 0), some (.int c), some (.int w), some (.int (f_R_fineOf y1.2 c))]) (st' := [.int w]) (h' := zH y1.2 P) 2 rfl ?_
        refine wp_ne (a := w) (b := 0) (s1 := (63, [some (.ref 0), some (.int c), some (.int w), some (.int (f_R_fineOf y1.2 c))], [], zH y1.2 P)) (s2 := (59, [some (.ref 0), some (.int c), some (.int w), some (.int (f_R_fineOf y1.2 c))], [], zH y1.2 P)) rfl (fun c4 => ?_) (fun c4 => ?_)
        · rw [if_neg c4] at hx
          refine wp_blk (pc' := 64) (L' := [some (.ref 0), some (.int c), some (.int w), some (.int (f_R_fineOf y1.2 c))]) (st' := [.int (f_R_fineOf y1.2 c)]) (h' := zH y1.2 P) 1 rfl ?_
          refine wp_callf (d := 62) (as := [.int (f_R_fineOf y1.2 c)]) (rest := []) (Ld := [some (.int (f_R_fineOf y1.2 c))]) (pc' := 67) (st' := [.int (f_G_breadOf y1.2 (f_R_fineOf y1.2 c))]) (r := some (.int (f_G_breadOf y1.2 (f_R_fineOf y1.2 c)))) (h1 := zH y1.2 P) rfl rfl rfl rfl rfl rfl rfl rfl rfl (sp_G_breadOf y1.2 P (f_R_fineOf y1.2 c)) ?_
          cases hx
          exact wp_end rfl rfl ⟨rfl, rfl⟩
        · rw [if_pos c4] at hx
          refine wp_blk (pc' := 67) (L' := [some (.ref 0), some (.int c), some (.int w), some (.int (f_R_fineOf y1.2 c))]) (st' := [.int (f_R_fineOf y1.2 c)]) (h' := zH y1.2 P) 2 rfl ?_
          cases hx
          exact wp_end rfl rfl ⟨rfl, rfl⟩
      · rw [if_neg c3] at hx
        refine wp_blk (pc' := 34) (L' := [some (.ref 0), some (.int c), some (.int w), none]) (st' := [.int (-2)]) (h' := zH I P) 1 rfl ?_
        cases hx
        exact wp_end rfl rfl ⟨rfl, rfl⟩
    · rw [if_neg c2] at hx
      refine wp_blk (pc' := 20) (L' := [some (.ref 0), some (.int c), some (.int w), none]) (st' := [.int (-1)]) (h' := zH I P) 1 rfl ?_
      cases hx
      exact wp_end rfl rfl ⟨rfl, rfl⟩
def l_G_behind_49 : Nat → (Nat → Nat → Int32) → Int32 → Int32 → Int32 → Int32 → Option (Int32 × (Nat → Nat → Int32))
  | 0, _, _, _, _, _ => none
  | n + 1, I, x1, x2, x3, x4 => if x1 ≤ x4 then (if x2 = -1 then (some (x3, I)) else (some (f_R_fineOf I x2, I))) else ((x_R_grind 4 5 6 7 I x3 0).bind (fun q2 => l_G_behind_49 n q2.2 x1 x2 (f_R_stoneThen q2.2) (x4 + 1)))
def x_G_behind (I : Nat → Nat → Int32) (n c : Int32) : Option (Int32 × (Nat → Nat → Int32)) := if f_G_isOutside I n 60 = 0 then (if c = -1 then ((x_R_lineUp 4 5 6 7 I).bind (fun q1 => l_G_behind_49 1000 q1.2 n c (f_M_stoneNow 4 5 6 7 I) 0)) else (if f_M_has 4 5 6 7 I c = 0 then (some (-1, I)) else ((x_R_lineUp 4 5 6 7 I).bind (fun q3 => l_G_behind_49 1000 q3.2 n c (f_M_stoneNow 4 5 6 7 I) 0)))) else (some (-1, I))
set_option maxRecDepth 100000 in
theorem lp_G_behind_49 {X : Nat × (Nat → Int32)} (P : Nat → Nat → Option Nat) : ∀ (n : Nat) (I : Nat → Nat → Int32) (x1 : Int32) (x2 : Int32) (x3 : Int32) (x4 : Int32) (r : Int32 × (Nat → Nat → Int32)), l_G_behind_49 n I x1 x2 x3 x4 = some r → Wp X 81 49 [some (.ref 0), some (.int x1), some (.int x2), some (.int x3), some (.int x4)] [] (zH I P) (fun r2 h2 => r2 = some (.int r.1) ∧ h2 = zH r.2 P) := by
  intro n
  induction n with
  | zero => intro I x1 x2 x3 x4 r hx; cases hx
  | succ n ih =>
    intro I x1 x2 x3 x4 r hx
    rw [l_G_behind_49] at hx
    refine wp_blk (pc' := 52) (L' := [some (.ref 0), some (.int x1), some (.int x2), some (.int x3), some (.int x4)]) (st' := [.int x1, .int x4]) (h' := zH I P) 2 rfl ?_
    refine wp_ge (a := x4) (b := x1) (s1 := (83, [some (.ref 0), some (.int x1), some (.int x2), some (.int x3), some (.int x4)], [], zH I P)) (s2 := (55, [some (.ref 0), some (.int x1), some (.int x2), some (.int x3), some (.int x4)], [], zH I P)) rfl (fun c1 => ?_) (fun c1 => ?_)
    · rw [if_pos c1] at hx
      refine wp_blk (pc' := 85) (L' := [some (.ref 0), some (.int x1), some (.int x2), some (.int x3), some (.int x4)]) (st' := [.int (-1), .int x2]) (h' := zH I P) 2 rfl ?_
      refine wp_ne (a := x2) (b := -1) (s1 := (92, [some (.ref 0), some (.int x1), some (.int x2), some (.int x3), some (.int x4)], [], zH I P)) (s2 := (88, [some (.ref 0), some (.int x1), some (.int x2), some (.int x3), some (.int x4)], [], zH I P)) rfl (fun c2 => ?_) (fun c2 => ?_)
      · rw [if_neg c2] at hx
        refine wp_blk (pc' := 97) (L' := [some (.ref 0), some (.int x1), some (.int x2), some (.int x3), some (.int x4)]) (st' := [.int x2, .ref 12]) (h' := zH I P) 3 rfl ?_
        refine wp_callf (d := 63) (as := [.ref 12, .int x2]) (rest := []) (Ld := [some (.ref 12), some (.int x2)]) (pc' := 100) (st' := [.int (f_R_fineOf I x2)]) (r := some (.int (f_R_fineOf I x2))) (h1 := zH I P) rfl rfl rfl rfl rfl rfl rfl rfl rfl (sp_R_fineOf I P x2) ?_
        cases hx
        exact wp_end rfl rfl ⟨rfl, rfl⟩
      · rw [if_pos c2] at hx
        refine wp_blk (pc' := 100) (L' := [some (.ref 0), some (.int x1), some (.int x2), some (.int x3), some (.int x4)]) (st' := [.int x3]) (h' := zH I P) 2 rfl ?_
        cases hx
        exact wp_end rfl rfl ⟨rfl, rfl⟩
    · rw [if_neg c1] at hx
      refine wp_blk (pc' := 65) (L' := [some (.ref 0), some (.int x1), some (.int x2), some (.int x3), some (.int x4)]) (st' := [.int 0, .int x3, .ref 4, .ref 12]) (h' := zH I P) 6 rfl ?_
      obtain ⟨y1, hy1, hx⟩ := zbind hx
      refine wp_callf (d := 55) (as := [.ref 12, .ref 4, .int x3, .int 0]) (rest := []) (Ld := [some (.ref 12), some (.ref 4), some (.int x3), some (.int 0), none, none, none]) (pc' := 68) (st' := [.int y1.1]) (r := some (.int y1.1)) (h1 := zH y1.2 P) rfl rfl rfl rfl rfl rfl rfl rfl rfl (xp_R_grind_4 _ _ _ _ _ hy1) ?_
      refine wp_blk (pc' := 73) (L' := [some (.ref 0), some (.int x1), some (.int x2), some (.int x3), some (.int x4)]) (st' := [.ref 12]) (h' := zH y1.2 P) 3 rfl ?_
      refine wp_callf (d := 75) (as := [.ref 12]) (rest := []) (Ld := [some (.ref 12)]) (pc' := 76) (st' := [.int (f_R_stoneThen y1.2)]) (r := some (.int (f_R_stoneThen y1.2))) (h1 := zH y1.2 P) rfl rfl rfl rfl rfl rfl rfl rfl rfl (sp_R_stoneThen y1.2 P) ?_
      refine wp_blk (pc' := 49) (L' := [some (.ref 0), some (.int x1), some (.int x2), some (.int (f_R_stoneThen y1.2)), some (.int (x4 + 1))]) (st' := []) (h' := zH y1.2 P) 3 rfl ?_
      exact ih _ _ _ _ _ _ hx
set_option maxRecDepth 100000 in
theorem xp_G_behind {X : Nat × (Nat → Int32)} (I : Nat → Nat → Int32) (P : Nat → Nat → Option Nat) (n c : Int32) (r : Int32 × (Nat → Nat → Int32)) (hx : x_G_behind I n c = some r) : Wf X 81 [some (.ref 0), some (.int n), some (.int c), none, none] (zH I P) (some (.int r.1)) (zH r.2 P) := by
  unfold Wf
  unfold x_G_behind at hx
  refine wp_blk (pc' := 3) (L' := [some (.ref 0), some (.int n), some (.int c), none, none]) (st' := [.int 60, .int n]) (h' := zH I P) 2 rfl ?_
  refine wp_callf (d := 25) (as := [.int n, .int 60]) (rest := []) (Ld := [some (.int n), some (.int 60)]) (pc' := 6) (st' := [.int (f_G_isOutside I n 60)]) (r := some (.int (f_G_isOutside I n 60))) (h1 := zH I P) rfl rfl rfl rfl rfl rfl rfl rfl rfl (sp_G_isOutside I P n 60) ?_
  refine wp_ne (a := f_G_isOutside I n 60) (b := 0) (s1 := (25, [some (.ref 0), some (.int n), some (.int c), none, none], [], zH I P)) (s2 := (9, [some (.ref 0), some (.int n), some (.int c), none, none], [], zH I P)) rfl (fun c1 => ?_) (fun c1 => ?_)
  · rw [if_neg c1] at hx
    refine wp_blk (pc' := 26) (L' := [some (.ref 0), some (.int n), some (.int c), none, none]) (st' := [.int (-1)]) (h' := zH I P) 1 rfl ?_
    cases hx
    exact wp_end rfl rfl ⟨rfl, rfl⟩
  · rw [if_pos c1] at hx
    refine wp_blk (pc' := 11) (L' := [some (.ref 0), some (.int n), some (.int c), none, none]) (st' := [.int (-1), .int c]) (h' := zH I P) 2 rfl ?_
    refine wp_eq (a := c) (b := -1) (s1 := (27, [some (.ref 0), some (.int n), some (.int c), none, none], [], zH I P)) (s2 := (14, [some (.ref 0), some (.int n), some (.int c), none, none], [], zH I P)) rfl (fun c2 => ?_) (fun c2 => ?_)
    · rw [if_pos c2] at hx
      refine wp_blk (pc' := 31) (L' := [some (.ref 0), some (.int n), some (.int c), none, none]) (st' := [.ref 4]) (h' := zH I P) 2 rfl ?_
      refine wp_callf (d := 54) (as := [.ref 4]) (rest := []) (Ld := [some (.ref 4)]) (pc' := 34) (st' := [.int (f_M_stoneNow 4 5 6 7 I)]) (r := some (.int (f_M_stoneNow 4 5 6 7 I))) (h1 := zH I P) rfl rfl rfl rfl rfl rfl rfl rfl rfl (sp_M_stoneNow_4 I P) ?_
      refine wp_blk (pc' := 43) (L' := [some (.ref 0), some (.int n), some (.int c), some (.int (f_M_stoneNow 4 5 6 7 I)), none]) (st' := [.ref 4, .ref 12]) (h' := zH I P) 5 rfl ?_
      obtain ⟨y1, hy1, hx⟩ := zbind hx
      refine wp_callf (d := 51) (as := [.ref 12, .ref 4]) (rest := []) (Ld := [some (.ref 12), some (.ref 4), none]) (pc' := 46) (st' := []) (r := none) (h1 := zH y1.2 P) rfl rfl rfl rfl rfl rfl rfl rfl rfl (xp_R_lineUp_4 _ _  _ hy1) ?_
      refine wp_blk (pc' := 49) (L' := [some (.ref 0), some (.int n), some (.int c), some (.int (f_M_stoneNow 4 5 6 7 I)), some (.int 0)]) (st' := []) (h' := zH y1.2 P) 2 rfl ?_
      exact lp_G_behind_49 P _ _ _ _ _ _ _ hx
    · rw [if_neg c2] at hx
      refine wp_blk (pc' := 19) (L' := [some (.ref 0), some (.int n), some (.int c), none, none]) (st' := [.int c, .ref 4]) (h' := zH I P) 3 rfl ?_
      refine wp_callf (d := 24) (as := [.ref 4, .int c]) (rest := []) (Ld := [some (.ref 4), some (.int c)]) (pc' := 22) (st' := [.int (f_M_has 4 5 6 7 I c)]) (r := some (.int (f_M_has 4 5 6 7 I c))) (h1 := zH I P) rfl rfl rfl rfl rfl rfl rfl rfl rfl (sp_M_has_4 I P c) ?_
      refine wp_ne (a := f_M_has 4 5 6 7 I c) (b := 0) (s1 := (27, [some (.ref 0), some (.int n), some (.int c), none, none], [], zH I P)) (s2 := (25, [some (.ref 0), some (.int n), some (.int c), none, none], [], zH I P)) rfl (fun c3 => ?_) (fun c3 => ?_)
      · rw [if_neg c3] at hx
        refine wp_blk (pc' := 31) (L' := [some (.ref 0), some (.int n), some (.int c), none, none]) (st' := [.ref 4]) (h' := zH I P) 2 rfl ?_
        refine wp_callf (d := 54) (as := [.ref 4]) (rest := []) (Ld := [some (.ref 4)]) (pc' := 34) (st' := [.int (f_M_stoneNow 4 5 6 7 I)]) (r := some (.int (f_M_stoneNow 4 5 6 7 I))) (h1 := zH I P) rfl rfl rfl rfl rfl rfl rfl rfl rfl (sp_M_stoneNow_4 I P) ?_
        refine wp_blk (pc' := 43) (L' := [some (.ref 0), some (.int n), some (.int c), some (.int (f_M_stoneNow 4 5 6 7 I)), none]) (st' := [.ref 4, .ref 12]) (h' := zH I P) 5 rfl ?_
        obtain ⟨y2, hy2, hx⟩ := zbind hx
        refine wp_callf (d := 51) (as := [.ref 12, .ref 4]) (rest := []) (Ld := [some (.ref 12), some (.ref 4), none]) (pc' := 46) (st' := []) (r := none) (h1 := zH y2.2 P) rfl rfl rfl rfl rfl rfl rfl rfl rfl (xp_R_lineUp_4 _ _  _ hy2) ?_
        refine wp_blk (pc' := 49) (L' := [some (.ref 0), some (.int n), some (.int c), some (.int (f_M_stoneNow 4 5 6 7 I)), some (.int 0)]) (st' := []) (h' := zH y2.2 P) 2 rfl ?_
        exact lp_G_behind_49 P _ _ _ _ _ _ _ hx
      · rw [if_pos c3] at hx
        refine wp_blk (pc' := 26) (L' := [some (.ref 0), some (.int n), some (.int c), none, none]) (st' := [.int (-1)]) (h' := zH I P) 1 rfl ?_
        cases hx
        exact wp_end rfl rfl ⟨rfl, rfl⟩
def l_G_findFinestRow_19 : Nat → (Nat → Nat → Int32) → Int32 → Int32 → Int32 → Int32 → Option (Int32 × (Nat → Nat → Int32))
  | 0, _, _, _, _, _ => none
  | n + 1, I, x1, x2, x3, x4 => if 720 ≤ x4 then (some (x2, I)) else (if x3 = 0 then (some (x2, I)) else (if 9 ≤ x2 then (some (x2, I)) else ((x_R_grind 4 5 6 7 I (f_M_stoneNow 4 5 6 7 I) 1).bind (fun q2 => if q2.1 = 0 then ((x_R_nextOrder q2.2).bind (fun q3 => l_G_findFinestRow_19 n q3.2 x1 x2 q3.1 (x4 + 1))) else (if f_R_fineOf q2.2 x1 ≤ x2 then ((x_R_nextOrder q2.2).bind (fun q4 => l_G_findFinestRow_19 n q4.2 x1 x2 q4.1 (x4 + 1))) else ((x_R_copyRow q2.2).bind (fun q5 => (x_R_nextOrder q5.2).bind (fun q6 => l_G_findFinestRow_19 n q6.2 x1 (f_R_fineOf q2.2 x1) q6.1 (x4 + 1)))))))))
def x_G_findFinestRow (I : Nat → Nat → Int32) (c : Int32) : Option (Int32 × (Nat → Nat → Int32)) := (x_R_lineUpByNumber 4 5 6 7 I).bind (fun q1 => l_G_findFinestRow_19 1000 q1.2 c (-4) 1 0)
set_option maxRecDepth 100000 in
theorem lp_G_findFinestRow_19 {X : Nat × (Nat → Int32)} (P : Nat → Nat → Option Nat) : ∀ (n : Nat) (I : Nat → Nat → Int32) (x1 : Int32) (x2 : Int32) (x3 : Int32) (x4 : Int32) (r : Int32 × (Nat → Nat → Int32)), l_G_findFinestRow_19 n I x1 x2 x3 x4 = some r → Wp X 83 19 [some (.ref 0), some (.int x1), some (.int x2), some (.int x3), some (.int x4)] [] (zH I P) (fun r2 h2 => r2 = some (.int r.1) ∧ h2 = zH r.2 P) := by
  intro n
  induction n with
  | zero => intro I x1 x2 x3 x4 r hx; cases hx
  | succ n ih =>
    intro I x1 x2 x3 x4 r hx
    rw [l_G_findFinestRow_19] at hx
    refine wp_blk (pc' := 24) (L' := [some (.ref 0), some (.int x1), some (.int x2), some (.int x3), some (.int x4)]) (st' := [.int 720, .int x4]) (h' := zH I P) 2 rfl ?_
    refine wp_ge (a := x4) (b := 720) (s1 := (105, [some (.ref 0), some (.int x1), some (.int x2), some (.int x3), some (.int x4)], [], zH I P)) (s2 := (27, [some (.ref 0), some (.int x1), some (.int x2), some (.int x3), some (.int x4)], [], zH I P)) rfl (fun c1 => ?_) (fun c1 => ?_)
    · rw [if_pos c1] at hx
      refine wp_blk (pc' := 106) (L' := [some (.ref 0), some (.int x1), some (.int x2), some (.int x3), some (.int x4)]) (st' := [.int x2]) (h' := zH I P) 1 rfl ?_
      cases hx
      exact wp_end rfl rfl ⟨rfl, rfl⟩
    · rw [if_neg c1] at hx
      refine wp_blk (pc' := 28) (L' := [some (.ref 0), some (.int x1), some (.int x2), some (.int x3), some (.int x4)]) (st' := [.int x3]) (h' := zH I P) 1 rfl ?_
      refine wp_eq (a := x3) (b := 0) (s1 := (105, [some (.ref 0), some (.int x1), some (.int x2), some (.int x3), some (.int x4)], [], zH I P)) (s2 := (31, [some (.ref 0), some (.int x1), some (.int x2), some (.int x3), some (.int x4)], [], zH I P)) rfl (fun c2 => ?_) (fun c2 => ?_)
      · rw [if_pos c2] at hx
        refine wp_blk (pc' := 106) (L' := [some (.ref 0), some (.int x1), some (.int x2), some (.int x3), some (.int x4)]) (st' := [.int x2]) (h' := zH I P) 1 rfl ?_
        cases hx
        exact wp_end rfl rfl ⟨rfl, rfl⟩
      · rw [if_neg c2] at hx
        refine wp_blk (pc' := 34) (L' := [some (.ref 0), some (.int x1), some (.int x2), some (.int x3), some (.int x4)]) (st' := [.int 9, .int x2]) (h' := zH I P) 2 rfl ?_
        refine wp_ge (a := x2) (b := 9) (s1 := (105, [some (.ref 0), some (.int x1), some (.int x2), some (.int x3), some (.int x4)], [], zH I P)) (s2 := (37, [some (.ref 0), some (.int x1), some (.int x2), some (.int x3), some (.int x4)], [], zH I P)) rfl (fun c3 => ?_) (fun c3 => ?_)
        · rw [if_pos c3] at hx
          refine wp_blk (pc' := 106) (L' := [some (.ref 0), some (.int x1), some (.int x2), some (.int x3), some (.int x4)]) (st' := [.int x2]) (h' := zH I P) 1 rfl ?_
          cases hx
          exact wp_end rfl rfl ⟨rfl, rfl⟩
        · rw [if_neg c3] at hx
          refine wp_blk (pc' := 49) (L' := [some (.ref 0), some (.int x1), some (.int x2), some (.int x3), some (.int x4)]) (st' := [.ref 4, .ref 4, .ref 12]) (h' := zH I P) 6 rfl ?_
          refine wp_callf (d := 54) (as := [.ref 4]) (rest := [.ref 4, .ref 12]) (Ld := [some (.ref 4)]) (pc' := 52) (st' := [.int (f_M_stoneNow 4 5 6 7 I), .ref 4, .ref 12]) (r := some (.int (f_M_stoneNow 4 5 6 7 I))) (h1 := zH I P) rfl rfl rfl rfl rfl rfl rfl rfl rfl (sp_M_stoneNow_4 I P) ?_
          refine wp_blk (pc' := 53) (L' := [some (.ref 0), some (.int x1), some (.int x2), some (.int x3), some (.int x4)]) (st' := [.int 1, .int (f_M_stoneNow 4 5 6 7 I), .ref 4, .ref 12]) (h' := zH I P) 1 rfl ?_
          obtain ⟨y1, hy1, hx⟩ := zbind hx
          refine wp_callf (d := 55) (as := [.ref 12, .ref 4, .int (f_M_stoneNow 4 5 6 7 I), .int 1]) (rest := []) (Ld := [some (.ref 12), some (.ref 4), some (.int (f_M_stoneNow 4 5 6 7 I)), some (.int 1), none, none, none]) (pc' := 56) (st' := [.int y1.1]) (r := some (.int y1.1)) (h1 := zH y1.2 P) rfl rfl rfl rfl rfl rfl rfl rfl rfl (xp_R_grind_4 _ _ _ _ _ hy1) ?_
          refine wp_eq (a := y1.1) (b := 0) (s1 := (91, [some (.ref 0), some (.int x1), some (.int x2), some (.int x3), some (.int x4)], [], zH y1.2 P)) (s2 := (59, [some (.ref 0), some (.int x1), some (.int x2), some (.int x3), some (.int x4)], [], zH y1.2 P)) rfl (fun c4 => ?_) (fun c4 => ?_)
          · rw [if_pos c4] at hx
            refine wp_blk (pc' := 95) (L' := [some (.ref 0), some (.int x1), some (.int x2), some (.int x3), some (.int x4)]) (st' := [.ref 12]) (h' := zH y1.2 P) 2 rfl ?_
            obtain ⟨y2, hy2, hx⟩ := zbind hx
            refine wp_callf (d := 86) (as := [.ref 12]) (rest := []) (Ld := [some (.ref 12), none, none, none, none]) (pc' := 98) (st' := [.int y2.1]) (r := some (.int y2.1)) (h1 := zH y2.2 P) rfl rfl rfl rfl rfl rfl rfl rfl rfl (xp_R_nextOrder _ _  _ hy2) ?_
            refine wp_blk (pc' := 19) (L' := [some (.ref 0), some (.int x1), some (.int x2), some (.int y2.1), some (.int (x4 + 1))]) (st' := []) (h' := zH y2.2 P) 3 rfl ?_
            exact ih _ _ _ _ _ _ hx
          · rw [if_neg c4] at hx
            refine wp_blk (pc' := 64) (L' := [some (.ref 0), some (.int x1), some (.int x2), some (.int x3), some (.int x4)]) (st' := [.int x1, .ref 12]) (h' := zH y1.2 P) 3 rfl ?_
            refine wp_callf (d := 63) (as := [.ref 12, .int x1]) (rest := []) (Ld := [some (.ref 12), some (.int x1)]) (pc' := 67) (st' := [.int (f_R_fineOf y1.2 x1)]) (r := some (.int (f_R_fineOf y1.2 x1))) (h1 := zH y1.2 P) rfl rfl rfl rfl rfl rfl rfl rfl rfl (sp_R_fineOf y1.2 P x1) ?_
            refine wp_blk (pc' := 68) (L' := [some (.ref 0), some (.int x1), some (.int x2), some (.int x3), some (.int x4)]) (st' := [.int x2, .int (f_R_fineOf y1.2 x1)]) (h' := zH y1.2 P) 1 rfl ?_
            refine wp_le (a := f_R_fineOf y1.2 x1) (b := x2) (s1 := (91, [some (.ref 0), some (.int x1), some (.int x2), some (.int x3), some (.int x4)], [], zH y1.2 P)) (s2 := (71, [some (.ref 0), some (.int x1), some (.int x2), some (.int x3), some (.int x4)], [], zH y1.2 P)) rfl (fun c5 => ?_) (fun c5 => ?_)
            · rw [if_pos c5] at hx
              refine wp_blk (pc' := 95) (L' := [some (.ref 0), some (.int x1), some (.int x2), some (.int x3), some (.int x4)]) (st' := [.ref 12]) (h' := zH y1.2 P) 2 rfl ?_
              obtain ⟨y3, hy3, hx⟩ := zbind hx
              refine wp_callf (d := 86) (as := [.ref 12]) (rest := []) (Ld := [some (.ref 12), none, none, none, none]) (pc' := 98) (st' := [.int y3.1]) (r := some (.int y3.1)) (h1 := zH y3.2 P) rfl rfl rfl rfl rfl rfl rfl rfl rfl (xp_R_nextOrder _ _  _ hy3) ?_
              refine wp_blk (pc' := 19) (L' := [some (.ref 0), some (.int x1), some (.int x2), some (.int y3.1), some (.int (x4 + 1))]) (st' := []) (h' := zH y3.2 P) 3 rfl ?_
              exact ih _ _ _ _ _ _ hx
            · rw [if_neg c5] at hx
              refine wp_blk (pc' := 76) (L' := [some (.ref 0), some (.int x1), some (.int x2), some (.int x3), some (.int x4)]) (st' := [.int x1, .ref 12]) (h' := zH y1.2 P) 3 rfl ?_
              refine wp_callf (d := 63) (as := [.ref 12, .int x1]) (rest := []) (Ld := [some (.ref 12), some (.int x1)]) (pc' := 79) (st' := [.int (f_R_fineOf y1.2 x1)]) (r := some (.int (f_R_fineOf y1.2 x1))) (h1 := zH y1.2 P) rfl rfl rfl rfl rfl rfl rfl rfl rfl (sp_R_fineOf y1.2 P x1) ?_
              refine wp_blk (pc' := 88) (L' := [some (.ref 0), some (.int x1), some (.int (f_R_fineOf y1.2 x1)), some (.int x3), some (.int x4)]) (st' := [.ref 15, .ref 12]) (h' := zH y1.2 P) 5 rfl ?_
              obtain ⟨y4, hy4, hx⟩ := zbind hx
              refine wp_callf (d := 85) (as := [.ref 12, .ref 15]) (rest := []) (Ld := [some (.ref 12), some (.ref 15), none]) (pc' := 91) (st' := []) (r := none) (h1 := zH y4.2 P) rfl rfl rfl rfl rfl rfl rfl rfl rfl (xp_R_copyRow _ _  _ hy4) ?_
              refine wp_blk (pc' := 95) (L' := [some (.ref 0), some (.int x1), some (.int (f_R_fineOf y1.2 x1)), some (.int x3), some (.int x4)]) (st' := [.ref 12]) (h' := zH y4.2 P) 2 rfl ?_
              obtain ⟨y5, hy5, hx⟩ := zbind hx
              refine wp_callf (d := 86) (as := [.ref 12]) (rest := []) (Ld := [some (.ref 12), none, none, none, none]) (pc' := 98) (st' := [.int y5.1]) (r := some (.int y5.1)) (h1 := zH y5.2 P) rfl rfl rfl rfl rfl rfl rfl rfl rfl (xp_R_nextOrder _ _  _ hy5) ?_
              refine wp_blk (pc' := 19) (L' := [some (.ref 0), some (.int x1), some (.int (f_R_fineOf y1.2 x1)), some (.int y5.1), some (.int (x4 + 1))]) (st' := []) (h' := zH y5.2 P) 3 rfl ?_
              exact ih _ _ _ _ _ _ hx
set_option maxRecDepth 100000 in
theorem xp_G_findFinestRow {X : Nat × (Nat → Int32)} (I : Nat → Nat → Int32) (P : Nat → Nat → Option Nat) (c : Int32) (r : Int32 × (Nat → Nat → Int32)) (hx : x_G_findFinestRow I c = some r) : Wf X 83 [some (.ref 0), some (.int c), none, none, none] (zH I P) (some (.int r.1)) (zH r.2 P) := by
  unfold Wf
  unfold x_G_findFinestRow at hx
  refine wp_blk (pc' := 13) (L' := [some (.ref 0), some (.int c), some (.int (-4)), some (.int 1), none]) (st' := [.ref 4, .ref 12]) (h' := zH I P) 8 rfl ?_
  obtain ⟨y1, hy1, hx⟩ := zbind hx
  refine wp_callf (d := 84) (as := [.ref 12, .ref 4]) (rest := []) (Ld := [some (.ref 12), some (.ref 4), none]) (pc' := 16) (st' := []) (r := none) (h1 := zH y1.2 P) rfl rfl rfl rfl rfl rfl rfl rfl rfl (xp_R_lineUpByNumber_4 _ _  _ hy1) ?_
  refine wp_blk (pc' := 19) (L' := [some (.ref 0), some (.int c), some (.int (-4)), some (.int 1), some (.int 0)]) (st' := []) (h' := zH y1.2 P) 2 rfl ?_
  exact lp_G_findFinestRow_19 P _ _ _ _ _ _ _ hx
def x_G_order (I : Nat → Nat → Int32) (c k : Int32) : Option (Int32 × (Nat → Nat → Int32)) := if f_M_has 4 5 6 7 I c = 0 then (some (-1, I)) else (if f_G_isOutside I k 6 = 0 then (if f_M_isGone 4 5 6 7 I c = 0 then ((x_G_findFinestRow I c).bind (fun q1 => if q1.1 = -4 then (some (q1.1, q1.2)) else (if k = 0 then (some (q1.1, q1.2)) else (if f_R_size q1.2 < k then (some (-4, q1.2)) else (if zinb (k - 1) 6 = true then (some (q1.2 15 ((k - 1).toNatClampNeg), q1.2)) else none))))) else (some (-2, I))) else (some (-1, I)))
set_option maxRecDepth 100000 in
theorem xp_G_order {X : Nat × (Nat → Int32)} (I : Nat → Nat → Int32) (P : Nat → Nat → Option Nat) (c k : Int32) (r : Int32 × (Nat → Nat → Int32)) (hx : x_G_order I c k = some r) : Wf X 82 [some (.ref 0), some (.int c), some (.int k), none] (zH I P) (some (.int r.1)) (zH r.2 P) := by
  unfold Wf
  unfold x_G_order at hx
  refine wp_blk (pc' := 5) (L' := [some (.ref 0), some (.int c), some (.int k), none]) (st' := [.int c, .ref 4]) (h' := zH I P) 3 rfl ?_
  refine wp_callf (d := 24) (as := [.ref 4, .int c]) (rest := []) (Ld := [some (.ref 4), some (.int c)]) (pc' := 8) (st' := [.int (f_M_has 4 5 6 7 I c)]) (r := some (.int (f_M_has 4 5 6 7 I c))) (h1 := zH I P) rfl rfl rfl rfl rfl rfl rfl rfl rfl (sp_M_has_4 I P c) ?_
  refine wp_eq (a := f_M_has 4 5 6 7 I c) (b := 0) (s1 := (20, [some (.ref 0), some (.int c), some (.int k), none], [], zH I P)) (s2 := (11, [some (.ref 0), some (.int c), some (.int k), none], [], zH I P)) rfl (fun c1 => ?_) (fun c1 => ?_)
  · rw [if_pos c1] at hx
    refine wp_blk (pc' := 21) (L' := [some (.ref 0), some (.int c), some (.int k), none]) (st' := [.int (-1)]) (h' := zH I P) 1 rfl ?_
    cases hx
    exact wp_end rfl rfl ⟨rfl, rfl⟩
  · rw [if_neg c1] at hx
    refine wp_blk (pc' := 14) (L' := [some (.ref 0), some (.int c), some (.int k), none]) (st' := [.int 6, .int k]) (h' := zH I P) 2 rfl ?_
    refine wp_callf (d := 25) (as := [.int k, .int 6]) (rest := []) (Ld := [some (.int k), some (.int 6)]) (pc' := 17) (st' := [.int (f_G_isOutside I k 6)]) (r := some (.int (f_G_isOutside I k 6))) (h1 := zH I P) rfl rfl rfl rfl rfl rfl rfl rfl rfl (sp_G_isOutside I P k 6) ?_
    refine wp_eq (a := f_G_isOutside I k 6) (b := 0) (s1 := (22, [some (.ref 0), some (.int c), some (.int k), none], [], zH I P)) (s2 := (20, [some (.ref 0), some (.int c), some (.int k), none], [], zH I P)) rfl (fun c2 => ?_) (fun c2 => ?_)
    · rw [if_pos c2] at hx
      refine wp_blk (pc' := 27) (L' := [some (.ref 0), some (.int c), some (.int k), none]) (st' := [.int c, .ref 4]) (h' := zH I P) 3 rfl ?_
      refine wp_callf (d := 44) (as := [.ref 4, .int c]) (rest := []) (Ld := [some (.ref 4), some (.int c)]) (pc' := 30) (st' := [.int (f_M_isGone 4 5 6 7 I c)]) (r := some (.int (f_M_isGone 4 5 6 7 I c))) (h1 := zH I P) rfl rfl rfl rfl rfl rfl rfl rfl rfl (sp_M_isGone_4 I P c) ?_
      refine wp_eq (a := f_M_isGone 4 5 6 7 I c) (b := 0) (s1 := (36, [some (.ref 0), some (.int c), some (.int k), none], [], zH I P)) (s2 := (33, [some (.ref 0), some (.int c), some (.int k), none], [], zH I P)) rfl (fun c3 => ?_) (fun c3 => ?_)
      · rw [if_pos c3] at hx
        refine wp_blk (pc' := 38) (L' := [some (.ref 0), some (.int c), some (.int k), none]) (st' := [.int c, .ref 0]) (h' := zH I P) 2 rfl ?_
        obtain ⟨y1, hy1, hx⟩ := zbind hx
        refine wp_callf (d := 83) (as := [.ref 0, .int c]) (rest := []) (Ld := [some (.ref 0), some (.int c), none, none, none]) (pc' := 41) (st' := [.int y1.1]) (r := some (.int y1.1)) (h1 := zH y1.2 P) rfl rfl rfl rfl rfl rfl rfl rfl rfl (xp_G_findFinestRow _ _ _ _ hy1) ?_
        refine wp_blk (pc' := 45) (L' := [some (.ref 0), some (.int c), some (.int k), some (.int y1.1)]) (st' := [.int (-4), .int y1.1]) (h' := zH y1.2 P) 3 rfl ?_
        refine wp_eq (a := y1.1) (b := -4) (s1 := (52, [some (.ref 0), some (.int c), some (.int k), some (.int y1.1)], [], zH y1.2 P)) (s2 := (48, [some (.ref 0), some (.int c), some (.int k), some (.int y1.1)], [], zH y1.2 P)) rfl (fun c4 => ?_) (fun c4 => ?_)
        · rw [if_pos c4] at hx
          refine wp_blk (pc' := 53) (L' := [some (.ref 0), some (.int c), some (.int k), some (.int y1.1)]) (st' := [.int y1.1]) (h' := zH y1.2 P) 1 rfl ?_
          cases hx
          exact wp_end rfl rfl ⟨rfl, rfl⟩
        · rw [if_neg c4] at hx
          refine wp_blk (pc' := 49) (L' := [some (.ref 0), some (.int c), some (.int k), some (.int y1.1)]) (st' := [.int k]) (h' := zH y1.2 P) 1 rfl ?_
          refine wp_ne (a := k) (b := 0) (s1 := (54, [some (.ref 0), some (.int c), some (.int k), some (.int y1.1)], [], zH y1.2 P)) (s2 := (52, [some (.ref 0), some (.int c), some (.int k), some (.int y1.1)], [], zH y1.2 P)) rfl (fun c5 => ?_) (fun c5 => ?_)
          · rw [if_neg c5] at hx
            refine wp_blk (pc' := 59) (L' := [some (.ref 0), some (.int c), some (.int k), some (.int y1.1)]) (st' := [.ref 12, .int k]) (h' := zH y1.2 P) 3 rfl ?_
            refine wp_callf (d := 88) (as := [.ref 12]) (rest := [.int k]) (Ld := [some (.ref 12)]) (pc' := 62) (st' := [.int (f_R_size y1.2), .int k]) (r := some (.int (f_R_size y1.2))) (h1 := zH y1.2 P) rfl rfl rfl rfl rfl rfl rfl rfl rfl (sp_R_size y1.2 P) ?_
            refine wp_gt (a := k) (b := f_R_size y1.2) (s1 := (76, [some (.ref 0), some (.int c), some (.int k), some (.int y1.1)], [], zH y1.2 P)) (s2 := (65, [some (.ref 0), some (.int c), some (.int k), some (.int y1.1)], [], zH y1.2 P)) rfl (fun c6 => ?_) (fun c6 => ?_)
            · rw [if_pos c6] at hx
              refine wp_blk (pc' := 78) (L' := [some (.ref 0), some (.int c), some (.int k), some (.int y1.1)]) (st' := [.int (-4)]) (h' := zH y1.2 P) 1 rfl ?_
              cases hx
              exact wp_end rfl rfl ⟨rfl, rfl⟩
            · rw [if_neg c6] at hx
              refine wp_blk (pc' := 72) (L' := [some (.ref 0), some (.int c), some (.int k), some (.int y1.1)]) (st' := [.int (k - 1), .ref 15]) (h' := zH y1.2 P) 5 rfl ?_
              obtain ⟨c7, hx⟩ := zite hx
              refine wp_chk (P := zinb (k - 1) 6 = true) (pc' := 73) (L' := [some (.ref 0), some (.int c), some (.int k), some (.int y1.1)]) (st' := [.int (y1.2 15 ((k - 1).toNatClampNeg))]) (h' := zH y1.2 P) rfl c7 ?_
              refine wp_blk (pc' := 78) (L' := [some (.ref 0), some (.int c), some (.int k), some (.int y1.1)]) (st' := [.int (y1.2 15 ((k - 1).toNatClampNeg))]) (h' := zH y1.2 P) 1 rfl ?_
              cases hx
              exact wp_end rfl rfl ⟨rfl, rfl⟩
          · rw [if_pos c5] at hx
            refine wp_blk (pc' := 53) (L' := [some (.ref 0), some (.int c), some (.int k), some (.int y1.1)]) (st' := [.int y1.1]) (h' := zH y1.2 P) 1 rfl ?_
            cases hx
            exact wp_end rfl rfl ⟨rfl, rfl⟩
      · rw [if_neg c3] at hx
        refine wp_blk (pc' := 35) (L' := [some (.ref 0), some (.int c), some (.int k), none]) (st' := [.int (-2)]) (h' := zH I P) 1 rfl ?_
        cases hx
        exact wp_end rfl rfl ⟨rfl, rfl⟩
    · rw [if_neg c2] at hx
      refine wp_blk (pc' := 21) (L' := [some (.ref 0), some (.int c), some (.int k), none]) (st' := [.int (-1)]) (h' := zH I P) 1 rfl ?_
      cases hx
      exact wp_end rfl rfl ⟨rfl, rfl⟩
def l_G_helpless_23 : Nat → (Nat → Nat → Int32) → Int32 → Int32 → Int32 → Option (Int32 × (Nat → Nat → Int32))
  | 0, _, _, _, _ => none
  | n + 1, I, x1, x2, x3 => if 720 ≤ x3 then (some (x1, I)) else (if x2 = 0 then (some (x1, I)) else (if x1 = 0 then (some (x1, I)) else ((x_R_grind 4 5 6 7 I (f_M_stoneNow 4 5 6 7 I) 0).bind (fun q2 => (x_R_branBits q2.2).bind (fun q3 => (x_R_nextOrder q3.2).bind (fun q4 => l_G_helpless_23 n q4.2 (x1 &&& q3.1) q4.1 (x3 + 1)))))))
def x_G_helpless (I : Nat → Nat → Int32) : Option (Int32 × (Nat → Nat → Int32)) := (x_R_lineUpByNumber 4 5 6 7 I).bind (fun q1 => l_G_helpless_23 1000 q1.2 (f_M_presentBits 4 5 6 7 I) 1 0)
set_option maxRecDepth 100000 in
theorem lp_G_helpless_23 {X : Nat × (Nat → Int32)} (P : Nat → Nat → Option Nat) : ∀ (n : Nat) (I : Nat → Nat → Int32) (x1 : Int32) (x2 : Int32) (x3 : Int32) (r : Int32 × (Nat → Nat → Int32)), l_G_helpless_23 n I x1 x2 x3 = some r → Wp X 89 23 [some (.ref 0), some (.int x1), some (.int x2), some (.int x3)] [] (zH I P) (fun r2 h2 => r2 = some (.int r.1) ∧ h2 = zH r.2 P) := by
  intro n
  induction n with
  | zero => intro I x1 x2 x3 r hx; cases hx
  | succ n ih =>
    intro I x1 x2 x3 r hx
    rw [l_G_helpless_23] at hx
    refine wp_blk (pc' := 27) (L' := [some (.ref 0), some (.int x1), some (.int x2), some (.int x3)]) (st' := [.int 720, .int x3]) (h' := zH I P) 2 rfl ?_
    refine wp_ge (a := x3) (b := 720) (s1 := (82, [some (.ref 0), some (.int x1), some (.int x2), some (.int x3)], [], zH I P)) (s2 := (30, [some (.ref 0), some (.int x1), some (.int x2), some (.int x3)], [], zH I P)) rfl (fun c1 => ?_) (fun c1 => ?_)
    · rw [if_pos c1] at hx
      refine wp_blk (pc' := 83) (L' := [some (.ref 0), some (.int x1), some (.int x2), some (.int x3)]) (st' := [.int x1]) (h' := zH I P) 1 rfl ?_
      cases hx
      exact wp_end rfl rfl ⟨rfl, rfl⟩
    · rw [if_neg c1] at hx
      refine wp_blk (pc' := 31) (L' := [some (.ref 0), some (.int x1), some (.int x2), some (.int x3)]) (st' := [.int x2]) (h' := zH I P) 1 rfl ?_
      refine wp_eq (a := x2) (b := 0) (s1 := (82, [some (.ref 0), some (.int x1), some (.int x2), some (.int x3)], [], zH I P)) (s2 := (34, [some (.ref 0), some (.int x1), some (.int x2), some (.int x3)], [], zH I P)) rfl (fun c2 => ?_) (fun c2 => ?_)
      · rw [if_pos c2] at hx
        refine wp_blk (pc' := 83) (L' := [some (.ref 0), some (.int x1), some (.int x2), some (.int x3)]) (st' := [.int x1]) (h' := zH I P) 1 rfl ?_
        cases hx
        exact wp_end rfl rfl ⟨rfl, rfl⟩
      · rw [if_neg c2] at hx
        refine wp_blk (pc' := 35) (L' := [some (.ref 0), some (.int x1), some (.int x2), some (.int x3)]) (st' := [.int x1]) (h' := zH I P) 1 rfl ?_
        refine wp_eq (a := x1) (b := 0) (s1 := (82, [some (.ref 0), some (.int x1), some (.int x2), some (.int x3)], [], zH I P)) (s2 := (38, [some (.ref 0), some (.int x1), some (.int x2), some (.int x3)], [], zH I P)) rfl (fun c3 => ?_) (fun c3 => ?_)
        · rw [if_pos c3] at hx
          refine wp_blk (pc' := 83) (L' := [some (.ref 0), some (.int x1), some (.int x2), some (.int x3)]) (st' := [.int x1]) (h' := zH I P) 1 rfl ?_
          cases hx
          exact wp_end rfl rfl ⟨rfl, rfl⟩
        · rw [if_neg c3] at hx
          refine wp_blk (pc' := 50) (L' := [some (.ref 0), some (.int x1), some (.int x2), some (.int x3)]) (st' := [.ref 4, .ref 4, .ref 12]) (h' := zH I P) 6 rfl ?_
          refine wp_callf (d := 54) (as := [.ref 4]) (rest := [.ref 4, .ref 12]) (Ld := [some (.ref 4)]) (pc' := 53) (st' := [.int (f_M_stoneNow 4 5 6 7 I), .ref 4, .ref 12]) (r := some (.int (f_M_stoneNow 4 5 6 7 I))) (h1 := zH I P) rfl rfl rfl rfl rfl rfl rfl rfl rfl (sp_M_stoneNow_4 I P) ?_
          refine wp_blk (pc' := 54) (L' := [some (.ref 0), some (.int x1), some (.int x2), some (.int x3)]) (st' := [.int 0, .int (f_M_stoneNow 4 5 6 7 I), .ref 4, .ref 12]) (h' := zH I P) 1 rfl ?_
          obtain ⟨y1, hy1, hx⟩ := zbind hx
          refine wp_callf (d := 55) (as := [.ref 12, .ref 4, .int (f_M_stoneNow 4 5 6 7 I), .int 0]) (rest := []) (Ld := [some (.ref 12), some (.ref 4), some (.int (f_M_stoneNow 4 5 6 7 I)), some (.int 0), none, none, none]) (pc' := 57) (st' := [.int y1.1]) (r := some (.int y1.1)) (h1 := zH y1.2 P) rfl rfl rfl rfl rfl rfl rfl rfl rfl (xp_R_grind_4 _ _ _ _ _ hy1) ?_
          refine wp_blk (pc' := 63) (L' := [some (.ref 0), some (.int x1), some (.int x2), some (.int x3)]) (st' := [.ref 12, .int x1]) (h' := zH y1.2 P) 4 rfl ?_
          obtain ⟨y2, hy2, hx⟩ := zbind hx
          refine wp_callf (d := 91) (as := [.ref 12]) (rest := [.int x1]) (Ld := [some (.ref 12), none, none, none]) (pc' := 66) (st' := [.int y2.1, .int x1]) (r := some (.int y2.1)) (h1 := zH y2.2 P) rfl rfl rfl rfl rfl rfl rfl rfl rfl (xp_R_branBits _ _  _ hy2) ?_
          refine wp_blk (pc' := 72) (L' := [some (.ref 0), some (.int (x1 &&& y2.1)), some (.int x2), some (.int x3)]) (st' := [.ref 12]) (h' := zH y2.2 P) 4 rfl ?_
          obtain ⟨y3, hy3, hx⟩ := zbind hx
          refine wp_callf (d := 86) (as := [.ref 12]) (rest := []) (Ld := [some (.ref 12), none, none, none, none]) (pc' := 75) (st' := [.int y3.1]) (r := some (.int y3.1)) (h1 := zH y3.2 P) rfl rfl rfl rfl rfl rfl rfl rfl rfl (xp_R_nextOrder _ _  _ hy3) ?_
          refine wp_blk (pc' := 23) (L' := [some (.ref 0), some (.int (x1 &&& y2.1)), some (.int y3.1), some (.int (x3 + 1))]) (st' := []) (h' := zH y3.2 P) 3 rfl ?_
          exact ih _ _ _ _ _ hx
set_option maxRecDepth 100000 in
theorem xp_G_helpless {X : Nat × (Nat → Int32)} (I : Nat → Nat → Int32) (P : Nat → Nat → Option Nat) (r : Int32 × (Nat → Nat → Int32)) (hx : x_G_helpless I = some r) : Wf X 89 [some (.ref 0), none, none, none] (zH I P) (some (.int r.1)) (zH r.2 P) := by
  unfold Wf
  unfold x_G_helpless at hx
  refine wp_blk (pc' := 4) (L' := [some (.ref 0), none, none, none]) (st' := [.ref 4]) (h' := zH I P) 2 rfl ?_
  refine wp_callf (d := 90) (as := [.ref 4]) (rest := []) (Ld := [some (.ref 4)]) (pc' := 7) (st' := [.int (f_M_presentBits 4 5 6 7 I)]) (r := some (.int (f_M_presentBits 4 5 6 7 I))) (h1 := zH I P) rfl rfl rfl rfl rfl rfl rfl rfl rfl (sp_M_presentBits_4 I P) ?_
  refine wp_blk (pc' := 18) (L' := [some (.ref 0), some (.int (f_M_presentBits 4 5 6 7 I)), some (.int 1), none]) (st' := [.ref 4, .ref 12]) (h' := zH I P) 7 rfl ?_
  obtain ⟨y1, hy1, hx⟩ := zbind hx
  refine wp_callf (d := 84) (as := [.ref 12, .ref 4]) (rest := []) (Ld := [some (.ref 12), some (.ref 4), none]) (pc' := 21) (st' := []) (r := none) (h1 := zH y1.2 P) rfl rfl rfl rfl rfl rfl rfl rfl rfl (xp_R_lineUpByNumber_4 _ _  _ hy1) ?_
  refine wp_blk (pc' := 23) (L' := [some (.ref 0), some (.int (f_M_presentBits 4 5 6 7 I)), some (.int 1), some (.int 0)]) (st' := []) (h' := zH y1.2 P) 2 rfl ?_
  exact lp_G_helpless_23 P _ _ _ _ _ _ hx
