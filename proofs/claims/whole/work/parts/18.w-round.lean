/-! THE ROUND, the sightings (printed) -/
def x_R_empty (I : Nat → Nat → Int32) : Option (Int32 × (Nat → Nat → Int32)) := (x_A_fill6 14 (zui (zui I 12 2 0) 12 3 (-1)) (-4)).bind (fun q1 => some (0, q1.2))
set_option maxRecDepth 100000 in
theorem xp_R_empty {X : Nat × (Nat → Int32)} (I : Nat → Nat → Int32) (P : Nat → Nat → Option Nat) (r : Int32 × (Nat → Nat → Int32)) (hx : x_R_empty I = some r) : Wf X 52 [some (.ref 12)] (zH I P) (none) (zH r.2 P) := by
  unfold Wf
  unfold x_R_empty at hx
  refine wp_blk (pc' := 16) (L' := [some (.ref 12)]) (st' := [.int (-4), .ref 14]) (h' := zH (zui (zui I 12 2 0) 12 3 (-1)) P) 9 rfl ?_
  obtain ⟨y1, hy1, hx⟩ := zbind hx
  refine wp_callf (d := 16) (as := [.ref 14, .int (-4)]) (rest := []) (Ld := [some (.ref 14), some (.int (-4)), none, none]) (pc' := 19) (st' := []) (r := none) (h1 := zH y1.2 P) rfl rfl rfl rfl rfl rfl rfl rfl rfl (xp_A_fill6_14 _ _ _ _ hy1) ?_
  cases hx
  exact wp_end rfl rfl ⟨rfl, rfl⟩
def l_R_lineUp_6 (m mk ml mt : Nat) : Nat → (Nat → Nat → Int32) → Int32 → Option (Int32 × (Nat → Nat → Int32))
  | 0, _, _ => none
  | n + 1, I, x2 => if f_M_size m mk ml mt I ≤ x2 then (some (0, I)) else (l_R_lineUp_6 m mk ml mt n (g_R_join m mk ml mt I (f_M_whoAt m mk ml mt I x2)) (x2 + 1))
def x_R_lineUp (m mk ml mt : Nat) (I : Nat → Nat → Int32) : Option (Int32 × (Nat → Nat → Int32)) := (x_R_empty I).bind (fun q1 => l_R_lineUp_6 m mk ml mt 1000 q1.2 0)
set_option maxRecDepth 100000 in
theorem lp_R_lineUp_6_4 {X : Nat × (Nat → Int32)} (P : Nat → Nat → Option Nat) : ∀ (n : Nat) (I : Nat → Nat → Int32) (x2 : Int32) (r : Int32 × (Nat → Nat → Int32)), l_R_lineUp_6 4 5 6 7 n I x2 = some r → Wp X 51 6 [some (.ref 12), some (.ref 4), some (.int x2)] [] (zH I P) (fun r2 h2 => r2 = none ∧ h2 = zH r.2 P) := by
  intro n
  induction n with
  | zero => intro I x2 r hx; cases hx
  | succ n ih =>
    intro I x2 r hx
    rw [l_R_lineUp_6] at hx
    refine wp_blk (pc' := 8) (L' := [some (.ref 12), some (.ref 4), some (.int x2)]) (st' := [.ref 4, .int x2]) (h' := zH I P) 2 rfl ?_
    refine wp_callf (d := 36) (as := [.ref 4]) (rest := [.int x2]) (Ld := [some (.ref 4)]) (pc' := 11) (st' := [.int (f_M_size 4 5 6 7 I), .int x2]) (r := some (.int (f_M_size 4 5 6 7 I))) (h1 := zH I P) rfl rfl rfl rfl rfl rfl rfl rfl rfl (sp_M_size_4 I P) ?_
    refine wp_ge (a := x2) (b := f_M_size 4 5 6 7 I) (s1 := (30, [some (.ref 12), some (.ref 4), some (.int x2)], [], zH I P)) (s2 := (14, [some (.ref 12), some (.ref 4), some (.int x2)], [], zH I P)) rfl (fun c1 => ?_) (fun c1 => ?_)
    · rw [if_pos c1] at hx
      cases hx
      exact wp_end rfl rfl ⟨rfl, rfl⟩
    · rw [if_neg c1] at hx
      refine wp_blk (pc' := 18) (L' := [some (.ref 12), some (.ref 4), some (.int x2)]) (st' := [.int x2, .ref 4, .ref 4, .ref 12]) (h' := zH I P) 4 rfl ?_
      refine wp_callf (d := 43) (as := [.ref 4, .int x2]) (rest := [.ref 4, .ref 12]) (Ld := [some (.ref 4), some (.int x2)]) (pc' := 21) (st' := [.int (f_M_whoAt 4 5 6 7 I x2), .ref 4, .ref 12]) (r := some (.int (f_M_whoAt 4 5 6 7 I x2))) (h1 := zH I P) rfl rfl rfl rfl rfl rfl rfl rfl rfl (sp_M_whoAt_4 I P x2) ?_
      refine wp_callf (d := 53) (as := [.ref 12, .ref 4, .int (f_M_whoAt 4 5 6 7 I x2)]) (rest := []) (Ld := [some (.ref 12), some (.ref 4), some (.int (f_M_whoAt 4 5 6 7 I x2))]) (pc' := 24) (st' := []) (r := none) (h1 := zH (g_R_join 4 5 6 7 I (f_M_whoAt 4 5 6 7 I x2)) P) rfl rfl rfl rfl rfl rfl rfl rfl rfl (sp_R_join_4 I P (f_M_whoAt 4 5 6 7 I x2)) ?_
      refine wp_blk (pc' := 6) (L' := [some (.ref 12), some (.ref 4), some (.int (x2 + 1))]) (st' := []) (h' := zH (g_R_join 4 5 6 7 I (f_M_whoAt 4 5 6 7 I x2)) P) 2 rfl ?_
      exact ih _ _ _ hx
set_option maxRecDepth 100000 in
theorem xp_R_lineUp_4 {X : Nat × (Nat → Int32)} (I : Nat → Nat → Int32) (P : Nat → Nat → Option Nat) (r : Int32 × (Nat → Nat → Int32)) (hx : x_R_lineUp 4 5 6 7 I = some r) : Wf X 51 [some (.ref 12), some (.ref 4), none] (zH I P) (none) (zH r.2 P) := by
  unfold Wf
  unfold x_R_lineUp at hx
  refine wp_blk (pc' := 1) (L' := [some (.ref 12), some (.ref 4), none]) (st' := [.ref 12]) (h' := zH I P) 1 rfl ?_
  obtain ⟨y1, hy1, hx⟩ := zbind hx
  refine wp_callf (d := 52) (as := [.ref 12]) (rest := []) (Ld := [some (.ref 12)]) (pc' := 4) (st' := []) (r := none) (h1 := zH y1.2 P) rfl rfl rfl rfl rfl rfl rfl rfl rfl (xp_R_empty _ _  _ hy1) ?_
  refine wp_blk (pc' := 6) (L' := [some (.ref 12), some (.ref 4), some (.int 0)]) (st' := []) (h' := zH y1.2 P) 2 rfl ?_
  exact lp_R_lineUp_6_4 P _ _ _ _ hx
set_option maxRecDepth 100000 in
theorem lp_R_lineUp_6_8 {X : Nat × (Nat → Int32)} (P : Nat → Nat → Option Nat) : ∀ (n : Nat) (I : Nat → Nat → Int32) (x2 : Int32) (r : Int32 × (Nat → Nat → Int32)), l_R_lineUp_6 8 9 10 11 n I x2 = some r → Wp X 51 6 [some (.ref 12), some (.ref 8), some (.int x2)] [] (zH I P) (fun r2 h2 => r2 = none ∧ h2 = zH r.2 P) := by
  intro n
  induction n with
  | zero => intro I x2 r hx; cases hx
  | succ n ih =>
    intro I x2 r hx
    rw [l_R_lineUp_6] at hx
    refine wp_blk (pc' := 8) (L' := [some (.ref 12), some (.ref 8), some (.int x2)]) (st' := [.ref 8, .int x2]) (h' := zH I P) 2 rfl ?_
    refine wp_callf (d := 36) (as := [.ref 8]) (rest := [.int x2]) (Ld := [some (.ref 8)]) (pc' := 11) (st' := [.int (f_M_size 8 9 10 11 I), .int x2]) (r := some (.int (f_M_size 8 9 10 11 I))) (h1 := zH I P) rfl rfl rfl rfl rfl rfl rfl rfl rfl (sp_M_size_8 I P) ?_
    refine wp_ge (a := x2) (b := f_M_size 8 9 10 11 I) (s1 := (30, [some (.ref 12), some (.ref 8), some (.int x2)], [], zH I P)) (s2 := (14, [some (.ref 12), some (.ref 8), some (.int x2)], [], zH I P)) rfl (fun c1 => ?_) (fun c1 => ?_)
    · rw [if_pos c1] at hx
      cases hx
      exact wp_end rfl rfl ⟨rfl, rfl⟩
    · rw [if_neg c1] at hx
      refine wp_blk (pc' := 18) (L' := [some (.ref 12), some (.ref 8), some (.int x2)]) (st' := [.int x2, .ref 8, .ref 8, .ref 12]) (h' := zH I P) 4 rfl ?_
      refine wp_callf (d := 43) (as := [.ref 8, .int x2]) (rest := [.ref 8, .ref 12]) (Ld := [some (.ref 8), some (.int x2)]) (pc' := 21) (st' := [.int (f_M_whoAt 8 9 10 11 I x2), .ref 8, .ref 12]) (r := some (.int (f_M_whoAt 8 9 10 11 I x2))) (h1 := zH I P) rfl rfl rfl rfl rfl rfl rfl rfl rfl (sp_M_whoAt_8 I P x2) ?_
      refine wp_callf (d := 53) (as := [.ref 12, .ref 8, .int (f_M_whoAt 8 9 10 11 I x2)]) (rest := []) (Ld := [some (.ref 12), some (.ref 8), some (.int (f_M_whoAt 8 9 10 11 I x2))]) (pc' := 24) (st' := []) (r := none) (h1 := zH (g_R_join 8 9 10 11 I (f_M_whoAt 8 9 10 11 I x2)) P) rfl rfl rfl rfl rfl rfl rfl rfl rfl (sp_R_join_8 I P (f_M_whoAt 8 9 10 11 I x2)) ?_
      refine wp_blk (pc' := 6) (L' := [some (.ref 12), some (.ref 8), some (.int (x2 + 1))]) (st' := []) (h' := zH (g_R_join 8 9 10 11 I (f_M_whoAt 8 9 10 11 I x2)) P) 2 rfl ?_
      exact ih _ _ _ hx
set_option maxRecDepth 100000 in
theorem xp_R_lineUp_8 {X : Nat × (Nat → Int32)} (I : Nat → Nat → Int32) (P : Nat → Nat → Option Nat) (r : Int32 × (Nat → Nat → Int32)) (hx : x_R_lineUp 8 9 10 11 I = some r) : Wf X 51 [some (.ref 12), some (.ref 8), none] (zH I P) (none) (zH r.2 P) := by
  unfold Wf
  unfold x_R_lineUp at hx
  refine wp_blk (pc' := 1) (L' := [some (.ref 12), some (.ref 8), none]) (st' := [.ref 12]) (h' := zH I P) 1 rfl ?_
  obtain ⟨y1, hy1, hx⟩ := zbind hx
  refine wp_callf (d := 52) (as := [.ref 12]) (rest := []) (Ld := [some (.ref 12)]) (pc' := 4) (st' := []) (r := none) (h1 := zH y1.2 P) rfl rfl rfl rfl rfl rfl rfl rfl rfl (xp_R_empty _ _  _ hy1) ?_
  refine wp_blk (pc' := 6) (L' := [some (.ref 12), some (.ref 8), some (.int 0)]) (st' := []) (h' := zH y1.2 P) 2 rfl ?_
  exact lp_R_lineUp_6_8 P _ _ _ _ hx
def l_R_lineUpByNumber_6 (m mk ml mt : Nat) : Nat → (Nat → Nat → Int32) → Int32 → Option (Int32 × (Nat → Nat → Int32))
  | 0, _, _ => none
  | n + 1, I, x2 => if f_M_size m mk ml mt I ≤ x2 then (some (0, I)) else (l_R_lineUpByNumber_6 m mk ml mt n (g_R_join m mk ml mt I x2) (x2 + 1))
def x_R_lineUpByNumber (m mk ml mt : Nat) (I : Nat → Nat → Int32) : Option (Int32 × (Nat → Nat → Int32)) := (x_R_empty I).bind (fun q1 => l_R_lineUpByNumber_6 m mk ml mt 1000 q1.2 0)
set_option maxRecDepth 100000 in
theorem lp_R_lineUpByNumber_6_4 {X : Nat × (Nat → Int32)} (P : Nat → Nat → Option Nat) : ∀ (n : Nat) (I : Nat → Nat → Int32) (x2 : Int32) (r : Int32 × (Nat → Nat → Int32)), l_R_lineUpByNumber_6 4 5 6 7 n I x2 = some r → Wp X 84 6 [some (.ref 12), some (.ref 4), some (.int x2)] [] (zH I P) (fun r2 h2 => r2 = none ∧ h2 = zH r.2 P) := by
  intro n
  induction n with
  | zero => intro I x2 r hx; cases hx
  | succ n ih =>
    intro I x2 r hx
    rw [l_R_lineUpByNumber_6] at hx
    refine wp_blk (pc' := 8) (L' := [some (.ref 12), some (.ref 4), some (.int x2)]) (st' := [.ref 4, .int x2]) (h' := zH I P) 2 rfl ?_
    refine wp_callf (d := 36) (as := [.ref 4]) (rest := [.int x2]) (Ld := [some (.ref 4)]) (pc' := 11) (st' := [.int (f_M_size 4 5 6 7 I), .int x2]) (r := some (.int (f_M_size 4 5 6 7 I))) (h1 := zH I P) rfl rfl rfl rfl rfl rfl rfl rfl rfl (sp_M_size_4 I P) ?_
    refine wp_ge (a := x2) (b := f_M_size 4 5 6 7 I) (s1 := (26, [some (.ref 12), some (.ref 4), some (.int x2)], [], zH I P)) (s2 := (14, [some (.ref 12), some (.ref 4), some (.int x2)], [], zH I P)) rfl (fun c1 => ?_) (fun c1 => ?_)
    · rw [if_pos c1] at hx
      cases hx
      exact wp_end rfl rfl ⟨rfl, rfl⟩
    · rw [if_neg c1] at hx
      refine wp_blk (pc' := 17) (L' := [some (.ref 12), some (.ref 4), some (.int x2)]) (st' := [.int x2, .ref 4, .ref 12]) (h' := zH I P) 3 rfl ?_
      refine wp_callf (d := 53) (as := [.ref 12, .ref 4, .int x2]) (rest := []) (Ld := [some (.ref 12), some (.ref 4), some (.int x2)]) (pc' := 20) (st' := []) (r := none) (h1 := zH (g_R_join 4 5 6 7 I x2) P) rfl rfl rfl rfl rfl rfl rfl rfl rfl (sp_R_join_4 I P x2) ?_
      refine wp_blk (pc' := 6) (L' := [some (.ref 12), some (.ref 4), some (.int (x2 + 1))]) (st' := []) (h' := zH (g_R_join 4 5 6 7 I x2) P) 2 rfl ?_
      exact ih _ _ _ hx
set_option maxRecDepth 100000 in
theorem xp_R_lineUpByNumber_4 {X : Nat × (Nat → Int32)} (I : Nat → Nat → Int32) (P : Nat → Nat → Option Nat) (r : Int32 × (Nat → Nat → Int32)) (hx : x_R_lineUpByNumber 4 5 6 7 I = some r) : Wf X 84 [some (.ref 12), some (.ref 4), none] (zH I P) (none) (zH r.2 P) := by
  unfold Wf
  unfold x_R_lineUpByNumber at hx
  refine wp_blk (pc' := 1) (L' := [some (.ref 12), some (.ref 4), none]) (st' := [.ref 12]) (h' := zH I P) 1 rfl ?_
  obtain ⟨y1, hy1, hx⟩ := zbind hx
  refine wp_callf (d := 52) (as := [.ref 12]) (rest := []) (Ld := [some (.ref 12)]) (pc' := 4) (st' := []) (r := none) (h1 := zH y1.2 P) rfl rfl rfl rfl rfl rfl rfl rfl rfl (xp_R_empty _ _  _ hy1) ?_
  refine wp_blk (pc' := 6) (L' := [some (.ref 12), some (.ref 4), some (.int 0)]) (st' := []) (h' := zH y1.2 P) 2 rfl ?_
  exact lp_R_lineUpByNumber_6_4 P _ _ _ _ hx
def x_R_pass (m mk ml mt : Nat) (I : Nat → Nat → Int32) : Option (Int32 × (Nat → Nat → Int32)) := (x_R_lineUp m mk ml mt I).bind (fun q1 => (x_R_grind m mk ml mt q1.2 (f_M_stoneNow m mk ml mt q1.2) 0).bind (fun q2 => some (0, q2.2)))
set_option maxRecDepth 100000 in
theorem xp_R_pass_4 {X : Nat × (Nat → Int32)} (I : Nat → Nat → Int32) (P : Nat → Nat → Option Nat) (r : Int32 × (Nat → Nat → Int32)) (hx : x_R_pass 4 5 6 7 I = some r) : Wf X 50 [some (.ref 12), some (.ref 4)] (zH I P) (none) (zH r.2 P) := by
  unfold Wf
  unfold x_R_pass at hx
  refine wp_blk (pc' := 2) (L' := [some (.ref 12), some (.ref 4)]) (st' := [.ref 4, .ref 12]) (h' := zH I P) 2 rfl ?_
  obtain ⟨y1, hy1, hx⟩ := zbind hx
  refine wp_callf (d := 51) (as := [.ref 12, .ref 4]) (rest := []) (Ld := [some (.ref 12), some (.ref 4), none]) (pc' := 5) (st' := []) (r := none) (h1 := zH y1.2 P) rfl rfl rfl rfl rfl rfl rfl rfl rfl (xp_R_lineUp_4 _ _  _ hy1) ?_
  refine wp_blk (pc' := 8) (L' := [some (.ref 12), some (.ref 4)]) (st' := [.ref 4, .ref 4, .ref 12]) (h' := zH y1.2 P) 3 rfl ?_
  refine wp_callf (d := 54) (as := [.ref 4]) (rest := [.ref 4, .ref 12]) (Ld := [some (.ref 4)]) (pc' := 11) (st' := [.int (f_M_stoneNow 4 5 6 7 y1.2), .ref 4, .ref 12]) (r := some (.int (f_M_stoneNow 4 5 6 7 y1.2))) (h1 := zH y1.2 P) rfl rfl rfl rfl rfl rfl rfl rfl rfl (sp_M_stoneNow_4 y1.2 P) ?_
  refine wp_blk (pc' := 12) (L' := [some (.ref 12), some (.ref 4)]) (st' := [.int 0, .int (f_M_stoneNow 4 5 6 7 y1.2), .ref 4, .ref 12]) (h' := zH y1.2 P) 1 rfl ?_
  obtain ⟨y2, hy2, hx⟩ := zbind hx
  refine wp_callf (d := 55) (as := [.ref 12, .ref 4, .int (f_M_stoneNow 4 5 6 7 y1.2), .int 0]) (rest := []) (Ld := [some (.ref 12), some (.ref 4), some (.int (f_M_stoneNow 4 5 6 7 y1.2)), some (.int 0), none, none, none]) (pc' := 15) (st' := [.int y2.1]) (r := some (.int y2.1)) (h1 := zH y2.2 P) rfl rfl rfl rfl rfl rfl rfl rfl rfl (xp_R_grind_4 _ _ _ _ _ hy2) ?_
  refine wp_blk (pc' := 16) (L' := [some (.ref 12), some (.ref 4)]) (st' := []) (h' := zH y2.2 P) 1 rfl ?_
  cases hx
  exact wp_end rfl rfl ⟨rfl, rfl⟩
set_option maxRecDepth 100000 in
theorem xp_R_pass_8 {X : Nat × (Nat → Int32)} (I : Nat → Nat → Int32) (P : Nat → Nat → Option Nat) (r : Int32 × (Nat → Nat → Int32)) (hx : x_R_pass 8 9 10 11 I = some r) : Wf X 50 [some (.ref 12), some (.ref 8)] (zH I P) (none) (zH r.2 P) := by
  unfold Wf
  unfold x_R_pass at hx
  refine wp_blk (pc' := 2) (L' := [some (.ref 12), some (.ref 8)]) (st' := [.ref 8, .ref 12]) (h' := zH I P) 2 rfl ?_
  obtain ⟨y1, hy1, hx⟩ := zbind hx
  refine wp_callf (d := 51) (as := [.ref 12, .ref 8]) (rest := []) (Ld := [some (.ref 12), some (.ref 8), none]) (pc' := 5) (st' := []) (r := none) (h1 := zH y1.2 P) rfl rfl rfl rfl rfl rfl rfl rfl rfl (xp_R_lineUp_8 _ _  _ hy1) ?_
  refine wp_blk (pc' := 8) (L' := [some (.ref 12), some (.ref 8)]) (st' := [.ref 8, .ref 8, .ref 12]) (h' := zH y1.2 P) 3 rfl ?_
  refine wp_callf (d := 54) (as := [.ref 8]) (rest := [.ref 8, .ref 12]) (Ld := [some (.ref 8)]) (pc' := 11) (st' := [.int (f_M_stoneNow 8 9 10 11 y1.2), .ref 8, .ref 12]) (r := some (.int (f_M_stoneNow 8 9 10 11 y1.2))) (h1 := zH y1.2 P) rfl rfl rfl rfl rfl rfl rfl rfl rfl (sp_M_stoneNow_8 y1.2 P) ?_
  refine wp_blk (pc' := 12) (L' := [some (.ref 12), some (.ref 8)]) (st' := [.int 0, .int (f_M_stoneNow 8 9 10 11 y1.2), .ref 8, .ref 12]) (h' := zH y1.2 P) 1 rfl ?_
  obtain ⟨y2, hy2, hx⟩ := zbind hx
  refine wp_callf (d := 55) (as := [.ref 12, .ref 8, .int (f_M_stoneNow 8 9 10 11 y1.2), .int 0]) (rest := []) (Ld := [some (.ref 12), some (.ref 8), some (.int (f_M_stoneNow 8 9 10 11 y1.2)), some (.int 0), none, none, none]) (pc' := 15) (st' := [.int y2.1]) (r := some (.int y2.1)) (h1 := zH y2.2 P) rfl rfl rfl rfl rfl rfl rfl rfl rfl (xp_R_grind_8 _ _ _ _ _ hy2) ?_
  refine wp_blk (pc' := 16) (L' := [some (.ref 12), some (.ref 8)]) (st' := []) (h' := zH y2.2 P) 1 rfl ?_
  cases hx
  exact wp_end rfl rfl ⟨rfl, rfl⟩
def l_R_squeezeIn_30 : Nat → (Nat → Nat → Int32) → Int32 → Int32 → Int32 → Option (Int32 × (Nat → Nat → Int32))
  | 0, _, _, _, _ => none
  | n + 1, I, x1, x2, x3 => if x3 ≤ x2 then (if zinb x2 6 = true then (some (0, (zui (zui (zui I 13 x2.toNatClampNeg x1) 12 2 ((I 12 2) + 1)) 12 3 x1))) else none) else (if zinb (x3 - 1) 6 = true then (if zinb x3 6 = true then (l_R_squeezeIn_30 n (zui I 13 x3.toNatClampNeg (I 13 ((x3 - 1).toNatClampNeg))) x1 x2 (x3 + (-1))) else none) else none)
def x_R_squeezeIn (I : Nat → Nat → Int32) (c a : Int32) : Option (Int32 × (Nat → Nat → Int32)) := if a < 0 then (some (0, I)) else (if I 12 2 < a then (some (0, I)) else (if I 12 2 < Int32.ofNat 6 then (l_R_squeezeIn_30 1000 I c a (I 12 2)) else (some (0, I))))
set_option maxRecDepth 100000 in
theorem lp_R_squeezeIn_30 {X : Nat × (Nat → Int32)} (P : Nat → Nat → Option Nat) : ∀ (n : Nat) (I : Nat → Nat → Int32) (x1 : Int32) (x2 : Int32) (x3 : Int32) (r : Int32 × (Nat → Nat → Int32)), l_R_squeezeIn_30 n I x1 x2 x3 = some r → Wp X 102 30 [some (.ref 12), some (.int x1), some (.int x2), some (.int x3)] [] (zH I P) (fun r2 h2 => r2 = none ∧ h2 = zH r.2 P) := by
  intro n
  induction n with
  | zero => intro I x1 x2 x3 r hx; cases hx
  | succ n ih =>
    intro I x1 x2 x3 r hx
    rw [l_R_squeezeIn_30] at hx
    refine wp_blk (pc' := 32) (L' := [some (.ref 12), some (.int x1), some (.int x2), some (.int x3)]) (st' := [.int x2, .int x3]) (h' := zH I P) 2 rfl ?_
    refine wp_le (a := x3) (b := x2) (s1 := (55, [some (.ref 12), some (.int x1), some (.int x2), some (.int x3)], [], zH I P)) (s2 := (35, [some (.ref 12), some (.int x1), some (.int x2), some (.int x3)], [], zH I P)) rfl (fun c1 => ?_) (fun c1 => ?_)
    · rw [if_pos c1] at hx
      refine wp_blk (pc' := 61) (L' := [some (.ref 12), some (.int x1), some (.int x2), some (.int x3)]) (st' := [.int x1, .int x2, .ref 13]) (h' := zH I P) 4 rfl ?_
      obtain ⟨c2, hx⟩ := zite hx
      refine wp_chk (P := zinb x2 6 = true) (pc' := 62) (L' := [some (.ref 12), some (.int x1), some (.int x2), some (.int x3)]) (st' := []) (h' := zH (zui I 13 x2.toNatClampNeg x1) P) rfl c2 ?_
      refine wp_blk (pc' := 77) (L' := [some (.ref 12), some (.int x1), some (.int x2), some (.int x3)]) (st' := []) (h' := zH (zui (zui (zui I 13 x2.toNatClampNeg x1) 12 2 ((I 12 2) + 1)) 12 3 x1) P) 9 rfl ?_
      cases hx
      exact wp_end rfl rfl ⟨rfl, rfl⟩
    · rw [if_neg c1] at hx
      refine wp_blk (pc' := 47) (L' := [some (.ref 12), some (.int x1), some (.int x2), some (.int x3)]) (st' := [.int (x3 - 1), .ref 13, .int x3, .ref 13]) (h' := zH I P) 8 rfl ?_
      obtain ⟨c3, hx⟩ := zite hx
      refine wp_chk (P := zinb (x3 - 1) 6 = true) (pc' := 48) (L' := [some (.ref 12), some (.int x1), some (.int x2), some (.int x3)]) (st' := [.int (I 13 ((x3 - 1).toNatClampNeg)), .int x3, .ref 13]) (h' := zH I P) rfl c3 ?_
      obtain ⟨c4, hx⟩ := zite hx
      refine wp_chk (P := zinb x3 6 = true) (pc' := 49) (L' := [some (.ref 12), some (.int x1), some (.int x2), some (.int x3)]) (st' := []) (h' := zH (zui I 13 x3.toNatClampNeg (I 13 ((x3 - 1).toNatClampNeg))) P) rfl c4 ?_
      refine wp_blk (pc' := 30) (L' := [some (.ref 12), some (.int x1), some (.int x2), some (.int (x3 + (-1)))]) (st' := []) (h' := zH (zui I 13 x3.toNatClampNeg (I 13 ((x3 - 1).toNatClampNeg))) P) 2 rfl ?_
      exact ih _ _ _ _ _ hx
set_option maxRecDepth 100000 in
theorem xp_R_squeezeIn {X : Nat × (Nat → Int32)} (I : Nat → Nat → Int32) (P : Nat → Nat → Option Nat) (c a : Int32) (r : Int32 × (Nat → Nat → Int32)) (hx : x_R_squeezeIn I c a = some r) : Wf X 102 [some (.ref 12), some (.int c), some (.int a), none] (zH I P) (none) (zH r.2 P) := by
  unfold Wf
  unfold x_R_squeezeIn at hx
  refine wp_blk (pc' := 1) (L' := [some (.ref 12), some (.int c), some (.int a), none]) (st' := [.int a]) (h' := zH I P) 1 rfl ?_
  refine wp_lt (a := a) (b := 0) (s1 := (24, [some (.ref 12), some (.int c), some (.int a), none], [], zH I P)) (s2 := (4, [some (.ref 12), some (.int c), some (.int a), none], [], zH I P)) rfl (fun c1 => ?_) (fun c1 => ?_)
  · rw [if_pos c1] at hx
    cases hx
    exact wp_end rfl rfl ⟨rfl, rfl⟩
  · rw [if_neg c1] at hx
    refine wp_blk (pc' := 9) (L' := [some (.ref 12), some (.int c), some (.int a), none]) (st' := [.int (I 12 2), .int a]) (h' := zH I P) 3 rfl ?_
    refine wp_gt (a := a) (b := I 12 2) (s1 := (24, [some (.ref 12), some (.int c), some (.int a), none], [], zH I P)) (s2 := (12, [some (.ref 12), some (.int c), some (.int a), none], [], zH I P)) rfl (fun c2 => ?_) (fun c2 => ?_)
    · rw [if_pos c2] at hx
      cases hx
      exact wp_end rfl rfl ⟨rfl, rfl⟩
    · rw [if_neg c2] at hx
      refine wp_blk (pc' := 21) (L' := [some (.ref 12), some (.int c), some (.int a), none]) (st' := [.int (Int32.ofNat 6), .int (I 12 2)]) (h' := zH I P) 5 rfl ?_
      refine wp_lt (a := I 12 2) (b := Int32.ofNat 6) (s1 := (25, [some (.ref 12), some (.int c), some (.int a), none], [], zH I P)) (s2 := (24, [some (.ref 12), some (.int c), some (.int a), none], [], zH I P)) rfl (fun c3 => ?_) (fun c3 => ?_)
      · rw [if_pos c3] at hx
        refine wp_blk (pc' := 30) (L' := [some (.ref 12), some (.int c), some (.int a), some (.int (I 12 2))]) (st' := []) (h' := zH I P) 3 rfl ?_
        exact lp_R_squeezeIn_30 P _ _ _ _ _ _ hx
      · rw [if_neg c3] at hx
        cases hx
        exact wp_end rfl rfl ⟨rfl, rfl⟩
def l_R_branBits_4 : Nat → (Nat → Nat → Int32) → Int32 → Int32 → Option (Int32 × (Nat → Nat → Int32))
  | 0, _, _, _ => none
  | n + 1, I, x1, x2 => if I 12 2 ≤ x2 then (some (x1, I)) else (if f_R_whoIn I x2 = I 12 3 then (l_R_branBits_4 n I x1 (x2 + 1)) else (if f_G_breadOf I (f_R_fineOf I (f_R_whoIn I x2)) = 0 then (l_R_branBits_4 n I (x1 ||| (1 <<< ((f_R_whoIn I x2) &&& 31))) (x2 + 1)) else (l_R_branBits_4 n I x1 (x2 + 1))))
def x_R_branBits (I : Nat → Nat → Int32) : Option (Int32 × (Nat → Nat → Int32)) := l_R_branBits_4 1000 I 0 0
set_option maxRecDepth 100000 in
theorem lp_R_branBits_4 {X : Nat × (Nat → Int32)} (P : Nat → Nat → Option Nat) : ∀ (n : Nat) (I : Nat → Nat → Int32) (x1 : Int32) (x2 : Int32) (r : Int32 × (Nat → Nat → Int32)), l_R_branBits_4 n I x1 x2 = some r → Wp X 91 4 [some (.ref 12), some (.int x1), some (.int x2), none] [] (zH I P) (fun r2 h2 => r2 = some (.int r.1) ∧ h2 = zH r.2 P) := by
  intro n
  induction n with
  | zero => intro I x1 x2 r hx; cases hx
  | succ n ih =>
    intro I x1 x2 r hx
    rw [l_R_branBits_4] at hx
    refine wp_blk (pc' := 9) (L' := [some (.ref 12), some (.int x1), some (.int x2), none]) (st' := [.int (I 12 2), .int x2]) (h' := zH I P) 3 rfl ?_
    refine wp_ge (a := x2) (b := I 12 2) (s1 := (49, [some (.ref 12), some (.int x1), some (.int x2), none], [], zH I P)) (s2 := (12, [some (.ref 12), some (.int x1), some (.int x2), none], [], zH I P)) rfl (fun c1 => ?_) (fun c1 => ?_)
    · rw [if_pos c1] at hx
      refine wp_blk (pc' := 50) (L' := [some (.ref 12), some (.int x1), some (.int x2), none]) (st' := [.int x1]) (h' := zH I P) 1 rfl ?_
      cases hx
      exact wp_end rfl rfl ⟨rfl, rfl⟩
    · rw [if_neg c1] at hx
      refine wp_blk (pc' := 14) (L' := [some (.ref 12), some (.int x1), some (.int x2), none]) (st' := [.int x2, .ref 12]) (h' := zH I P) 2 rfl ?_
      refine wp_callf (d := 56) (as := [.ref 12, .int x2]) (rest := []) (Ld := [some (.ref 12), some (.int x2)]) (pc' := 17) (st' := [.int (f_R_whoIn I x2)]) (r := some (.int (f_R_whoIn I x2))) (h1 := zH I P) rfl rfl rfl rfl rfl rfl rfl rfl rfl (sp_R_whoIn I P x2) ?_
      refine wp_blk (pc' := 23) (L' := [some (.ref 12), some (.int x1), some (.int x2), some (.int (f_R_whoIn I x2))]) (st' := [.int (I 12 3), .int (f_R_whoIn I x2)]) (h' := zH I P) 4 rfl ?_
      refine wp_eq (a := f_R_whoIn I x2) (b := I 12 3) (s1 := (43, [some (.ref 12), some (.int x1), some (.int x2), some (.int (f_R_whoIn I x2))], [], zH I P)) (s2 := (26, [some (.ref 12), some (.int x1), some (.int x2), some (.int (f_R_whoIn I x2))], [], zH I P)) rfl (fun c2 => ?_) (fun c2 => ?_)
      · rw [if_pos c2] at hx
        refine wp_blk (pc' := 4) (L' := [some (.ref 12), some (.int x1), some (.int (x2 + 1)), some (.int (f_R_whoIn I x2))]) (st' := []) (h' := zH I P) 2 rfl ?_
        exact wp_forget (ih _ _ _ _ hx) (zle_c (zle_c (zle_c (zle_n zle_nil))))
      · rw [if_neg c2] at hx
        refine wp_blk (pc' := 28) (L' := [some (.ref 12), some (.int x1), some (.int x2), some (.int (f_R_whoIn I x2))]) (st' := [.int (f_R_whoIn I x2), .ref 12]) (h' := zH I P) 2 rfl ?_
        refine wp_callf (d := 63) (as := [.ref 12, .int (f_R_whoIn I x2)]) (rest := []) (Ld := [some (.ref 12), some (.int (f_R_whoIn I x2))]) (pc' := 31) (st' := [.int (f_R_fineOf I (f_R_whoIn I x2))]) (r := some (.int (f_R_fineOf I (f_R_whoIn I x2)))) (h1 := zH I P) rfl rfl rfl rfl rfl rfl rfl rfl rfl (sp_R_fineOf I P (f_R_whoIn I x2)) ?_
        refine wp_callf (d := 62) (as := [.int (f_R_fineOf I (f_R_whoIn I x2))]) (rest := []) (Ld := [some (.int (f_R_fineOf I (f_R_whoIn I x2)))]) (pc' := 34) (st' := [.int (f_G_breadOf I (f_R_fineOf I (f_R_whoIn I x2)))]) (r := some (.int (f_G_breadOf I (f_R_fineOf I (f_R_whoIn I x2))))) (h1 := zH I P) rfl rfl rfl rfl rfl rfl rfl rfl rfl (sp_G_breadOf I P (f_R_fineOf I (f_R_whoIn I x2))) ?_
        refine wp_ne (a := f_G_breadOf I (f_R_fineOf I (f_R_whoIn I x2))) (b := 0) (s1 := (43, [some (.ref 12), some (.int x1), some (.int x2), some (.int (f_R_whoIn I x2))], [], zH I P)) (s2 := (37, [some (.ref 12), some (.int x1), some (.int x2), some (.int (f_R_whoIn I x2))], [], zH I P)) rfl (fun c3 => ?_) (fun c3 => ?_)
        · rw [if_neg c3] at hx
          refine wp_blk (pc' := 4) (L' := [some (.ref 12), some (.int x1), some (.int (x2 + 1)), some (.int (f_R_whoIn I x2))]) (st' := []) (h' := zH I P) 2 rfl ?_
          exact wp_forget (ih _ _ _ _ hx) (zle_c (zle_c (zle_c (zle_n zle_nil))))
        · rw [if_pos c3] at hx
          refine wp_blk (pc' := 4) (L' := [some (.ref 12), some (.int (x1 ||| (1 <<< ((f_R_whoIn I x2) &&& 31)))), some (.int (x2 + 1)), some (.int (f_R_whoIn I x2))]) (st' := []) (h' := zH I P) 8 rfl ?_
          exact wp_forget (ih _ _ _ _ hx) (zle_c (zle_c (zle_c (zle_n zle_nil))))
set_option maxRecDepth 100000 in
theorem xp_R_branBits {X : Nat × (Nat → Int32)} (I : Nat → Nat → Int32) (P : Nat → Nat → Option Nat) (r : Int32 × (Nat → Nat → Int32)) (hx : x_R_branBits I = some r) : Wf X 91 [some (.ref 12), none, none, none] (zH I P) (some (.int r.1)) (zH r.2 P) := by
  unfold Wf
  unfold x_R_branBits at hx
  refine wp_blk (pc' := 4) (L' := [some (.ref 12), some (.int 0), some (.int 0), none]) (st' := []) (h' := zH I P) 4 rfl ?_
  exact lp_R_branBits_4 P _ _ _ _ _ hx
def l_R_placeIn_2 : Nat → (Nat → Nat → Int32) → Int32 → Int32 → Option (Int32 × (Nat → Nat → Int32))
  | 0, _, _, _ => none
  | n + 1, I, x1, x2 => if I 12 2 ≤ x2 then (some (-1, I)) else (if f_R_whoIn I x2 = x1 then (some (x2, I)) else (l_R_placeIn_2 n I x1 (x2 + 1)))
def x_R_placeIn (I : Nat → Nat → Int32) (c : Int32) : Option (Int32 × (Nat → Nat → Int32)) := l_R_placeIn_2 1000 I c 0
set_option maxRecDepth 100000 in
theorem lp_R_placeIn_2 {X : Nat × (Nat → Int32)} (P : Nat → Nat → Option Nat) : ∀ (n : Nat) (I : Nat → Nat → Int32) (x1 : Int32) (x2 : Int32) (r : Int32 × (Nat → Nat → Int32)), l_R_placeIn_2 n I x1 x2 = some r → Wp X 106 2 [some (.ref 12), some (.int x1), some (.int x2)] [] (zH I P) (fun r2 h2 => r2 = some (.int r.1) ∧ h2 = zH r.2 P) := by
  intro n
  induction n with
  | zero => intro I x1 x2 r hx; cases hx
  | succ n ih =>
    intro I x1 x2 r hx
    rw [l_R_placeIn_2] at hx
    refine wp_blk (pc' := 7) (L' := [some (.ref 12), some (.int x1), some (.int x2)]) (st' := [.int (I 12 2), .int x2]) (h' := zH I P) 3 rfl ?_
    refine wp_ge (a := x2) (b := I 12 2) (s1 := (27, [some (.ref 12), some (.int x1), some (.int x2)], [], zH I P)) (s2 := (10, [some (.ref 12), some (.int x1), some (.int x2)], [], zH I P)) rfl (fun c1 => ?_) (fun c1 => ?_)
    · rw [if_pos c1] at hx
      refine wp_blk (pc' := 28) (L' := [some (.ref 12), some (.int x1), some (.int x2)]) (st' := [.int (-1)]) (h' := zH I P) 1 rfl ?_
      cases hx
      exact wp_end rfl rfl ⟨rfl, rfl⟩
    · rw [if_neg c1] at hx
      refine wp_blk (pc' := 12) (L' := [some (.ref 12), some (.int x1), some (.int x2)]) (st' := [.int x2, .ref 12]) (h' := zH I P) 2 rfl ?_
      refine wp_callf (d := 56) (as := [.ref 12, .int x2]) (rest := []) (Ld := [some (.ref 12), some (.int x2)]) (pc' := 15) (st' := [.int (f_R_whoIn I x2)]) (r := some (.int (f_R_whoIn I x2))) (h1 := zH I P) rfl rfl rfl rfl rfl rfl rfl rfl rfl (sp_R_whoIn I P x2) ?_
      refine wp_blk (pc' := 16) (L' := [some (.ref 12), some (.int x1), some (.int x2)]) (st' := [.int x1, .int (f_R_whoIn I x2)]) (h' := zH I P) 1 rfl ?_
      refine wp_ne (a := f_R_whoIn I x2) (b := x1) (s1 := (21, [some (.ref 12), some (.int x1), some (.int x2)], [], zH I P)) (s2 := (19, [some (.ref 12), some (.int x1), some (.int x2)], [], zH I P)) rfl (fun c2 => ?_) (fun c2 => ?_)
      · rw [if_neg c2] at hx
        refine wp_blk (pc' := 2) (L' := [some (.ref 12), some (.int x1), some (.int (x2 + 1))]) (st' := []) (h' := zH I P) 2 rfl ?_
        exact ih _ _ _ _ hx
      · rw [if_pos c2] at hx
        refine wp_blk (pc' := 20) (L' := [some (.ref 12), some (.int x1), some (.int x2)]) (st' := [.int x2]) (h' := zH I P) 1 rfl ?_
        cases hx
        exact wp_end rfl rfl ⟨rfl, rfl⟩
set_option maxRecDepth 100000 in
theorem xp_R_placeIn {X : Nat × (Nat → Int32)} (I : Nat → Nat → Int32) (P : Nat → Nat → Option Nat) (c : Int32) (r : Int32 × (Nat → Nat → Int32)) (hx : x_R_placeIn I c = some r) : Wf X 106 [some (.ref 12), some (.int c), none] (zH I P) (some (.int r.1)) (zH r.2 P) := by
  unfold Wf
  unfold x_R_placeIn at hx
  refine wp_blk (pc' := 2) (L' := [some (.ref 12), some (.int c), some (.int 0)]) (st' := []) (h' := zH I P) 2 rfl ?_
  exact lp_R_placeIn_2 P _ _ _ _ _ hx
def l_R_copyRow_2 : Nat → (Nat → Nat → Int32) → Int32 → Option (Int32 × (Nat → Nat → Int32))
  | 0, _, _ => none
  | n + 1, I, x2 => if I 12 2 ≤ x2 then (some (0, I)) else (if Int32.ofNat 6 ≤ x2 then (some (0, I)) else (if zinb x2 6 = true then (l_R_copyRow_2 n (zui I 15 x2.toNatClampNeg (f_R_whoIn I x2)) (x2 + 1)) else none))
def x_R_copyRow (I : Nat → Nat → Int32) : Option (Int32 × (Nat → Nat → Int32)) := l_R_copyRow_2 1000 I 0
set_option maxRecDepth 100000 in
theorem lp_R_copyRow_2 {X : Nat × (Nat → Int32)} (P : Nat → Nat → Option Nat) : ∀ (n : Nat) (I : Nat → Nat → Int32) (x2 : Int32) (r : Int32 × (Nat → Nat → Int32)), l_R_copyRow_2 n I x2 = some r → Wp X 85 2 [some (.ref 12), some (.ref 15), some (.int x2)] [] (zH I P) (fun r2 h2 => r2 = none ∧ h2 = zH r.2 P) := by
  intro n
  induction n with
  | zero => intro I x2 r hx; cases hx
  | succ n ih =>
    intro I x2 r hx
    rw [l_R_copyRow_2] at hx
    refine wp_blk (pc' := 7) (L' := [some (.ref 12), some (.ref 15), some (.int x2)]) (st' := [.int (I 12 2), .int x2]) (h' := zH I P) 3 rfl ?_
    refine wp_ge (a := x2) (b := I 12 2) (s1 := (30, [some (.ref 12), some (.ref 15), some (.int x2)], [], zH I P)) (s2 := (10, [some (.ref 12), some (.ref 15), some (.int x2)], [], zH I P)) rfl (fun c1 => ?_) (fun c1 => ?_)
    · rw [if_pos c1] at hx
      cases hx
      exact wp_end rfl rfl ⟨rfl, rfl⟩
    · rw [if_neg c1] at hx
      refine wp_blk (pc' := 13) (L' := [some (.ref 12), some (.ref 15), some (.int x2)]) (st' := [.int (Int32.ofNat 6), .int x2]) (h' := zH I P) 3 rfl ?_
      refine wp_ge (a := x2) (b := Int32.ofNat 6) (s1 := (30, [some (.ref 12), some (.ref 15), some (.int x2)], [], zH I P)) (s2 := (16, [some (.ref 12), some (.ref 15), some (.int x2)], [], zH I P)) rfl (fun c2 => ?_) (fun c2 => ?_)
      · rw [if_pos c2] at hx
        cases hx
        exact wp_end rfl rfl ⟨rfl, rfl⟩
      · rw [if_neg c2] at hx
        refine wp_blk (pc' := 20) (L' := [some (.ref 12), some (.ref 15), some (.int x2)]) (st' := [.int x2, .ref 12, .int x2, .ref 15]) (h' := zH I P) 4 rfl ?_
        refine wp_callf (d := 56) (as := [.ref 12, .int x2]) (rest := [.int x2, .ref 15]) (Ld := [some (.ref 12), some (.int x2)]) (pc' := 23) (st' := [.int (f_R_whoIn I x2), .int x2, .ref 15]) (r := some (.int (f_R_whoIn I x2))) (h1 := zH I P) rfl rfl rfl rfl rfl rfl rfl rfl rfl (sp_R_whoIn I P x2) ?_
        obtain ⟨c3, hx⟩ := zite hx
        refine wp_chk (P := zinb x2 6 = true) (pc' := 24) (L' := [some (.ref 12), some (.ref 15), some (.int x2)]) (st' := []) (h' := zH (zui I 15 x2.toNatClampNeg (f_R_whoIn I x2)) P) rfl c3 ?_
        refine wp_blk (pc' := 2) (L' := [some (.ref 12), some (.ref 15), some (.int (x2 + 1))]) (st' := []) (h' := zH (zui I 15 x2.toNatClampNeg (f_R_whoIn I x2)) P) 2 rfl ?_
        exact ih _ _ _ hx
set_option maxRecDepth 100000 in
theorem xp_R_copyRow {X : Nat × (Nat → Int32)} (I : Nat → Nat → Int32) (P : Nat → Nat → Option Nat) (r : Int32 × (Nat → Nat → Int32)) (hx : x_R_copyRow I = some r) : Wf X 85 [some (.ref 12), some (.ref 15), none] (zH I P) (none) (zH r.2 P) := by
  unfold Wf
  unfold x_R_copyRow at hx
  refine wp_blk (pc' := 2) (L' := [some (.ref 12), some (.ref 15), some (.int 0)]) (st' := []) (h' := zH I P) 2 rfl ?_
  exact lp_R_copyRow_2 P _ _ _ _ hx
def l_R_nextOrder_87 : Nat → (Nat → Nat → Int32) → Int32 → Int32 → Int32 → Int32 → Option (Int32 × (Nat → Nat → Int32))
  | 0, _, _, _, _, _ => none
  | n + 1, I, x1, x2, x3, x4 => if x4 ≤ x3 then (some (1, I)) else (l_R_nextOrder_87 n (g_R_trade I x3 x4) x1 x2 (x3 + 1) (x4 + (-1)))
def l_R_nextOrder_45 : Nat → (Nat → Nat → Int32) → Int32 → Int32 → Option (Int32 × (Nat → Nat → Int32))
  | 0, _, _, _ => none
  | n + 1, I, x1, x2 => if x2 ≤ x1 then (l_R_nextOrder_87 1000 (g_R_trade I x1 x2) x1 x2 (x1 + 1) (((g_R_trade I x1 x2) 12 2) - 1)) else (if f_R_whoIn I x1 ≤ f_R_whoIn I x2 then (l_R_nextOrder_87 1000 (g_R_trade I x1 x2) x1 x2 (x1 + 1) (((g_R_trade I x1 x2) 12 2) - 1)) else (l_R_nextOrder_45 n I x1 (x2 + (-1))))
def l_R_nextOrder_7 : Nat → (Nat → Nat → Int32) → Int32 → Option (Int32 × (Nat → Nat → Int32))
  | 0, _, _ => none
  | n + 1, I, x1 => if x1 < 0 then (if 0 ≤ x1 then (l_R_nextOrder_45 1000 I x1 ((I 12 2) - 1)) else (some (0, I))) else (if f_R_whoIn I x1 ≤ f_R_whoIn I (x1 + 1) then (if 0 ≤ x1 then (l_R_nextOrder_45 1000 I x1 ((I 12 2) - 1)) else (some (0, I))) else (l_R_nextOrder_7 n I (x1 + (-1))))
def x_R_nextOrder (I : Nat → Nat → Int32) : Option (Int32 × (Nat → Nat → Int32)) := l_R_nextOrder_7 1000 I ((I 12 2) - 2)
set_option maxRecDepth 100000 in
theorem lp_R_nextOrder_87 {X : Nat × (Nat → Int32)} (P : Nat → Nat → Option Nat) : ∀ (n : Nat) (I : Nat → Nat → Int32) (x1 : Int32) (x2 : Int32) (x3 : Int32) (x4 : Int32) (r : Int32 × (Nat → Nat → Int32)), l_R_nextOrder_87 n I x1 x2 x3 x4 = some r → Wp X 86 87 [some (.ref 12), some (.int x1), some (.int x2), some (.int x3), some (.int x4)] [] (zH I P) (fun r2 h2 => r2 = some (.int r.1) ∧ h2 = zH r.2 P) := by
  intro n
  induction n with
  | zero => intro I x1 x2 x3 x4 r hx; cases hx
  | succ n ih =>
    intro I x1 x2 x3 x4 r hx
    rw [l_R_nextOrder_87] at hx
    refine wp_blk (pc' := 90) (L' := [some (.ref 12), some (.int x1), some (.int x2), some (.int x3), some (.int x4)]) (st' := [.int x4, .int x3]) (h' := zH I P) 2 rfl ?_
    refine wp_ge (a := x3) (b := x4) (s1 := (109, [some (.ref 12), some (.int x1), some (.int x2), some (.int x3), some (.int x4)], [], zH I P)) (s2 := (93, [some (.ref 12), some (.int x1), some (.int x2), some (.int x3), some (.int x4)], [], zH I P)) rfl (fun c1 => ?_) (fun c1 => ?_)
    · rw [if_pos c1] at hx
      refine wp_blk (pc' := 110) (L' := [some (.ref 12), some (.int x1), some (.int x2), some (.int x3), some (.int x4)]) (st' := [.int 1]) (h' := zH I P) 1 rfl ?_
      cases hx
      exact wp_end rfl rfl ⟨rfl, rfl⟩
    · rw [if_neg c1] at hx
      refine wp_blk (pc' := 97) (L' := [some (.ref 12), some (.int x1), some (.int x2), some (.int x3), some (.int x4)]) (st' := [.int x4, .int x3, .ref 12]) (h' := zH I P) 3 rfl ?_
      refine wp_callf (d := 87) (as := [.ref 12, .int x3, .int x4]) (rest := []) (Ld := [some (.ref 12), some (.int x3), some (.int x4), none]) (pc' := 100) (st' := []) (r := none) (h1 := zH (g_R_trade I x3 x4) P) rfl rfl rfl rfl rfl rfl rfl rfl rfl (sp_R_trade I P x3 x4) ?_
      refine wp_blk (pc' := 87) (L' := [some (.ref 12), some (.int x1), some (.int x2), some (.int (x3 + 1)), some (.int (x4 + (-1)))]) (st' := []) (h' := zH (g_R_trade I x3 x4) P) 3 rfl ?_
      exact ih _ _ _ _ _ _ hx
set_option maxRecDepth 100000 in
theorem lp_R_nextOrder_45 {X : Nat × (Nat → Int32)} (P : Nat → Nat → Option Nat) : ∀ (n : Nat) (I : Nat → Nat → Int32) (x1 : Int32) (x2 : Int32) (r : Int32 × (Nat → Nat → Int32)), l_R_nextOrder_45 n I x1 x2 = some r → Wp X 86 45 [some (.ref 12), some (.int x1), some (.int x2), none, none] [] (zH I P) (fun r2 h2 => r2 = some (.int r.1) ∧ h2 = zH r.2 P) := by
  intro n
  induction n with
  | zero => intro I x1 x2 r hx; cases hx
  | succ n ih =>
    intro I x1 x2 r hx
    rw [l_R_nextOrder_45] at hx
    refine wp_blk (pc' := 47) (L' := [some (.ref 12), some (.int x1), some (.int x2), none, none]) (st' := [.int x1, .int x2]) (h' := zH I P) 2 rfl ?_
    refine wp_le (a := x2) (b := x1) (s1 := (69, [some (.ref 12), some (.int x1), some (.int x2), none, none], [], zH I P)) (s2 := (50, [some (.ref 12), some (.int x1), some (.int x2), none, none], [], zH I P)) rfl (fun c1 => ?_) (fun c1 => ?_)
    · rw [if_pos c1] at hx
      refine wp_blk (pc' := 72) (L' := [some (.ref 12), some (.int x1), some (.int x2), none, none]) (st' := [.int x2, .int x1, .ref 12]) (h' := zH I P) 3 rfl ?_
      refine wp_callf (d := 87) (as := [.ref 12, .int x1, .int x2]) (rest := []) (Ld := [some (.ref 12), some (.int x1), some (.int x2), none]) (pc' := 75) (st' := []) (r := none) (h1 := zH (g_R_trade I x1 x2) P) rfl rfl rfl rfl rfl rfl rfl rfl rfl (sp_R_trade I P x1 x2) ?_
      refine wp_blk (pc' := 87) (L' := [some (.ref 12), some (.int x1), some (.int x2), some (.int (x1 + 1)), some (.int (((g_R_trade I x1 x2) 12 2) - 1))]) (st' := []) (h' := zH (g_R_trade I x1 x2) P) 9 rfl ?_
      exact lp_R_nextOrder_87 P _ _ _ _ _ _ _ hx
    · rw [if_neg c1] at hx
      refine wp_blk (pc' := 52) (L' := [some (.ref 12), some (.int x1), some (.int x2), none, none]) (st' := [.int x2, .ref 12]) (h' := zH I P) 2 rfl ?_
      refine wp_callf (d := 56) (as := [.ref 12, .int x2]) (rest := []) (Ld := [some (.ref 12), some (.int x2)]) (pc' := 55) (st' := [.int (f_R_whoIn I x2)]) (r := some (.int (f_R_whoIn I x2))) (h1 := zH I P) rfl rfl rfl rfl rfl rfl rfl rfl rfl (sp_R_whoIn I P x2) ?_
      refine wp_blk (pc' := 57) (L' := [some (.ref 12), some (.int x1), some (.int x2), none, none]) (st' := [.int x1, .ref 12, .int (f_R_whoIn I x2)]) (h' := zH I P) 2 rfl ?_
      refine wp_callf (d := 56) (as := [.ref 12, .int x1]) (rest := [.int (f_R_whoIn I x2)]) (Ld := [some (.ref 12), some (.int x1)]) (pc' := 60) (st' := [.int (f_R_whoIn I x1), .int (f_R_whoIn I x2)]) (r := some (.int (f_R_whoIn I x1))) (h1 := zH I P) rfl rfl rfl rfl rfl rfl rfl rfl rfl (sp_R_whoIn I P x1) ?_
      refine wp_ge (a := f_R_whoIn I x2) (b := f_R_whoIn I x1) (s1 := (69, [some (.ref 12), some (.int x1), some (.int x2), none, none], [], zH I P)) (s2 := (63, [some (.ref 12), some (.int x1), some (.int x2), none, none], [], zH I P)) rfl (fun c2 => ?_) (fun c2 => ?_)
      · rw [if_pos c2] at hx
        refine wp_blk (pc' := 72) (L' := [some (.ref 12), some (.int x1), some (.int x2), none, none]) (st' := [.int x2, .int x1, .ref 12]) (h' := zH I P) 3 rfl ?_
        refine wp_callf (d := 87) (as := [.ref 12, .int x1, .int x2]) (rest := []) (Ld := [some (.ref 12), some (.int x1), some (.int x2), none]) (pc' := 75) (st' := []) (r := none) (h1 := zH (g_R_trade I x1 x2) P) rfl rfl rfl rfl rfl rfl rfl rfl rfl (sp_R_trade I P x1 x2) ?_
        refine wp_blk (pc' := 87) (L' := [some (.ref 12), some (.int x1), some (.int x2), some (.int (x1 + 1)), some (.int (((g_R_trade I x1 x2) 12 2) - 1))]) (st' := []) (h' := zH (g_R_trade I x1 x2) P) 9 rfl ?_
        exact lp_R_nextOrder_87 P _ _ _ _ _ _ _ hx
      · rw [if_neg c2] at hx
        refine wp_blk (pc' := 45) (L' := [some (.ref 12), some (.int x1), some (.int (x2 + (-1))), none, none]) (st' := []) (h' := zH I P) 2 rfl ?_
        exact ih _ _ _ _ hx
set_option maxRecDepth 100000 in
theorem lp_R_nextOrder_7 {X : Nat × (Nat → Int32)} (P : Nat → Nat → Option Nat) : ∀ (n : Nat) (I : Nat → Nat → Int32) (x1 : Int32) (r : Int32 × (Nat → Nat → Int32)), l_R_nextOrder_7 n I x1 = some r → Wp X 86 7 [some (.ref 12), some (.int x1), none, none, none] [] (zH I P) (fun r2 h2 => r2 = some (.int r.1) ∧ h2 = zH r.2 P) := by
  intro n
  induction n with
  | zero => intro I x1 r hx; cases hx
  | succ n ih =>
    intro I x1 r hx
    rw [l_R_nextOrder_7] at hx
    refine wp_blk (pc' := 8) (L' := [some (.ref 12), some (.int x1), none, none, none]) (st' := [.int x1]) (h' := zH I P) 1 rfl ?_
    refine wp_lt (a := x1) (b := 0) (s1 := (32, [some (.ref 12), some (.int x1), none, none, none], [], zH I P)) (s2 := (11, [some (.ref 12), some (.int x1), none, none, none], [], zH I P)) rfl (fun c1 => ?_) (fun c1 => ?_)
    · rw [if_pos c1] at hx
      refine wp_blk (pc' := 33) (L' := [some (.ref 12), some (.int x1), none, none, none]) (st' := [.int x1]) (h' := zH I P) 1 rfl ?_
      refine wp_ge (a := x1) (b := 0) (s1 := (38, [some (.ref 12), some (.int x1), none, none, none], [], zH I P)) (s2 := (36, [some (.ref 12), some (.int x1), none, none, none], [], zH I P)) rfl (fun c2 => ?_) (fun c2 => ?_)
      · rw [if_pos c2] at hx
        refine wp_blk (pc' := 45) (L' := [some (.ref 12), some (.int x1), some (.int ((I 12 2) - 1)), none, none]) (st' := []) (h' := zH I P) 5 rfl ?_
        exact lp_R_nextOrder_45 P _ _ _ _ _ hx
      · rw [if_neg c2] at hx
        refine wp_blk (pc' := 37) (L' := [some (.ref 12), some (.int x1), none, none, none]) (st' := [.int 0]) (h' := zH I P) 1 rfl ?_
        cases hx
        exact wp_end rfl rfl ⟨rfl, rfl⟩
    · rw [if_neg c1] at hx
      refine wp_blk (pc' := 13) (L' := [some (.ref 12), some (.int x1), none, none, none]) (st' := [.int x1, .ref 12]) (h' := zH I P) 2 rfl ?_
      refine wp_callf (d := 56) (as := [.ref 12, .int x1]) (rest := []) (Ld := [some (.ref 12), some (.int x1)]) (pc' := 16) (st' := [.int (f_R_whoIn I x1)]) (r := some (.int (f_R_whoIn I x1))) (h1 := zH I P) rfl rfl rfl rfl rfl rfl rfl rfl rfl (sp_R_whoIn I P x1) ?_
      refine wp_blk (pc' := 20) (L' := [some (.ref 12), some (.int x1), none, none, none]) (st' := [.int (x1 + 1), .ref 12, .int (f_R_whoIn I x1)]) (h' := zH I P) 4 rfl ?_
      refine wp_callf (d := 56) (as := [.ref 12, .int (x1 + 1)]) (rest := [.int (f_R_whoIn I x1)]) (Ld := [some (.ref 12), some (.int (x1 + 1))]) (pc' := 23) (st' := [.int (f_R_whoIn I (x1 + 1)), .int (f_R_whoIn I x1)]) (r := some (.int (f_R_whoIn I (x1 + 1)))) (h1 := zH I P) rfl rfl rfl rfl rfl rfl rfl rfl rfl (sp_R_whoIn I P (x1 + 1)) ?_
      refine wp_le (a := f_R_whoIn I x1) (b := f_R_whoIn I (x1 + 1)) (s1 := (32, [some (.ref 12), some (.int x1), none, none, none], [], zH I P)) (s2 := (26, [some (.ref 12), some (.int x1), none, none, none], [], zH I P)) rfl (fun c3 => ?_) (fun c3 => ?_)
      · rw [if_pos c3] at hx
        refine wp_blk (pc' := 33) (L' := [some (.ref 12), some (.int x1), none, none, none]) (st' := [.int x1]) (h' := zH I P) 1 rfl ?_
        refine wp_ge (a := x1) (b := 0) (s1 := (38, [some (.ref 12), some (.int x1), none, none, none], [], zH I P)) (s2 := (36, [some (.ref 12), some (.int x1), none, none, none], [], zH I P)) rfl (fun c4 => ?_) (fun c4 => ?_)
        · rw [if_pos c4] at hx
          refine wp_blk (pc' := 45) (L' := [some (.ref 12), some (.int x1), some (.int ((I 12 2) - 1)), none, none]) (st' := []) (h' := zH I P) 5 rfl ?_
          exact lp_R_nextOrder_45 P _ _ _ _ _ hx
        · rw [if_neg c4] at hx
          refine wp_blk (pc' := 37) (L' := [some (.ref 12), some (.int x1), none, none, none]) (st' := [.int 0]) (h' := zH I P) 1 rfl ?_
          cases hx
          exact wp_end rfl rfl ⟨rfl, rfl⟩
      · rw [if_neg c3] at hx
        refine wp_blk (pc' := 7) (L' := [some (.ref 12), some (.int (x1 + (-1))), none, none, none]) (st' := []) (h' := zH I P) 2 rfl ?_
        exact ih _ _ _ hx
set_option maxRecDepth 100000 in
theorem xp_R_nextOrder {X : Nat × (Nat → Int32)} (I : Nat → Nat → Int32) (P : Nat → Nat → Option Nat) (r : Int32 × (Nat → Nat → Int32)) (hx : x_R_nextOrder I = some r) : Wf X 86 [some (.ref 12), none, none, none, none] (zH I P) (some (.int r.1)) (zH r.2 P) := by
  unfold Wf
  unfold x_R_nextOrder at hx
  refine wp_blk (pc' := 7) (L' := [some (.ref 12), some (.int ((I 12 2) - 2)), none, none, none]) (st' := []) (h' := zH I P) 5 rfl ?_
  exact lp_R_nextOrder_7 P _ _ _ _ hx
def f_V_size (I : Nat → Nat → Int32) : Int32 := I 16 2
set_option maxRecDepth 100000 in
theorem sp_V_size {X : Nat × (Nat → Int32)} (I : Nat → Nat → Int32) (P : Nat → Nat → Option Nat) : Wf X 98 [some (.ref 16)] (zH I P) (some (.int (f_V_size I))) (zH I P) := by
  unfold Wf
  refine wp_blk (pc' := 4) (L' := [some (.ref 16)]) (st' := [.int (I 16 2)]) (h' := zH I P) 2 rfl ?_
  exact wp_end rfl rfl ⟨rfl, rfl⟩
def f_V_isFull (I : Nat → Nat → Int32) : Int32 := if I 16 2 < 6 then 0 else 1
theorem fb_V_isFull (I : Nat → Nat → Int32) : f_V_isFull I = 1 ∨ f_V_isFull I = 0 := by
  unfold f_V_isFull
  (repeat' split) <;> first | exact Or.inl rfl | exact Or.inr rfl
set_option maxRecDepth 100000 in
theorem sp_V_isFull {X : Nat × (Nat → Int32)} (I : Nat → Nat → Int32) (P : Nat → Nat → Option Nat) : Wf X 96 [some (.ref 16)] (zH I P) (some (.int (f_V_isFull I))) (zH I P) := by
  unfold Wf
  refine wp_blk (pc' := 6) (L' := [some (.ref 16)]) (st' := [.int 6, .int (I 16 2)]) (h' := zH I P) 3 rfl ?_
  refine wp_lt (a := I 16 2) (b := 6) (s1 := (13, [some (.ref 16)], [], zH I P)) (s2 := (9, [some (.ref 16)], [], zH I P)) rfl (fun c1 => ?_) (fun c1 => ?_)
  · refine wp_blk (pc' := 14) (L' := [some (.ref 16)]) (st' := [.int 0]) (h' := zH I P) 1 rfl ?_
    exact wp_end rfl rfl ⟨by rw [f_V_isFull, if_pos c1], rfl⟩
  · refine wp_blk (pc' := 14) (L' := [some (.ref 16)]) (st' := [.int 1]) (h' := zH I P) 2 rfl ?_
    exact wp_end rfl rfl ⟨by rw [f_V_isFull, if_neg c1], rfl⟩
def g_V_clear (I : Nat → Nat → Int32) : Nat → Nat → Int32 := (zui I 16 2 0)
set_option maxRecDepth 100000 in
theorem sp_V_clear {X : Nat × (Nat → Int32)} (I : Nat → Nat → Int32) (P : Nat → Nat → Option Nat) : Wf X 38 [some (.ref 16)] (zH I P) none (zH (g_V_clear I) P) := by
  unfold Wf
  refine wp_blk (pc' := 5) (L' := [some (.ref 16)]) (st' := []) (h' := zH (zui I 16 2 0) P) 3 rfl ?_
  exact wp_end rfl rfl ⟨rfl, rfl⟩
def g_V_add (I : Nat → Nat → Int32) (c f : Int32) : Nat → Nat → Int32 := if I 16 2 < 0 then I else (if 6 ≤ I 16 2 then I else (zui (zui (zui I 17 ((I 16 2).toNatClampNeg) c) 18 ((I 16 2).toNatClampNeg) f) 16 2 ((I 16 2) + 1)))
set_option maxRecDepth 100000 in
theorem sp_V_add {X : Nat × (Nat → Int32)} (I : Nat → Nat → Int32) (P : Nat → Nat → Option Nat) (c f : Int32) : Wf X 97 [some (.ref 16), some (.int c), some (.int f)] (zH I P) none (zH (g_V_add I c f) P) := by
  unfold Wf
  refine wp_blk (pc' := 4) (L' := [some (.ref 16), some (.int c), some (.int f)]) (st' := [.int (I 16 2)]) (h' := zH I P) 2 rfl ?_
  refine wp_lt (a := I 16 2) (b := 0) (s1 := (46, [some (.ref 16), some (.int c), some (.int f)], [], zH I P)) (s2 := (7, [some (.ref 16), some (.int c), some (.int f)], [], zH I P)) rfl (fun c1 => ?_) (fun c1 => ?_)
  · exact wp_end rfl rfl ⟨rfl, by rw [g_V_add, if_pos c1]⟩
  · refine wp_blk (pc' := 13) (L' := [some (.ref 16), some (.int c), some (.int f)]) (st' := [.int 6, .int (I 16 2)]) (h' := zH I P) 3 rfl ?_
    refine wp_ge (a := I 16 2) (b := 6) (s1 := (46, [some (.ref 16), some (.int c), some (.int f)], [], zH I P)) (s2 := (16, [some (.ref 16), some (.int c), some (.int f)], [], zH I P)) rfl (fun c2 => ?_) (fun c2 => ?_)
    · exact wp_end rfl rfl ⟨rfl, by rw [g_V_add, if_neg c1, if_pos c2]⟩
    · refine wp_blk (pc' := 25) (L' := [some (.ref 16), some (.int c), some (.int f)]) (st' := [.int c, .int (I 16 2), .ref 17]) (h' := zH I P) 5 rfl ?_
      refine wp_chk (P := zinb (I 16 2) 6 = true) (pc' := 26) (L' := [some (.ref 16), some (.int c), some (.int f)]) (st' := []) (h' := zH (zui I 17 ((I 16 2).toNatClampNeg) c) P) rfl (by exact zinb_a (by assumption) (by assumption)) ?_
      refine wp_blk (pc' := 35) (L' := [some (.ref 16), some (.int c), some (.int f)]) (st' := [.int f, .int (I 16 2), .ref 18]) (h' := zH (zui I 17 ((I 16 2).toNatClampNeg) c) P) 5 rfl ?_
      refine wp_chk (P := zinb (I 16 2) 6 = true) (pc' := 36) (L' := [some (.ref 16), some (.int c), some (.int f)]) (st' := []) (h' := zH (zui (zui I 17 ((I 16 2).toNatClampNeg) c) 18 ((I 16 2).toNatClampNeg) f) P) rfl (by exact zinb_a (by assumption) (by assumption)) ?_
      refine wp_blk (pc' := 46) (L' := [some (.ref 16), some (.int c), some (.int f)]) (st' := []) (h' := zH (zui (zui (zui I 17 ((I 16 2).toNatClampNeg) c) 18 ((I 16 2).toNatClampNeg) f) 16 2 ((I 16 2) + 1)) P) 6 rfl ?_
      exact wp_end rfl rfl ⟨rfl, by rw [g_V_add, if_neg c1, if_neg c2]⟩
def l_V_areSo_2 : Nat → (Nat → Nat → Int32) → Int32 → Option (Int32 × (Nat → Nat → Int32))
  | 0, _, _ => none
  | n + 1, I, x2 => if I 16 2 ≤ x2 then (some (1, I)) else (if 6 ≤ x2 then (some (1, I)) else (if zinb x2 6 = true then (if zinb x2 6 = true then (if f_R_fineOf I (I 17 x2.toNatClampNeg) = I 18 x2.toNatClampNeg then (l_V_areSo_2 n I (x2 + 1)) else (some (0, I))) else none) else none))
def x_V_areSo (I : Nat → Nat → Int32) : Option (Int32 × (Nat → Nat → Int32)) := l_V_areSo_2 1000 I 0
set_option maxRecDepth 100000 in
theorem lp_V_areSo_2 {X : Nat × (Nat → Int32)} (P : Nat → Nat → Option Nat) : ∀ (n : Nat) (I : Nat → Nat → Int32) (x2 : Int32) (r : Int32 × (Nat → Nat → Int32)), l_V_areSo_2 n I x2 = some r → Wp X 103 2 [some (.ref 16), some (.ref 12), some (.int x2)] [] (zH I P) (fun r2 h2 => r2 = some (.int r.1) ∧ h2 = zH r.2 P) := by
  intro n
  induction n with
  | zero => intro I x2 r hx; cases hx
  | succ n ih =>
    intro I x2 r hx
    rw [l_V_areSo_2] at hx
    refine wp_blk (pc' := 7) (L' := [some (.ref 16), some (.ref 12), some (.int x2)]) (st' := [.int (I 16 2), .int x2]) (h' := zH I P) 3 rfl ?_
    refine wp_ge (a := x2) (b := I 16 2) (s1 := (43, [some (.ref 16), some (.ref 12), some (.int x2)], [], zH I P)) (s2 := (10, [some (.ref 16), some (.ref 12), some (.int x2)], [], zH I P)) rfl (fun c1 => ?_) (fun c1 => ?_)
    · rw [if_pos c1] at hx
      refine wp_blk (pc' := 44) (L' := [some (.ref 16), some (.ref 12), some (.int x2)]) (st' := [.int 1]) (h' := zH I P) 1 rfl ?_
      cases hx
      exact wp_end rfl rfl ⟨rfl, rfl⟩
    · rw [if_neg c1] at hx
      refine wp_blk (pc' := 13) (L' := [some (.ref 16), some (.ref 12), some (.int x2)]) (st' := [.int 6, .int x2]) (h' := zH I P) 2 rfl ?_
      refine wp_ge (a := x2) (b := 6) (s1 := (43, [some (.ref 16), some (.ref 12), some (.int x2)], [], zH I P)) (s2 := (16, [some (.ref 16), some (.ref 12), some (.int x2)], [], zH I P)) rfl (fun c2 => ?_) (fun c2 => ?_)
      · rw [if_pos c2] at hx
        refine wp_blk (pc' := 44) (L' := [some (.ref 16), some (.ref 12), some (.int x2)]) (st' := [.int 1]) (h' := zH I P) 1 rfl ?_
        cases hx
        exact wp_end rfl rfl ⟨rfl, rfl⟩
      · rw [if_neg c2] at hx
        refine wp_blk (pc' := 22) (L' := [some (.ref 16), some (.ref 12), some (.int x2)]) (st' := [.int x2, .ref 17, .ref 12]) (h' := zH I P) 4 rfl ?_
        obtain ⟨c3, hx⟩ := zite hx
        refine wp_chk (P := zinb x2 6 = true) (pc' := 23) (L' := [some (.ref 16), some (.ref 12), some (.int x2)]) (st' := [.int (I 17 x2.toNatClampNeg), .ref 12]) (h' := zH I P) rfl c3 ?_
        refine wp_callf (d := 63) (as := [.ref 12, .int (I 17 x2.toNatClampNeg)]) (rest := []) (Ld := [some (.ref 12), some (.int (I 17 x2.toNatClampNeg))]) (pc' := 26) (st' := [.int (f_R_fineOf I (I 17 x2.toNatClampNeg))]) (r := some (.int (f_R_fineOf I (I 17 x2.toNatClampNeg)))) (h1 := zH I P) rfl rfl rfl rfl rfl rfl rfl rfl rfl (sp_R_fineOf I P (I 17 x2.toNatClampNeg)) ?_
        refine wp_blk (pc' := 31) (L' := [some (.ref 16), some (.ref 12), some (.int x2)]) (st' := [.int x2, .ref 18, .int (f_R_fineOf I (I 17 x2.toNatClampNeg))]) (h' := zH I P) 3 rfl ?_
        obtain ⟨c4, hx⟩ := zite hx
        refine wp_chk (P := zinb x2 6 = true) (pc' := 32) (L' := [some (.ref 16), some (.ref 12), some (.int x2)]) (st' := [.int (I 18 x2.toNatClampNeg), .int (f_R_fineOf I (I 17 x2.toNatClampNeg))]) (h' := zH I P) rfl c4 ?_
        refine wp_eq (a := f_R_fineOf I (I 17 x2.toNatClampNeg)) (b := I 18 x2.toNatClampNeg) (s1 := (37, [some (.ref 16), some (.ref 12), some (.int x2)], [], zH I P)) (s2 := (35, [some (.ref 16), some (.ref 12), some (.int x2)], [], zH I P)) rfl (fun c5 => ?_) (fun c5 => ?_)
        · rw [if_pos c5] at hx
          refine wp_blk (pc' := 2) (L' := [some (.ref 16), some (.ref 12), some (.int (x2 + 1))]) (st' := []) (h' := zH I P) 2 rfl ?_
          exact ih _ _ _ hx
        · rw [if_neg c5] at hx
          refine wp_blk (pc' := 36) (L' := [some (.ref 16), some (.ref 12), some (.int x2)]) (st' := [.int 0]) (h' := zH I P) 1 rfl ?_
          cases hx
          exact wp_end rfl rfl ⟨rfl, rfl⟩
set_option maxRecDepth 100000 in
theorem xp_V_areSo {X : Nat × (Nat → Int32)} (I : Nat → Nat → Int32) (P : Nat → Nat → Option Nat) (r : Int32 × (Nat → Nat → Int32)) (hx : x_V_areSo I = some r) : Wf X 103 [some (.ref 16), some (.ref 12), none] (zH I P) (some (.int r.1)) (zH r.2 P) := by
  unfold Wf
  unfold x_V_areSo at hx
  refine wp_blk (pc' := 2) (L' := [some (.ref 16), some (.ref 12), some (.int 0)]) (st' := []) (h' := zH I P) 2 rfl ?_
  exact lp_V_areSo_2 P _ _ _ _ hx
