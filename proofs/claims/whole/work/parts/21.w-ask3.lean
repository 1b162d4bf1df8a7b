/-! THE CLASS: chance, years, counts (printed) -/
def l_G_power_4 : Nat → (Nat → Nat → Int32) → Int32 → Int32 → Int32 → Int32 → Option (Int32 × (Nat → Nat → Int32))
  | 0, _, _, _, _, _ => none
  | n + 1, I, x0, x1, x2, x3 => if x1 ≤ x3 then (some (x2, I)) else (l_G_power_4 n I x0 x1 (x2 * x0) (x3 + 1))
def x_G_power (I : Nat → Nat → Int32) (b t : Int32) : Option (Int32 × (Nat → Nat → Int32)) := l_G_power_4 1000 I b t 1 0
set_option maxRecDepth 100000 in
theorem lp_G_power_4 {X : Nat × (Nat → Int32)} (P : Nat → Nat → Option Nat) : ∀ (n : Nat) (I : Nat → Nat → Int32) (x0 : Int32) (x1 : Int32) (x2 : Int32) (x3 : Int32) (r : Int32 × (Nat → Nat → Int32)), l_G_power_4 n I x0 x1 x2 x3 = some r → Wp X 108 4 [some (.int x0), some (.int x1), some (.int x2), some (.int x3)] [] (zH I P) (fun r2 h2 => r2 = some (.int r.1) ∧ h2 = zH r.2 P) := by
  intro n
  induction n with
  | zero => intro I x0 x1 x2 x3 r hx; cases hx
  | succ n ih =>
    intro I x0 x1 x2 x3 r hx
    rw [l_G_power_4] at hx
    refine wp_blk (pc' := 6) (L' := [some (.int x0), some (.int x1), some (.int x2), some (.int x3)]) (st' := [.int x1, .int x3]) (h' := zH I P) 2 rfl ?_
    refine wp_ge (a := x3) (b := x1) (s1 := (19, [some (.int x0), some (.int x1), some (.int x2), some (.int x3)], [], zH I P)) (s2 := (9, [some (.int x0), some (.int x1), some (.int x2), some (.int x3)], [], zH I P)) rfl (fun c1 => ?_) (fun c1 => ?_)
    · rw [if_pos c1] at hx
      refine wp_blk (pc' := 20) (L' := [some (.int x0), some (.int x1), some (.int x2), some (.int x3)]) (st' := [.int x2]) (h' := zH I P) 1 rfl ?_
      cases hx
      exact wp_end rfl rfl ⟨rfl, rfl⟩
    · rw [if_neg c1] at hx
      refine wp_blk (pc' := 4) (L' := [some (.int x0), some (.int x1), some (.int (x2 * x0)), some (.int (x3 + 1))]) (st' := []) (h' := zH I P) 6 rfl ?_
      exact ih _ _ _ _ _ _ hx
set_option maxRecDepth 100000 in
theorem xp_G_power {X : Nat × (Nat → Int32)} (I : Nat → Nat → Int32) (P : Nat → Nat → Option Nat) (b t : Int32) (r : Int32 × (Nat → Nat → Int32)) (hx : x_G_power I b t = some r) : Wf X 108 [some (.int b), some (.int t), none, none] (zH I P) (some (.int r.1)) (zH r.2 P) := by
  unfold Wf
  unfold x_G_power at hx
  refine wp_blk (pc' := 4) (L' := [some (.int b), some (.int t), some (.int 1), some (.int 0)]) (st' := []) (h' := zH I P) 4 rfl ?_
  exact lp_G_power_4 P _ _ _ _ _ _ _ hx
def l_G_commonDivisor_7 : Nat → (Nat → Nat → Int32) → Int32 → Int32 → Int32 → Int32 → Int32 → Option (Int32 × (Nat → Nat → Int32))
  | 0, _, _, _, _, _, _ => none
  | n + 1, I, x0, x1, x2, x3, x4 => if 32 ≤ x4 then (some (x2, I)) else (if x3 = 0 then (some (x2, I)) else (if x3 = 0 then none else (l_G_commonDivisor_7 n I x0 x1 x3 (x2 - x2 / x3 * x3) (x4 + 1))))
def x_G_commonDivisor (I : Nat → Nat → Int32) (a b : Int32) : Option (Int32 × (Nat → Nat → Int32)) := l_G_commonDivisor_7 1000 I a b a b 0
set_option maxRecDepth 100000 in
theorem lp_G_commonDivisor_7 {X : Nat × (Nat → Int32)} (P : Nat → Nat → Option Nat) : ∀ (n : Nat) (I : Nat → Nat → Int32) (x0 : Int32) (x1 : Int32) (x2 : Int32) (x3 : Int32) (x4 : Int32) (r : Int32 × (Nat → Nat → Int32)), l_G_commonDivisor_7 n I x0 x1 x2 x3 x4 = some r → Wp X 109 7 [some (.int x0), some (.int x1), some (.int x2), some (.int x3), some (.int x4), none] [] (zH I P) (fun r2 h2 => r2 = some (.int r.1) ∧ h2 = zH r.2 P) := by
  intro n
  induction n with
  | zero => intro I x0 x1 x2 x3 x4 r hx; cases hx
  | succ n ih =>
    intro I x0 x1 x2 x3 x4 r hx
    rw [l_G_commonDivisor_7] at hx
    refine wp_blk (pc' := 11) (L' := [some (.int x0), some (.int x1), some (.int x2), some (.int x3), some (.int x4), none]) (st' := [.int 32, .int x4]) (h' := zH I P) 2 rfl ?_
    refine wp_ge (a := x4) (b := 32) (s1 := (34, [some (.int x0), some (.int x1), some (.int x2), some (.int x3), some (.int x4), none], [], zH I P)) (s2 := (14, [some (.int x0), some (.int x1), some (.int x2), some (.int x3), some (.int x4), none], [], zH I P)) rfl (fun c1 => ?_) (fun c1 => ?_)
    · rw [if_pos c1] at hx
      refine wp_blk (pc' := 35) (L' := [some (.int x0), some (.int x1), some (.int x2), some (.int x3), some (.int x4), none]) (st' := [.int x2]) (h' := zH I P) 1 rfl ?_
      cases hx
      exact wp_end rfl rfl ⟨rfl, rfl⟩
    · rw [if_neg c1] at hx
      refine wp_blk (pc' := 15) (L' := [some (.int x0), some (.int x1), some (.int x2), some (.int x3), some (.int x4), none]) (st' := [.int x3]) (h' := zH I P) 1 rfl ?_
      refine wp_eq (a := x3) (b := 0) (s1 := (34, [some (.int x0), some (.int x1), some (.int x2), some (.int x3), some (.int x4), none], [], zH I P)) (s2 := (18, [some (.int x0), some (.int x1), some (.int x2), some (.int x3), some (.int x4), none], [], zH I P)) rfl (fun c2 => ?_) (fun c2 => ?_)
      · rw [if_pos c2] at hx
        refine wp_blk (pc' := 35) (L' := [some (.int x0), some (.int x1), some (.int x2), some (.int x3), some (.int x4), none]) (st' := [.int x2]) (h' := zH I P) 1 rfl ?_
        cases hx
        exact wp_end rfl rfl ⟨rfl, rfl⟩
      · rw [if_neg c2] at hx
        refine wp_blk (pc' := 20) (L' := [some (.int x0), some (.int x1), some (.int x2), some (.int x3), some (.int x4), none]) (st' := [.int x3, .int x2]) (h' := zH I P) 2 rfl ?_
        obtain ⟨c3, hx⟩ := znite hx
        refine wp_nchk (P := x3 = 0) (pc' := 21) (L' := [some (.int x0), some (.int x1), some (.int x2), some (.int x3), some (.int x4), none]) (st' := [.int (x2 - x2 / x3 * x3)]) (h' := zH I P) rfl c3 ?_
        refine wp_blk (pc' := 7) (L' := [some (.int x0), some (.int x1), some (.int x3), some (.int (x2 - x2 / x3 * x3)), some (.int (x4 + 1)), some (.int (x2 - x2 / x3 * x3))]) (st' := []) (h' := zH I P) 7 rfl ?_
        exact wp_forget (ih _ _ _ _ _ _ _ hx) (zle_c (zle_c (zle_c (zle_c (zle_c (zle_n zle_nil))))))
set_option maxRecDepth 100000 in
theorem xp_G_commonDivisor {X : Nat × (Nat → Int32)} (I : Nat → Nat → Int32) (P : Nat → Nat → Option Nat) (a b : Int32) (r : Int32 × (Nat → Nat → Int32)) (hx : x_G_commonDivisor I a b = some r) : Wf X 109 [some (.int a), some (.int b), none, none, none, none] (zH I P) (some (.int r.1)) (zH r.2 P) := by
  unfold Wf
  unfold x_G_commonDivisor at hx
  refine wp_blk (pc' := 7) (L' := [some (.int a), some (.int b), some (.int a), some (.int b), some (.int 0), none]) (st' := []) (h' := zH I P) 6 rfl ?_
  exact lp_G_commonDivisor_7 P _ _ _ _ _ _ _ _ hx
def l_G_chance_85 : Nat → (Nat → Nat → Int32) → Int32 → Int32 → Int32 → Int32 → Int32 → Int32 → Int32 → Option (Int32 × (Nat → Nat → Int32))
  | 0, _, _, _, _, _, _, _, _ => none
  | n + 1, I, x1, x2, x3, x4, x5, x6, x7 => if 1 <<< ((f_M_size 4 5 6 7 I) &&& 31) ≤ x7 then ((x_N_bitCount I x5).bind (fun q2 => (x_G_power q2.2 10 q2.1).bind (fun q3 => (x_G_commonDivisor q3.2 x6 q3.1).bind (fun q4 => if 1 ≤ q4.1 then (if x4 = 0 then (if q4.1 = 0 then none else (some (x6 / q4.1, q4.2))) else (if q4.1 = 0 then none else (some (q3.1 / q4.1, q4.2)))) else (some (-4, q4.2)))))) else (if x7 &&& (x5 ^^^ (-1)) = 0 then ((x_R_pass 8 9 10 11 (g_M_setGone 8 9 10 11 I ((f_M_goneBits 4 5 6 7 I) ||| x7))).bind (fun q5 => (x_N_bitCount q5.2 x7).bind (fun q6 => (x_N_bitCount q6.2 x5).bind (fun q7 => if f_G_breadOf q7.2 (f_R_fineOf q7.2 x1) < x2 then (l_G_chance_85 n q7.2 x1 x2 x3 x4 x5 (x6 + 0) (x7 + 1)) else ((x_G_power q7.2 x3 q6.1).bind (fun q8 => (x_G_power q8.2 (10 - x3) (q7.1 - q6.1)).bind (fun q9 => l_G_chance_85 n q9.2 x1 x2 x3 x4 x5 (x6 + (q8.1 * q9.1)) (x7 + 1)))))))) else (l_G_chance_85 n I x1 x2 x3 x4 x5 x6 (x7 + 1)))
def x_G_chance (I : Nat → Nat → Int32) (c b x p : Int32) : Option (Int32 × (Nat → Nat → Int32)) := if f_M_has 4 5 6 7 I c = 0 then (some (-1, I)) else (if f_G_isOutside I b 3 = 0 then (if f_G_isOutside I x 10 = 0 then (if f_G_isOutside I p 1 = 0 then (if f_M_isGone 4 5 6 7 I c = 0 then ((x_M_copy 8 9 10 11 4 5 6 7 I).bind (fun q1 => l_G_chance_85 1000 q1.2 c b x p ((f_M_presentBits 4 5 6 7 I) &&& ((1 <<< (c &&& 31)) ^^^ (-1))) 0 0)) else (some (-2, I))) else (some (-1, I))) else (some (-1, I))) else (some (-1, I)))
set_option maxRecDepth 100000 in
theorem lp_G_chance_85 {X : Nat × (Nat → Int32)} (P : Nat → Nat → Option Nat) : ∀ (n : Nat) (I : Nat → Nat → Int32) (x1 : Int32) (x2 : Int32) (x3 : Int32) (x4 : Int32) (x5 : Int32) (x6 : Int32) (x7 : Int32) (r : Int32 × (Nat → Nat → Int32)), l_G_chance_85 n I x1 x2 x3 x4 x5 x6 x7 = some r → Wp X 107 85 [some (.ref 0), some (.int x1), some (.int x2), some (.int x3), some (.int x4), some (.int x5), some (.int x6), some (.int x7), none, none] [] (zH I P) (fun r2 h2 => r2 = some (.int r.1) ∧ h2 = zH r.2 P) := by
  intro n
  induction n with
  | zero => intro I x1 x2 x3 x4 x5 x6 x7 r hx; cases hx
  | succ n ih =>
    intro I x1 x2 x3 x4 x5 x6 x7 r hx
    rw [l_G_chance_85] at hx
    refine wp_blk (pc' := 92) (L' := [some (.ref 0), some (.int x1), some (.int x2), some (.int x3), some (.int x4), some (.int x5), some (.int x6), some (.int x7), none, none]) (st' := [.ref 4, .int 1, .int x7]) (h' := zH I P) 4 rfl ?_
    refine wp_callf (d := 36) (as := [.ref 4]) (rest := [.int 1, .int x7]) (Ld := [some (.ref 4)]) (pc' := 95) (st' := [.int (f_M_size 4 5 6 7 I), .int 1, .int x7]) (r := some (.int (f_M_size 4 5 6 7 I))) (h1 := zH I P) rfl rfl rfl rfl rfl rfl rfl rfl rfl (sp_M_size_4 I P) ?_
    refine wp_blk (pc' := 96) (L' := [some (.ref 0), some (.int x1), some (.int x2), some (.int x3), some (.int x4), some (.int x5), some (.int x6), some (.int x7), none, none]) (st' := [.int (1 <<< ((f_M_size 4 5 6 7 I) &&& 31)), .int x7]) (h' := zH I P) 1 rfl ?_
    refine wp_ge (a := x7) (b := 1 <<< ((f_M_size 4 5 6 7 I) &&& 31)) (s1 := (200, [some (.ref 0), some (.int x1), some (.int x2), some (.int x3), some (.int x4), some (.int x5), some (.int x6), some (.int x7), none, none], [], zH I P)) (s2 := (99, [some (.ref 0), some (.int x1), some (.int x2), some (.int x3), some (.int x4), some (.int x5), some (.int x6), some (.int x7), none, none], [], zH I P)) rfl (fun c1 => ?_) (fun c1 => ?_)
    · rw [if_pos c1] at hx
      refine wp_blk (pc' := 204) (L' := [some (.ref 0), some (.int x1), some (.int x2), some (.int x3), some (.int x4), some (.int x5), some (.int x6), some (.int x7), none, none]) (st' := [.int x5, .int 10]) (h' := zH I P) 2 rfl ?_
      obtain ⟨y1, hy1, hx⟩ := zbind hx
      refine wp_callf (d := 93) (as := [.int x5]) (rest := [.int 10]) (Ld := [some (.int x5)]) (pc' := 207) (st' := [.int y1.1, .int 10]) (r := some (.int y1.1)) (h1 := zH y1.2 P) rfl rfl rfl rfl rfl rfl rfl rfl rfl (xp_N_bitCount _ _ _ _ hy1) ?_
      obtain ⟨y2, hy2, hx⟩ := zbind hx
      refine wp_callf (d := 108) (as := [.int 10, .int y1.1]) (rest := []) (Ld := [some (.int 10), some (.int y1.1), none, none]) (pc' := 210) (st' := [.int y2.1]) (r := some (.int y2.1)) (h1 := zH y2.2 P) rfl rfl rfl rfl rfl rfl rfl rfl rfl (xp_G_power _ _ _ _ _ hy2) ?_
      refine wp_blk (pc' := 216) (L' := [some (.ref 0), some (.int x1), some (.int x2), some (.int x3), some (.int x4), some (.int x5), some (.int x6), some (.int y2.1), none, none]) (st' := [.int y2.1, .int x6]) (h' := zH y2.2 P) 3 rfl ?_
      obtain ⟨y3, hy3, hx⟩ := zbind hx
      refine wp_callf (d := 109) (as := [.int x6, .int y2.1]) (rest := []) (Ld := [some (.int x6), some (.int y2.1), none, none, none, none]) (pc' := 219) (st' := [.int y3.1]) (r := some (.int y3.1)) (h1 := zH y3.2 P) rfl rfl rfl rfl rfl rfl rfl rfl rfl (xp_G_commonDivisor _ _ _ _ _ hy3) ?_
      refine wp_blk (pc' := 224) (L' := [some (.ref 0), some (.int x1), some (.int x2), some (.int x3), some (.int x4), some (.int x5), some (.int x6), some (.int y2.1), some (.int y3.1), none]) (st' := [.int 1, .int y3.1]) (h' := zH y3.2 P) 3 rfl ?_
      refine wp_ge (a := y3.1) (b := 1) (s1 := (230, [some (.ref 0), some (.int x1), some (.int x2), some (.int x3), some (.int x4), some (.int x5), some (.int x6), some (.int y2.1), some (.int y3.1), none], [], zH y3.2 P)) (s2 := (227, [some (.ref 0), some (.int x1), some (.int x2), some (.int x3), some (.int x4), some (.int x5), some (.int x6), some (.int y2.1), some (.int y3.1), none], [], zH y3.2 P)) rfl (fun c2 => ?_) (fun c2 => ?_)
      · rw [if_pos c2] at hx
        refine wp_blk (pc' := 232) (L' := [some (.ref 0), some (.int x1), some (.int x2), some (.int x3), some (.int x4), some (.int x5), some (.int x6), some (.int y2.1), some (.int y3.1), none]) (st' := [.int x4]) (h' := zH y3.2 P) 1 rfl ?_
        refine wp_ne (a := x4) (b := 0) (s1 := (243, [some (.ref 0), some (.int x1), some (.int x2), some (.int x3), some (.int x4), some (.int x5), some (.int x6), some (.int y2.1), some (.int y3.1), none], [], zH y3.2 P)) (s2 := (235, [some (.ref 0), some (.int x1), some (.int x2), some (.int x3), some (.int x4), some (.int x5), some (.int x6), some (.int y2.1), some (.int y3.1), none], [], zH y3.2 P)) rfl (fun c3 => ?_) (fun c3 => ?_)
        · rw [if_neg c3] at hx
          refine wp_blk (pc' := 247) (L' := [some (.ref 0), some (.int x1), some (.int x2), some (.int x3), some (.int x4), some (.int x5), some (.int x6), some (.int y2.1), some (.int y3.1), none]) (st' := [.int y3.1, .int y2.1]) (h' := zH y3.2 P) 2 rfl ?_
          obtain ⟨c4, hx⟩ := znite hx
          refine wp_nchk (P := y3.1 = 0) (pc' := 248) (L' := [some (.ref 0), some (.int x1), some (.int x2), some (.int x3), some (.int x4), some (.int x5), some (.int x6), some (.int y2.1), some (.int y3.1), none]) (st' := [.int (y2.1 / y3.1)]) (h' := zH y3.2 P) rfl c4 ?_
          cases hx
          exact wp_end rfl rfl ⟨rfl, rfl⟩
        · rw [if_pos c3] at hx
          refine wp_blk (pc' := 239) (L' := [some (.ref 0), some (.int x1), some (.int x2), some (.int x3), some (.int x4), some (.int x5), some (.int x6), some (.int y2.1), some (.int y3.1), none]) (st' := [.int y3.1, .int x6]) (h' := zH y3.2 P) 2 rfl ?_
          obtain ⟨c5, hx⟩ := znite hx
          refine wp_nchk (P := y3.1 = 0) (pc' := 240) (L' := [some (.ref 0), some (.int x1), some (.int x2), some (.int x3), some (.int x4), some (.int x5), some (.int x6), some (.int y2.1), some (.int y3.1), none]) (st' := [.int (x6 / y3.1)]) (h' := zH y3.2 P) rfl c5 ?_
          refine wp_blk (pc' := 248) (L' := [some (.ref 0), some (.int x1), some (.int x2), some (.int x3), some (.int x4), some (.int x5), some (.int x6), some (.int y2.1), some (.int y3.1), none]) (st' := [.int (x6 / y3.1)]) (h' := zH y3.2 P) 1 rfl ?_
          cases hx
          exact wp_end rfl rfl ⟨rfl, rfl⟩
      · rw [if_neg c2] at hx
        refine wp_blk (pc' := 229) (L' := [some (.ref 0), some (.int x1), some (.int x2), some (.int x3), some (.int x4), some (.int x5), some (.int x6), some (.int y2.1), some (.int y3.1), none]) (st' := [.int (-4)]) (h' := zH y3.2 P) 1 rfl ?_
        cases hx
        exact wp_end rfl rfl ⟨rfl, rfl⟩
    · rw [if_neg c1] at hx
      refine wp_blk (pc' := 106) (L' := [some (.ref 0), some (.int x1), some (.int x2), some (.int x3), some (.int x4), some (.int x5), some (.int x6), some (.int x7), none, none]) (st' := [.int (x7 &&& (x5 ^^^ (-1)))]) (h' := zH I P) 5 rfl ?_
      refine wp_ne (a := x7 &&& (x5 ^^^ (-1))) (b := 0) (s1 := (194, [some (.ref 0), some (.int x1), some (.int x2), some (.int x3), some (.int x4), some (.int x5), some (.int x6), some (.int x7), none, none], [], zH I P)) (s2 := (109, [some (.ref 0), some (.int x1), some (.int x2), some (.int x3), some (.int x4), some (.int x5), some (.int x6), some (.int x7), none, none], [], zH I P)) rfl (fun c6 => ?_) (fun c6 => ?_)
      · rw [if_neg c6] at hx
        refine wp_blk (pc' := 85) (L' := [some (.ref 0), some (.int x1), some (.int x2), some (.int x3), some (.int x4), some (.int x5), some (.int x6), some (.int (x7 + 1)), none, none]) (st' := []) (h' := zH I P) 2 rfl ?_
        exact ih _ _ _ _ _ _ _ _ _ hx
      · rw [if_pos c6] at hx
        refine wp_blk (pc' := 117) (L' := [some (.ref 0), some (.int x1), some (.int x2), some (.int x3), some (.int x4), some (.int x5), some (.int x6), some (.int x7), none, none]) (st' := [.ref 4, .ref 8]) (h' := zH I P) 4 rfl ?_
        refine wp_callf (d := 71) (as := [.ref 4]) (rest := [.ref 8]) (Ld := [some (.ref 4)]) (pc' := 120) (st' := [.int (f_M_goneBits 4 5 6 7 I), .ref 8]) (r := some (.int (f_M_goneBits 4 5 6 7 I))) (h1 := zH I P) rfl rfl rfl rfl rfl rfl rfl rfl rfl (sp_M_goneBits_4 I P) ?_
        refine wp_blk (pc' := 123) (L' := [some (.ref 0), some (.int x1), some (.int x2), some (.int x3), some (.int x4), some (.int x5), some (.int x6), some (.int x7), none, none]) (st' := [.int ((f_M_goneBits 4 5 6 7 I) ||| x7), .ref 8]) (h' := zH I P) 2 rfl ?_
        refine wp_callf (d := 72) (as := [.ref 8, .int ((f_M_goneBits 4 5 6 7 I) ||| x7)]) (rest := []) (Ld := [some (.ref 8), some (.int ((f_M_goneBits 4 5 6 7 I) ||| x7))]) (pc' := 126) (st' := []) (r := none) (h1 := zH (g_M_setGone 8 9 10 11 I ((f_M_goneBits 4 5 6 7 I) ||| x7)) P) rfl rfl rfl rfl rfl rfl rfl rfl rfl (sp_M_setGone_8 I P ((f_M_goneBits 4 5 6 7 I) ||| x7)) ?_
        refine wp_blk (pc' := 134) (L' := [some (.ref 0), some (.int x1), some (.int x2), some (.int x3), some (.int x4), some (.int x5), some (.int x6), some (.int x7), none, none]) (st' := [.ref 8, .ref 12]) (h' := zH (g_M_setGone 8 9 10 11 I ((f_M_goneBits 4 5 6 7 I) ||| x7)) P) 4 rfl ?_
        obtain ⟨y4, hy4, hx⟩ := zbind hx
        refine wp_callf (d := 50) (as := [.ref 12, .ref 8]) (rest := []) (Ld := [some (.ref 12), some (.ref 8)]) (pc' := 137) (st' := []) (r := none) (h1 := zH y4.2 P) rfl rfl rfl rfl rfl rfl rfl rfl rfl (xp_R_pass_8 _ _  _ hy4) ?_
        refine wp_blk (pc' := 139) (L' := [some (.ref 0), some (.int x1), some (.int x2), some (.int x3), some (.int x4), some (.int x5), some (.int x6), some (.int x7), none, none]) (st' := [.int x7]) (h' := zH y4.2 P) 1 rfl ?_
        obtain ⟨y5, hy5, hx⟩ := zbind hx
        refine wp_callf (d := 93) (as := [.int x7]) (rest := []) (Ld := [some (.int x7)]) (pc' := 142) (st' := [.int y5.1]) (r := some (.int y5.1)) (h1 := zH y5.2 P) rfl rfl rfl rfl rfl rfl rfl rfl rfl (xp_N_bitCount _ _ _ _ hy5) ?_
        refine wp_blk (pc' := 146) (L' := [some (.ref 0), some (.int x1), some (.int x2), some (.int x3), some (.int x4), some (.int x5), some (.int x6), some (.int x7), some (.int y5.1), none]) (st' := [.int x5]) (h' := zH y5.2 P) 2 rfl ?_
        obtain ⟨y6, hy6, hx⟩ := zbind hx
        refine wp_callf (d := 93) (as := [.int x5]) (rest := []) (Ld := [some (.int x5)]) (pc' := 149) (st' := [.int y6.1]) (r := some (.int y6.1)) (h1 := zH y6.2 P) rfl rfl rfl rfl rfl rfl rfl rfl rfl (xp_N_bitCount _ _ _ _ hy6) ?_
        refine wp_blk (pc' := 161) (L' := [some (.ref 0), some (.int x1), some (.int x2), some (.int x3), some (.int x4), some (.int x5), some (.int x6), some (.int x7), some (.int y5.1), some (.int (y6.1 - y5.1))]) (st' := [.int x1, .ref 12, .int x6]) (h' := zH y6.2 P) 7 rfl ?_
        refine wp_callf (d := 63) (as := [.ref 12, .int x1]) (rest := [.int x6]) (Ld := [some (.ref 12), some (.int x1)]) (pc' := 164) (st' := [.int (f_R_fineOf y6.2 x1), .int x6]) (r := some (.int (f_R_fineOf y6.2 x1))) (h1 := zH y6.2 P) rfl rfl rfl rfl rfl rfl rfl rfl rfl (sp_R_fineOf y6.2 P x1) ?_
        refine wp_callf (d := 62) (as := [.int (f_R_fineOf y6.2 x1)]) (rest := [.int x6]) (Ld := [some (.int (f_R_fineOf y6.2 x1))]) (pc' := 167) (st' := [.int (f_G_breadOf y6.2 (f_R_fineOf y6.2 x1)), .int x6]) (r := some (.int (f_G_breadOf y6.2 (f_R_fineOf y6.2 x1)))) (h1 := zH y6.2 P) rfl rfl rfl rfl rfl rfl rfl rfl rfl (sp_G_breadOf y6.2 P (f_R_fineOf y6.2 x1)) ?_
        refine wp_blk (pc' := 168) (L' := [some (.ref 0), some (.int x1), some (.int x2), some (.int x3), some (.int x4), some (.int x5), some (.int x6), some (.int x7), some (.int y5.1), some (.int (y6.1 - y5.1))]) (st' := [.int x2, .int (f_G_breadOf y6.2 (f_R_fineOf y6.2 x1)), .int x6]) (h' := zH y6.2 P) 1 rfl ?_
        refine wp_lt (a := f_G_breadOf y6.2 (f_R_fineOf y6.2 x1)) (b := x2) (s1 := (190, [some (.ref 0), some (.int x1), some (.int x2), some (.int x3), some (.int x4), some (.int x5), some (.int x6), some (.int x7), some (.int y5.1), some (.int (y6.1 - y5.1))], [.int x6], zH y6.2 P)) (s2 := (171, [some (.ref 0), some (.int x1), some (.int x2), some (.int x3), some (.int x4), some (.int x5), some (.int x6), some (.int x7), some (.int y5.1), some (.int (y6.1 - y5.1))], [.int x6], zH y6.2 P)) rfl (fun c7 => ?_) (fun c7 => ?_)
        · rw [if_pos c7] at hx
          refine wp_blk (pc' := 85) (L' := [some (.ref 0), some (.int x1), some (.int x2), some (.int x3), some (.int x4), some (.int x5), some (.int (x6 + 0)), some (.int (x7 + 1)), some (.int y5.1), some (.int (y6.1 - y5.1))]) (st' := []) (h' := zH y6.2 P) 5 rfl ?_
          exact wp_forget (ih _ _ _ _ _ _ _ _ _ hx) (zle_c (zle_c (zle_c (zle_c (zle_c (zle_c (zle_c (zle_c (zle_n (zle_n zle_nil))))))))))
        · rw [if_neg c7] at hx
          refine wp_blk (pc' := 174) (L' := [some (.ref 0), some (.int x1), some (.int x2), some (.int x3), some (.int x4), some (.int x5), some (.int x6), some (.int x7), some (.int y5.1), some (.int (y6.1 - y5.1))]) (st' := [.int y5.1, .int x3, .int x6]) (h' := zH y6.2 P) 2 rfl ?_
          obtain ⟨y7, hy7, hx⟩ := zbind hx
          refine wp_callf (d := 108) (as := [.int x3, .int y5.1]) (rest := [.int x6]) (Ld := [some (.int x3), some (.int y5.1), none, none]) (pc' := 177) (st' := [.int y7.1, .int x6]) (r := some (.int y7.1)) (h1 := zH y7.2 P) rfl rfl rfl rfl rfl rfl rfl rfl rfl (xp_G_power _ _ _ _ _ hy7) ?_
          refine wp_blk (pc' := 183) (L' := [some (.ref 0), some (.int x1), some (.int x2), some (.int x3), some (.int x4), some (.int x5), some (.int x6), some (.int x7), some (.int y5.1), some (.int (y6.1 - y5.1))]) (st' := [.int (y6.1 - y5.1), .int (10 - x3), .int y7.1, .int x6]) (h' := zH y7.2 P) 4 rfl ?_
          obtain ⟨y8, hy8, hx⟩ := zbind hx
          refine wp_callf (d := 108) (as := [.int (10 - x3), .int (y6.1 - y5.1)]) (rest := [.int y7.1, .int x6]) (Ld := [some (.int (10 - x3)), some (.int (y6.1 - y5.1)), none, none]) (pc' := 186) (st' := [.int y8.1, .int y7.1, .int x6]) (r := some (.int y8.1)) (h1 := zH y8.2 P) rfl rfl rfl rfl rfl rfl rfl rfl rfl (xp_G_power _ _ _ _ _ hy8) ?_
          refine wp_blk (pc' := 85) (L' := [some (.ref 0), some (.int x1), some (.int x2), some (.int x3), some (.int x4), some (.int x5), some (.int (x6 + (y7.1 * y8.1))), some (.int (x7 + 1)), some (.int y5.1), some (.int (y6.1 - y5.1))]) (st' := []) (h' := zH y8.2 P) 6 rfl ?_
          exact wp_forget (ih _ _ _ _ _ _ _ _ _ hx) (zle_c (zle_c (zle_c (zle_c (zle_c (zle_c (zle_c (zle_c (zle_n (zle_n zle_nil))))))))))
set_option maxRecDepth 100000 in
theorem xp_G_chance {X : Nat × (Nat → Int32)} (I : Nat → Nat → Int32) (P : Nat → Nat → Option Nat) (c b x p : Int32) (r : Int32 × (Nat → Nat → Int32)) (hx : x_G_chance I c b x p = some r) : Wf X 107 [some (.ref 0), some (.int c), some (.int b), some (.int x), some (.int p), none, none, none, none, none] (zH I P) (some (.int r.1)) (zH r.2 P) := by
  unfold Wf
  unfold x_G_chance at hx
  refine wp_blk (pc' := 5) (L' := [some (.ref 0), some (.int c), some (.int b), some (.int x), some (.int p), none, none, none, none, none]) (st' := [.int c, .ref 4]) (h' := zH I P) 3 rfl ?_
  refine wp_callf (d := 24) (as := [.ref 4, .int c]) (rest := []) (Ld := [some (.ref 4), some (.int c)]) (pc' := 8) (st' := [.int (f_M_has 4 5 6 7 I c)]) (r := some (.int (f_M_has 4 5 6 7 I c))) (h1 := zH I P) rfl rfl rfl rfl rfl rfl rfl rfl rfl (sp_M_has_4 I P c) ?_
  refine wp_eq (a := f_M_has 4 5 6 7 I c) (b := 0) (s1 := (37, [some (.ref 0), some (.int c), some (.int b), some (.int x), some (.int p), none, none, none, none, none], [], zH I P)) (s2 := (11, [some (.ref 0), some (.int c), some (.int b), some (.int x), some (.int p), none, none, none, none, none], [], zH I P)) rfl (fun c1 => ?_) (fun c1 => ?_)
  · rw [if_pos c1] at hx
    refine wp_blk (pc' := 38) (L' := [some (.ref 0), some (.int c), some (.int b), some (.int x), some (.int p), none, none, none, none, none]) (st' := [.int (-1)]) (h' := zH I P) 1 rfl ?_
    cases hx
    exact wp_end rfl rfl ⟨rfl, rfl⟩
  · rw [if_neg c1] at hx
    refine wp_blk (pc' := 13) (L' := [some (.ref 0), some (.int c), some (.int b), some (.int x), some (.int p), none, none, none, none, none]) (st' := [.int 3, .int b]) (h' := zH I P) 2 rfl ?_
    refine wp_callf (d := 25) (as := [.int b, .int 3]) (rest := []) (Ld := [some (.int b), some (.int 3)]) (pc' := 16) (st' := [.int (f_G_isOutside I b 3)]) (r := some (.int (f_G_isOutside I b 3))) (h1 := zH I P) rfl rfl rfl rfl rfl rfl rfl rfl rfl (sp_G_isOutside I P b 3) ?_
    refine wp_ne (a := f_G_isOutside I b 3) (b := 0) (s1 := (37, [some (.ref 0), some (.int c), some (.int b), some (.int x), some (.int p), none, none, none, none, none], [], zH I P)) (s2 := (19, [some (.ref 0), some (.int c), some (.int b), some (.int x), some (.int p), none, none, none, none, none], [], zH I P)) rfl (fun c2 => ?_) (fun c2 => ?_)
    · rw [if_neg c2] at hx
      refine wp_blk (pc' := 38) (L' := [some (.ref 0), some (.int c), some (.int b), some (.int x), some (.int p), none, none, none, none, none]) (st' := [.int (-1)]) (h' := zH I P) 1 rfl ?_
      cases hx
      exact wp_end rfl rfl ⟨rfl, rfl⟩
    · rw [if_pos c2] at hx
      refine wp_blk (pc' := 22) (L' := [some (.ref 0), some (.int c), some (.int b), some (.int x), some (.int p), none, none, none, none, none]) (st' := [.int 10, .int x]) (h' := zH I P) 2 rfl ?_
      refine wp_callf (d := 25) (as := [.int x, .int 10]) (rest := []) (Ld := [some (.int x), some (.int 10)]) (pc' := 25) (st' := [.int (f_G_isOutside I x 10)]) (r := some (.int (f_G_isOutside I x 10))) (h1 := zH I P) rfl rfl rfl rfl rfl rfl rfl rfl rfl (sp_G_isOutside I P x 10) ?_
      refine wp_ne (a := f_G_isOutside I x 10) (b := 0) (s1 := (37, [some (.ref 0), some (.int c), some (.int b), some (.int x), some (.int p), none, none, none, none, none], [], zH I P)) (s2 := (28, [some (.ref 0), some (.int c), some (.int b), some (.int x), some (.int p), none, none, none, none, none], [], zH I P)) rfl (fun c3 => ?_) (fun c3 => ?_)
      · rw [if_neg c3] at hx
        refine wp_blk (pc' := 38) (L' := [some (.ref 0), some (.int c), some (.int b), some (.int x), some (.int p), none, none, none, none, none]) (st' := [.int (-1)]) (h' := zH I P) 1 rfl ?_
        cases hx
        exact wp_end rfl rfl ⟨rfl, rfl⟩
      · rw [if_pos c3] at hx
        refine wp_blk (pc' := 31) (L' := [some (.ref 0), some (.int c), some (.int b), some (.int x), some (.int p), none, none, none, none, none]) (st' := [.int 1, .int p]) (h' := zH I P) 2 rfl ?_
        refine wp_callf (d := 25) (as := [.int p, .int 1]) (rest := []) (Ld := [some (.int p), some (.int 1)]) (pc' := 34) (st' := [.int (f_G_isOutside I p 1)]) (r := some (.int (f_G_isOutside I p 1))) (h1 := zH I P) rfl rfl rfl rfl rfl rfl rfl rfl rfl (sp_G_isOutside I P p 1) ?_
        refine wp_eq (a := f_G_isOutside I p 1) (b := 0) (s1 := (39, [some (.ref 0), some (.int c), some (.int b), some (.int x), some (.int p), none, none, none, none, none], [], zH I P)) (s2 := (37, [some (.ref 0), some (.int c), some (.int b), some (.int x), some (.int p), none, none, none, none, none], [], zH I P)) rfl (fun c4 => ?_) (fun c4 => ?_)
        · rw [if_pos c4] at hx
          refine wp_blk (pc' := 44) (L' := [some (.ref 0), some (.int c), some (.int b), some (.int x), some (.int p), none, none, none, none, none]) (st' := [.int c, .ref 4]) (h' := zH I P) 3 rfl ?_
          refine wp_callf (d := 44) (as := [.ref 4, .int c]) (rest := []) (Ld := [some (.ref 4), some (.int c)]) (pc' := 47) (st' := [.int (f_M_isGone 4 5 6 7 I c)]) (r := some (.int (f_M_isGone 4 5 6 7 I c))) (h1 := zH I P) rfl rfl rfl rfl rfl rfl rfl rfl rfl (sp_M_isGone_4 I P c) ?_
          refine wp_eq (a := f_M_isGone 4 5 6 7 I c) (b := 0) (s1 := (53, [some (.ref 0), some (.int c), some (.int b), some (.int x), some (.int p), none, none, none, none, none], [], zH I P)) (s2 := (50, [some (.ref 0), some (.int c), some (.int b), some (.int x), some (.int p), none, none, none, none, none], [], zH I P)) rfl (fun c5 => ?_) (fun c5 => ?_)
          · rw [if_pos c5] at hx
            refine wp_blk (pc' := 57) (L' := [some (.ref 0), some (.int c), some (.int b), some (.int x), some (.int p), none, none, none, none, none]) (st' := [.ref 4]) (h' := zH I P) 2 rfl ?_
            refine wp_callf (d := 90) (as := [.ref 4]) (rest := []) (Ld := [some (.ref 4)]) (pc' := 60) (st' := [.int (f_M_presentBits 4 5 6 7 I)]) (r := some (.int (f_M_presentBits 4 5 6 7 I))) (h1 := zH I P) rfl rfl rfl rfl rfl rfl rfl rfl rfl (sp_M_presentBits_4 I P) ?_
            refine wp_blk (pc' := 79) (L' := [some (.ref 0), some (.int c), some (.int b), some (.int x), some (.int p), some (.int ((f_M_presentBits 4 5 6 7 I) &&& ((1 <<< (c &&& 31)) ^^^ (-1)))), some (.int 0), none, none, none]) (st' := [.ref 4, .ref 8]) (h' := zH I P) 13 rfl ?_
            obtain ⟨y1, hy1, hx⟩ := zbind hx
            refine wp_callf (d := 37) (as := [.ref 8, .ref 4]) (rest := []) (Ld := [some (.ref 8), some (.ref 4)]) (pc' := 82) (st' := []) (r := none) (h1 := zH y1.2 P) rfl rfl rfl rfl rfl rfl rfl rfl rfl (xp_M_copy_8_4 _ _  _ hy1) ?_
            refine wp_blk (pc' := 85) (L' := [some (.ref 0), some (.int c), some (.int b), some (.int x), some (.int p), some (.int ((f_M_presentBits 4 5 6 7 I) &&& ((1 <<< (c &&& 31)) ^^^ (-1)))), some (.int 0), some (.int 0), none, none]) (st' := []) (h' := zH y1.2 P) 2 rfl ?_
            exact lp_G_chance_85 P _ _ _ _ _ _ _ _ _ _ hx
          · rw [if_neg c5] at hx
            refine wp_blk (pc' := 52) (L' := [some (.ref 0), some (.int c), some (.int b), some (.int x), some (.int p), none, none, none, none, none]) (st' := [.int (-2)]) (h' := zH I P) 1 rfl ?_
            cases hx
            exact wp_end rfl rfl ⟨rfl, rfl⟩
        · rw [if_neg c4] at hx
          refine wp_blk (pc' := 38) (L' := [some (.ref 0), some (.int c), some (.int b), some (.int x), some (.int p), none, none, none, none, none]) (st' := [.int (-1)]) (h' := zH I P) 1 rfl ?_
          cases hx
          exact wp_end rfl rfl ⟨rfl, rfl⟩
def x_G_drawOf (I : Nat → Nat → Int32) (z k : Int32) : Option (Int32 × (Nat → Nat → Int32)) := some (((((((7919 * ((z : Int32).toInt64)) + (6151 * ((k : Int32).toInt64))) + 1) * (((7919 * ((z : Int32).toInt64)) + (6151 * ((k : Int32).toInt64))) + 1)) - ((((7919 * ((z : Int32).toInt64)) + (6151 * ((k : Int32).toInt64))) + 1) * (((7919 * ((z : Int32).toInt64)) + (6151 * ((k : Int32).toInt64))) + 1)) / 65521 * 65521) / 8 : Int64).toInt32, I)
set_option maxRecDepth 100000 in
theorem xp_G_drawOf {X : Nat × (Nat → Int32)} (I : Nat → Nat → Int32) (P : Nat → Nat → Option Nat) (z k : Int32) (r : Int32 × (Nat → Nat → Int32)) (hx : x_G_drawOf I z k = some r) : Wf X 111 [some (.int z), some (.int k), none, none] (zH I P) (some (.int r.1)) (zH r.2 P) := by
  unfold Wf
  unfold x_G_drawOf at hx
  refine wp_blk (pc' := 28) (L' := [some (.int z), some (.int k), some (.long (((7919 * ((z : Int32).toInt64)) + (6151 * ((k : Int32).toInt64))) + 1)), none]) (st' := [.int (((((((7919 * ((z : Int32).toInt64)) + (6151 * ((k : Int32).toInt64))) + 1) * (((7919 * ((z : Int32).toInt64)) + (6151 * ((k : Int32).toInt64))) + 1)) - ((((7919 * ((z : Int32).toInt64)) + (6151 * ((k : Int32).toInt64))) + 1) * (((7919 * ((z : Int32).toInt64)) + (6151 * ((k : Int32).toInt64))) + 1)) / 65521 * 65521) / 8 : Int64).toInt32)]) (h' := zH I P) 20 rfl ?_
  cases hx
  exact wp_end rfl rfl ⟨rfl, rfl⟩
def x_G_swapDrawn (I : Nat → Nat → Int32) (d : Int32) : Option (Int32 × (Nat → Nat → Int32)) := if 1 ≤ f_M_size 8 9 10 11 I then (if (f_M_size 8 9 10 11 I) = 0 then none else (if (f_M_size 8 9 10 11 I) = 0 then none else (if d - d / (f_M_size 8 9 10 11 I) * (f_M_size 8 9 10 11 I) = (d / 8) - (d / 8) / (f_M_size 8 9 10 11 I) * (f_M_size 8 9 10 11 I) then (some (0, I)) else ((x_M_swap 8 9 10 11 I (d - d / (f_M_size 8 9 10 11 I) * (f_M_size 8 9 10 11 I)) ((d / 8) - (d / 8) / (f_M_size 8 9 10 11 I) * (f_M_size 8 9 10 11 I))).bind (fun q1 => some (0, q1.2)))))) else (some (0, I))
set_option maxRecDepth 100000 in
theorem xp_G_swapDrawn {X : Nat × (Nat → Int32)} (I : Nat → Nat → Int32) (P : Nat → Nat → Option Nat) (d : Int32) (r : Int32 × (Nat → Nat → Int32)) (hx : x_G_swapDrawn I d = some r) : Wf X 112 [some (.ref 0), some (.int d), none, none, none] (zH I P) (none) (zH r.2 P) := by
  unfold Wf
  unfold x_G_swapDrawn at hx
  refine wp_blk (pc' := 4) (L' := [some (.ref 0), some (.int d), none, none, none]) (st' := [.ref 8]) (h' := zH I P) 2 rfl ?_
  refine wp_callf (d := 36) (as := [.ref 8]) (rest := []) (Ld := [some (.ref 8)]) (pc' := 7) (st' := [.int (f_M_size 8 9 10 11 I)]) (r := some (.int (f_M_size 8 9 10 11 I))) (h1 := zH I P) rfl rfl rfl rfl rfl rfl rfl rfl rfl (sp_M_size_8 I P) ?_
  refine wp_blk (pc' := 10) (L' := [some (.ref 0), some (.int d), some (.int (f_M_size 8 9 10 11 I)), none, none]) (st' := [.int 1, .int (f_M_size 8 9 10 11 I)]) (h' := zH I P) 3 rfl ?_
  refine wp_ge (a := f_M_size 8 9 10 11 I) (b := 1) (s1 := (14, [some (.ref 0), some (.int d), some (.int (f_M_size 8 9 10 11 I)), none, none], [], zH I P)) (s2 := (13, [some (.ref 0), some (.int d), some (.int (f_M_size 8 9 10 11 I)), none, none], [], zH I P)) rfl (fun c1 => ?_) (fun c1 => ?_)
  · rw [if_pos c1] at hx
    refine wp_blk (pc' := 16) (L' := [some (.ref 0), some (.int d), some (.int (f_M_size 8 9 10 11 I)), none, none]) (st' := [.int (f_M_size 8 9 10 11 I), .int d]) (h' := zH I P) 2 rfl ?_
    obtain ⟨c2, hx⟩ := znite hx
    refine wp_nchk (P := (f_M_size 8 9 10 11 I) = 0) (pc' := 17) (L' := [some (.ref 0), some (.int d), some (.int (f_M_size 8 9 10 11 I)), none, none]) (st' := [.int (d - d / (f_M_size 8 9 10 11 I) * (f_M_size 8 9 10 11 I))]) (h' := zH I P) rfl c2 ?_
    refine wp_blk (pc' := 23) (L' := [some (.ref 0), some (.int d), some (.int (f_M_size 8 9 10 11 I)), some (.int (d - d / (f_M_size 8 9 10 11 I) * (f_M_size 8 9 10 11 I))), none]) (st' := [.int (f_M_size 8 9 10 11 I), .int (d / 8)]) (h' := zH I P) 5 rfl ?_
    obtain ⟨c3, hx⟩ := znite hx
    refine wp_nchk (P := (f_M_size 8 9 10 11 I) = 0) (pc' := 24) (L' := [some (.ref 0), some (.int d), some (.int (f_M_size 8 9 10 11 I)), some (.int (d - d / (f_M_size 8 9 10 11 I) * (f_M_size 8 9 10 11 I))), none]) (st' := [.int ((d / 8) - (d / 8) / (f_M_size 8 9 10 11 I) * (f_M_size 8 9 10 11 I))]) (h' := zH I P) rfl c3 ?_
    refine wp_blk (pc' := 29) (L' := [some (.ref 0), some (.int d), some (.int (f_M_size 8 9 10 11 I)), some (.int (d - d / (f_M_size 8 9 10 11 I) * (f_M_size 8 9 10 11 I))), some (.int ((d / 8) - (d / 8) / (f_M_size 8 9 10 11 I) * (f_M_size 8 9 10 11 I)))]) (st' := [.int ((d / 8) - (d / 8) / (f_M_size 8 9 10 11 I) * (f_M_size 8 9 10 11 I)), .int (d - d / (f_M_size 8 9 10 11 I) * (f_M_size 8 9 10 11 I))]) (h' := zH I P) 3 rfl ?_
    refine wp_eq (a := d - d / (f_M_size 8 9 10 11 I) * (f_M_size 8 9 10 11 I)) (b := (d / 8) - (d / 8) / (f_M_size 8 9 10 11 I) * (f_M_size 8 9 10 11 I)) (s1 := (42, [some (.ref 0), some (.int d), some (.int (f_M_size 8 9 10 11 I)), some (.int (d - d / (f_M_size 8 9 10 11 I) * (f_M_size 8 9 10 11 I))), some (.int ((d / 8) - (d / 8) / (f_M_size 8 9 10 11 I) * (f_M_size 8 9 10 11 I)))], [], zH I P)) (s2 := (32, [some (.ref 0), some (.int d), some (.int (f_M_size 8 9 10 11 I)), some (.int (d - d / (f_M_size 8 9 10 11 I) * (f_M_size 8 9 10 11 I))), some (.int ((d / 8) - (d / 8) / (f_M_size 8 9 10 11 I) * (f_M_size 8 9 10 11 I)))], [], zH I P)) rfl (fun c4 => ?_) (fun c4 => ?_)
    · rw [if_pos c4] at hx
      cases hx
      exact wp_end rfl rfl ⟨rfl, rfl⟩
    · rw [if_neg c4] at hx
      refine wp_blk (pc' := 39) (L' := [some (.ref 0), some (.int d), some (.int (f_M_size 8 9 10 11 I)), some (.int (d - d / (f_M_size 8 9 10 11 I) * (f_M_size 8 9 10 11 I))), some (.int ((d / 8) - (d / 8) / (f_M_size 8 9 10 11 I) * (f_M_size 8 9 10 11 I)))]) (st' := [.int ((d / 8) - (d / 8) / (f_M_size 8 9 10 11 I) * (f_M_size 8 9 10 11 I)), .int (d - d / (f_M_size 8 9 10 11 I) * (f_M_size 8 9 10 11 I)), .ref 8]) (h' := zH I P) 4 rfl ?_
      obtain ⟨y1, hy1, hx⟩ := zbind hx
      refine wp_callf (d := 69) (as := [.ref 8, .int (d - d / (f_M_size 8 9 10 11 I) * (f_M_size 8 9 10 11 I)), .int ((d / 8) - (d / 8) / (f_M_size 8 9 10 11 I) * (f_M_size 8 9 10 11 I))]) (rest := []) (Ld := [some (.ref 8), some (.int (d - d / (f_M_size 8 9 10 11 I) * (f_M_size 8 9 10 11 I))), some (.int ((d / 8) - (d / 8) / (f_M_size 8 9 10 11 I) * (f_M_size 8 9 10 11 I))), none, none]) (pc' := 42) (st' := []) (r := none) (h1 := zH y1.2 P) rfl rfl rfl rfl rfl rfl rfl rfl rfl (xp_M_swap_8 _ _ _ _ _ hy1) ?_
      cases hx
      exact wp_end rfl rfl ⟨rfl, rfl⟩
  · rw [if_neg c1] at hx
    cases hx
    exact wp_end rfl rfl ⟨rfl, rfl⟩
def l_G_year_51 : Nat → (Nat → Nat → Int32) → Int32 → Int32 → Int32 → Int32 → Int32 → Option (Int32 × (Nat → Nat → Int32))
  | 0, _, _, _, _, _, _ => none
  | n + 1, I, x1, x2, x3, x4, x5 => if x2 ≤ x5 then (if x3 = 0 then (some (f_M_stoneNow 8 9 10 11 I, I)) else (some (x4, I))) else ((x_G_drawOf I x1 x5).bind (fun q2 => (x_G_swapDrawn q2.2 q2.1).bind (fun q3 => (x_R_pass 8 9 10 11 q3.2).bind (fun q4 => (x_R_branBits (g_M_endDay 8 9 10 11 q4.2 (f_R_stoneThen q4.2))).bind (fun q5 => (x_N_bitCount q5.2 q5.1).bind (fun q6 => l_G_year_51 n q6.2 x1 x2 x3 (x4 + q6.1) (x5 + 1)))))))
def x_G_year (I : Nat → Nat → Int32) (z n w : Int32) : Option (Int32 × (Nat → Nat → Int32)) := if f_G_isOutside I z 9999 = 0 then (if n < 1 then (some (-1, I)) else (if f_G_isOutside I n 60 = 0 then (if f_G_isOutside I w 1 = 0 then ((x_M_copy 8 9 10 11 4 5 6 7 I).bind (fun q1 => l_G_year_51 1000 q1.2 z n w 0 0)) else (some (-1, I))) else (some (-1, I)))) else (some (-1, I))
set_option maxRecDepth 100000 in
theorem lp_G_year_51 {X : Nat × (Nat → Int32)} (P : Nat → Nat → Option Nat) : ∀ (n : Nat) (I : Nat → Nat → Int32) (x1 : Int32) (x2 : Int32) (x3 : Int32) (x4 : Int32) (x5 : Int32) (r : Int32 × (Nat → Nat → Int32)), l_G_year_51 n I x1 x2 x3 x4 x5 = some r → Wp X 110 51 [some (.ref 0), some (.int x1), some (.int x2), some (.int x3), some (.int x4), some (.int x5)] [] (zH I P) (fun r2 h2 => r2 = some (.int r.1) ∧ h2 = zH r.2 P) := by
  intro n
  induction n with
  | zero => intro I x1 x2 x3 x4 x5 r hx; cases hx
  | succ n ih =>
    intro I x1 x2 x3 x4 x5 r hx
    rw [l_G_year_51] at hx
    refine wp_blk (pc' := 54) (L' := [some (.ref 0), some (.int x1), some (.int x2), some (.int x3), some (.int x4), some (.int x5)]) (st' := [.int x2, .int x5]) (h' := zH I P) 2 rfl ?_
    refine wp_ge (a := x5) (b := x2) (s1 := (113, [some (.ref 0), some (.int x1), some (.int x2), some (.int x3), some (.int x4), some (.int x5)], [], zH I P)) (s2 := (57, [some (.ref 0), some (.int x1), some (.int x2), some (.int x3), some (.int x4), some (.int x5)], [], zH I P)) rfl (fun c1 => ?_) (fun c1 => ?_)
    · rw [if_pos c1] at hx
      refine wp_blk (pc' := 114) (L' := [some (.ref 0), some (.int x1), some (.int x2), some (.int x3), some (.int x4), some (.int x5)]) (st' := [.int x3]) (h' := zH I P) 1 rfl ?_
      refine wp_ne (a := x3) (b := 0) (s1 := (127, [some (.ref 0), some (.int x1), some (.int x2), some (.int x3), some (.int x4), some (.int x5)], [], zH I P)) (s2 := (117, [some (.ref 0), some (.int x1), some (.int x2), some (.int x3), some (.int x4), some (.int x5)], [], zH I P)) rfl (fun c2 => ?_) (fun c2 => ?_)
      · rw [if_neg c2] at hx
        refine wp_blk (pc' := 129) (L' := [some (.ref 0), some (.int x1), some (.int x2), some (.int x3), some (.int x4), some (.int x5)]) (st' := [.int x4]) (h' := zH I P) 1 rfl ?_
        cases hx
        exact wp_end rfl rfl ⟨rfl, rfl⟩
      · rw [if_pos c2] at hx
        refine wp_blk (pc' := 121) (L' := [some (.ref 0), some (.int x1), some (.int x2), some (.int x3), some (.int x4), some (.int x5)]) (st' := [.ref 8]) (h' := zH I P) 2 rfl ?_
        refine wp_callf (d := 54) (as := [.ref 8]) (rest := []) (Ld := [some (.ref 8)]) (pc' := 124) (st' := [.int (f_M_stoneNow 8 9 10 11 I)]) (r := some (.int (f_M_stoneNow 8 9 10 11 I))) (h1 := zH I P) rfl rfl rfl rfl rfl rfl rfl rfl rfl (sp_M_stoneNow_8 I P) ?_
        refine wp_blk (pc' := 129) (L' := [some (.ref 0), some (.int x1), some (.int x2), some (.int x3), some (.int x4), some (.int x5)]) (st' := [.int (f_M_stoneNow 8 9 10 11 I)]) (h' := zH I P) 1 rfl ?_
        cases hx
        exact wp_end rfl rfl ⟨rfl, rfl⟩
    · rw [if_neg c1] at hx
      refine wp_blk (pc' := 61) (L' := [some (.ref 0), some (.int x1), some (.int x2), some (.int x3), some (.int x4), some (.int x5)]) (st' := [.int x5, .int x1, .ref 0]) (h' := zH I P) 3 rfl ?_
      obtain ⟨y1, hy1, hx⟩ := zbind hx
      refine wp_callf (d := 111) (as := [.int x1, .int x5]) (rest := [.ref 0]) (Ld := [some (.int x1), some (.int x5), none, none]) (pc' := 64) (st' := [.int y1.1, .ref 0]) (r := some (.int y1.1)) (h1 := zH y1.2 P) rfl rfl rfl rfl rfl rfl rfl rfl rfl (xp_G_drawOf _ _ _ _ _ hy1) ?_
      obtain ⟨y2, hy2, hx⟩ := zbind hx
      refine wp_callf (d := 112) (as := [.ref 0, .int y1.1]) (rest := []) (Ld := [some (.ref 0), some (.int y1.1), none, none, none]) (pc' := 67) (st' := []) (r := none) (h1 := zH y2.2 P) rfl rfl rfl rfl rfl rfl rfl rfl rfl (xp_G_swapDrawn _ _ _ _ hy2) ?_
      refine wp_blk (pc' := 75) (L' := [some (.ref 0), some (.int x1), some (.int x2), some (.int x3), some (.int x4), some (.int x5)]) (st' := [.ref 8, .ref 12]) (h' := zH y2.2 P) 4 rfl ?_
      obtain ⟨y3, hy3, hx⟩ := zbind hx
      refine wp_callf (d := 50) (as := [.ref 12, .ref 8]) (rest := []) (Ld := [some (.ref 12), some (.ref 8)]) (pc' := 78) (st' := []) (r := none) (h1 := zH y3.2 P) rfl rfl rfl rfl rfl rfl rfl rfl rfl (xp_R_pass_8 _ _  _ hy3) ?_
      refine wp_blk (pc' := 86) (L' := [some (.ref 0), some (.int x1), some (.int x2), some (.int x3), some (.int x4), some (.int x5)]) (st' := [.ref 12, .ref 8]) (h' := zH y3.2 P) 4 rfl ?_
      refine wp_callf (d := 75) (as := [.ref 12]) (rest := [.ref 8]) (Ld := [some (.ref 12)]) (pc' := 89) (st' := [.int (f_R_stoneThen y3.2), .ref 8]) (r := some (.int (f_R_stoneThen y3.2))) (h1 := zH y3.2 P) rfl rfl rfl rfl rfl rfl rfl rfl rfl (sp_R_stoneThen y3.2 P) ?_
      refine wp_callf (d := 76) (as := [.ref 8, .int (f_R_stoneThen y3.2)]) (rest := []) (Ld := [some (.ref 8), some (.int (f_R_stoneThen y3.2))]) (pc' := 92) (st' := []) (r := none) (h1 := zH (g_M_endDay 8 9 10 11 y3.2 (f_R_stoneThen y3.2)) P) rfl rfl rfl rfl rfl rfl rfl rfl rfl (sp_M_endDay_8 y3.2 P (f_R_stoneThen y3.2)) ?_
      refine wp_blk (pc' := 98) (L' := [some (.ref 0), some (.int x1), some (.int x2), some (.int x3), some (.int x4), some (.int x5)]) (st' := [.ref 12, .int x4]) (h' := zH (g_M_endDay 8 9 10 11 y3.2 (f_R_stoneThen y3.2)) P) 3 rfl ?_
      obtain ⟨y4, hy4, hx⟩ := zbind hx
      refine wp_callf (d := 91) (as := [.ref 12]) (rest := [.int x4]) (Ld := [some (.ref 12), none, none, none]) (pc' := 101) (st' := [.int y4.1, .int x4]) (r := some (.int y4.1)) (h1 := zH y4.2 P) rfl rfl rfl rfl rfl rfl rfl rfl rfl (xp_R_branBits _ _  _ hy4) ?_
      obtain ⟨y5, hy5, hx⟩ := zbind hx
      refine wp_callf (d := 93) (as := [.int y4.1]) (rest := [.int x4]) (Ld := [some (.int y4.1)]) (pc' := 104) (st' := [.int y5.1, .int x4]) (r := some (.int y5.1)) (h1 := zH y5.2 P) rfl rfl rfl rfl rfl rfl rfl rfl rfl (xp_N_bitCount _ _ _ _ hy5) ?_
      refine wp_blk (pc' := 51) (L' := [some (.ref 0), some (.int x1), some (.int x2), some (.int x3), some (.int (x4 + y5.1)), some (.int (x5 + 1))]) (st' := []) (h' := zH y5.2 P) 4 rfl ?_
      exact ih _ _ _ _ _ _ _ hx
set_option maxRecDepth 100000 in
theorem xp_G_year {X : Nat × (Nat → Int32)} (I : Nat → Nat → Int32) (P : Nat → Nat → Option Nat) (z n w : Int32) (r : Int32 × (Nat → Nat → Int32)) (hx : x_G_year I z n w = some r) : Wf X 110 [some (.ref 0), some (.int z), some (.int n), some (.int w), none, none] (zH I P) (some (.int r.1)) (zH r.2 P) := by
  unfold Wf
  unfold x_G_year at hx
  refine wp_blk (pc' := 4) (L' := [some (.ref 0), some (.int z), some (.int n), some (.int w), none, none]) (st' := [.int 9999, .int z]) (h' := zH I P) 2 rfl ?_
  refine wp_callf (d := 25) (as := [.int z, .int 9999]) (rest := []) (Ld := [some (.int z), some (.int 9999)]) (pc' := 7) (st' := [.int (f_G_isOutside I z 9999)]) (r := some (.int (f_G_isOutside I z 9999))) (h1 := zH I P) rfl rfl rfl rfl rfl rfl rfl rfl rfl (sp_G_isOutside I P z 9999) ?_
  refine wp_ne (a := f_G_isOutside I z 9999) (b := 0) (s1 := (32, [some (.ref 0), some (.int z), some (.int n), some (.int w), none, none], [], zH I P)) (s2 := (10, [some (.ref 0), some (.int z), some (.int n), some (.int w), none, none], [], zH I P)) rfl (fun c1 => ?_) (fun c1 => ?_)
  · rw [if_neg c1] at hx
    refine wp_blk (pc' := 33) (L' := [some (.ref 0), some (.int z), some (.int n), some (.int w), none, none]) (st' := [.int (-1)]) (h' := zH I P) 1 rfl ?_
    cases hx
    exact wp_end rfl rfl ⟨rfl, rfl⟩
  · rw [if_pos c1] at hx
    refine wp_blk (pc' := 12) (L' := [some (.ref 0), some (.int z), some (.int n), some (.int w), none, none]) (st' := [.int 1, .int n]) (h' := zH I P) 2 rfl ?_
    refine wp_lt (a := n) (b := 1) (s1 := (32, [some (.ref 0), some (.int z), some (.int n), some (.int w), none, none], [], zH I P)) (s2 := (15, [some (.ref 0), some (.int z), some (.int n), some (.int w), none, none], [], zH I P)) rfl (fun c2 => ?_) (fun c2 => ?_)
    · rw [if_pos c2] at hx
      refine wp_blk (pc' := 33) (L' := [some (.ref 0), some (.int z), some (.int n), some (.int w), none, none]) (st' := [.int (-1)]) (h' := zH I P) 1 rfl ?_
      cases hx
      exact wp_end rfl rfl ⟨rfl, rfl⟩
    · rw [if_neg c2] at hx
      refine wp_blk (pc' := 18) (L' := [some (.ref 0), some (.int z), some (.int n), some (.int w), none, none]) (st' := [.int 60, .int n]) (h' := zH I P) 2 rfl ?_
      refine wp_callf (d := 25) (as := [.int n, .int 60]) (rest := []) (Ld := [some (.int n), some (.int 60)]) (pc' := 21) (st' := [.int (f_G_isOutside I n 60)]) (r := some (.int (f_G_isOutside I n 60))) (h1 := zH I P) rfl rfl rfl rfl rfl rfl rfl rfl rfl (sp_G_isOutside I P n 60) ?_
      refine wp_ne (a := f_G_isOutside I n 60) (b := 0) (s1 := (32, [some (.ref 0), some (.int z), some (.int n), some (.int w), none, none], [], zH I P)) (s2 := (24, [some (.ref 0), some (.int z), some (.int n), some (.int w), none, none], [], zH I P)) rfl (fun c3 => ?_) (fun c3 => ?_)
      · rw [if_neg c3] at hx
        refine wp_blk (pc' := 33) (L' := [some (.ref 0), some (.int z), some (.int n), some (.int w), none, none]) (st' := [.int (-1)]) (h' := zH I P) 1 rfl ?_
        cases hx
        exact wp_end rfl rfl ⟨rfl, rfl⟩
      · rw [if_pos c3] at hx
        refine wp_blk (pc' := 26) (L' := [some (.ref 0), some (.int z), some (.int n), some (.int w), none, none]) (st' := [.int 1, .int w]) (h' := zH I P) 2 rfl ?_
        refine wp_callf (d := 25) (as := [.int w, .int 1]) (rest := []) (Ld := [some (.int w), some (.int 1)]) (pc' := 29) (st' := [.int (f_G_isOutside I w 1)]) (r := some (.int (f_G_isOutside I w 1))) (h1 := zH I P) rfl rfl rfl rfl rfl rfl rfl rfl rfl (sp_G_isOutside I P w 1) ?_
        refine wp_eq (a := f_G_isOutside I w 1) (b := 0) (s1 := (34, [some (.ref 0), some (.int z), some (.int n), some (.int w), none, none], [], zH I P)) (s2 := (32, [some (.ref 0), some (.int z), some (.int n), some (.int w), none, none], [], zH I P)) rfl (fun c4 => ?_) (fun c4 => ?_)
        · rw [if_pos c4] at hx
          refine wp_blk (pc' := 45) (L' := [some (.ref 0), some (.int z), some (.int n), some (.int w), some (.int 0), none]) (st' := [.ref 4, .ref 8]) (h' := zH I P) 6 rfl ?_
          obtain ⟨y1, hy1, hx⟩ := zbind hx
          refine wp_callf (d := 37) (as := [.ref 8, .ref 4]) (rest := []) (Ld := [some (.ref 8), some (.ref 4)]) (pc' := 48) (st' := []) (r := none) (h1 := zH y1.2 P) rfl rfl rfl rfl rfl rfl rfl rfl rfl (xp_M_copy_8_4 _ _  _ hy1) ?_
          refine wp_blk (pc' := 51) (L' := [some (.ref 0), some (.int z), some (.int n), some (.int w), some (.int 0), some (.int 0)]) (st' := []) (h' := zH y1.2 P) 2 rfl ?_
          exact lp_G_year_51 P _ _ _ _ _ _ _ _ hx
        · rw [if_neg c4] at hx
          refine wp_blk (pc' := 33) (L' := [some (.ref 0), some (.int z), some (.int n), some (.int w), none, none]) (st' := [.int (-1)]) (h' := zH I P) 1 rfl ?_
          cases hx
          exact wp_end rfl rfl ⟨rfl, rfl⟩
def x_G_branToday (I : Nat → Nat → Int32) : Option (Int32 × (Nat → Nat → Int32)) := (x_R_pass 4 5 6 7 I).bind (fun q1 => (x_R_branBits q1.2).bind (fun q2 => (x_N_bitCount q2.2 q2.1).bind (fun q3 => some (q3.1, q3.2))))
set_option maxRecDepth 100000 in
theorem xp_G_branToday {X : Nat × (Nat → Int32)} (I : Nat → Nat → Int32) (P : Nat → Nat → Option Nat) (r : Int32 × (Nat → Nat → Int32)) (hx : x_G_branToday I = some r) : Wf X 116 [some (.ref 0)] (zH I P) (some (.int r.1)) (zH r.2 P) := by
  unfold Wf
  unfold x_G_branToday at hx
  refine wp_blk (pc' := 8) (L' := [some (.ref 0)]) (st' := [.ref 4, .ref 12]) (h' := zH I P) 4 rfl ?_
  obtain ⟨y1, hy1, hx⟩ := zbind hx
  refine wp_callf (d := 50) (as := [.ref 12, .ref 4]) (rest := []) (Ld := [some (.ref 12), some (.ref 4)]) (pc' := 11) (st' := []) (r := none) (h1 := zH y1.2 P) rfl rfl rfl rfl rfl rfl rfl rfl rfl (xp_R_pass_4 _ _  _ hy1) ?_
  refine wp_blk (pc' := 15) (L' := [some (.ref 0)]) (st' := [.ref 12]) (h' := zH y1.2 P) 2 rfl ?_
  obtain ⟨y2, hy2, hx⟩ := zbind hx
  refine wp_callf (d := 91) (as := [.ref 12]) (rest := []) (Ld := [some (.ref 12), none, none, none]) (pc' := 18) (st' := [.int y2.1]) (r := some (.int y2.1)) (h1 := zH y2.2 P) rfl rfl rfl rfl rfl rfl rfl rfl rfl (xp_R_branBits _ _  _ hy2) ?_
  obtain ⟨y3, hy3, hx⟩ := zbind hx
  refine wp_callf (d := 93) (as := [.int y2.1]) (rest := []) (Ld := [some (.int y2.1)]) (pc' := 21) (st' := [.int y3.1]) (r := some (.int y3.1)) (h1 := zH y3.2 P) rfl rfl rfl rfl rfl rfl rfl rfl rfl (xp_N_bitCount _ _ _ _ hy3) ?_
  cases hx
  exact wp_end rfl rfl ⟨rfl, rfl⟩
def x_G_count (I : Nat → Nat → Int32) (w : Int32) : Option (Int32 × (Nat → Nat → Int32)) := if f_G_isOutside I w 8 = 0 then (if w = 0 then (some (f_M_size 4 5 6 7 I, I)) else (if w = 1 then ((x_N_bitCount I (f_M_goneBits 4 5 6 7 I)).bind (fun q1 => some (q1.1, q1.2))) else (if w = 2 then (some (f_M_stoneNow 4 5 6 7 I, I)) else (if w = 3 then (some (f_M_daysGone 4 5 6 7 I, I)) else (if w = 4 then ((x_G_branToday I).bind (fun q2 => some (q2.1, q2.2))) else (if w = 5 then (some (f_V_size I, I)) else (if w = 6 then (some (f_H1_size I, I)) else (if w = 7 then (some (f_H2_size I, I)) else (some (f_S_size I, I)))))))))) else (some (-1, I))
set_option maxRecDepth 100000 in
theorem xp_G_count {X : Nat × (Nat → Int32)} (I : Nat → Nat → Int32) (P : Nat → Nat → Option Nat) (w : Int32) (r : Int32 × (Nat → Nat → Int32)) (hx : x_G_count I w = some r) : Wf X 115 [some (.ref 0), some (.int w)] (zH I P) (some (.int r.1)) (zH r.2 P) := by
  unfold Wf
  unfold x_G_count at hx
  refine wp_blk (pc' := 3) (L' := [some (.ref 0), some (.int w)]) (st' := [.int 8, .int w]) (h' := zH I P) 2 rfl ?_
  refine wp_callf (d := 25) (as := [.int w, .int 8]) (rest := []) (Ld := [some (.int w), some (.int 8)]) (pc' := 6) (st' := [.int (f_G_isOutside I w 8)]) (r := some (.int (f_G_isOutside I w 8))) (h1 := zH I P) rfl rfl rfl rfl rfl rfl rfl rfl rfl (sp_G_isOutside I P w 8) ?_
  refine wp_eq (a := f_G_isOutside I w 8) (b := 0) (s1 := (11, [some (.ref 0), some (.int w)], [], zH I P)) (s2 := (9, [some (.ref 0), some (.int w)], [], zH I P)) rfl (fun c1 => ?_) (fun c1 => ?_)
  · rw [if_pos c1] at hx
    refine wp_blk (pc' := 12) (L' := [some (.ref 0), some (.int w)]) (st' := [.int w]) (h' := zH I P) 1 rfl ?_
    by_cases c2 : w = 0
    · rw [if_pos c2] at hx
      refine wp_swk (pc' := 60) (L' := [some (.ref 0), some (.int w)]) (st' := []) (h' := zH I P) c2 rfl ?_
      refine wp_blk (pc' := 64) (L' := [some (.ref 0), some (.int w)]) (st' := [.ref 4]) (h' := zH I P) 2 rfl ?_
      refine wp_callf (d := 36) (as := [.ref 4]) (rest := []) (Ld := [some (.ref 4)]) (pc' := 67) (st' := [.int (f_M_size 4 5 6 7 I)]) (r := some (.int (f_M_size 4 5 6 7 I))) (h1 := zH I P) rfl rfl rfl rfl rfl rfl rfl rfl rfl (sp_M_size_4 I P) ?_
      cases hx
      exact wp_end rfl rfl ⟨rfl, rfl⟩
    rw [if_neg c2] at hx
    by_cases c3 : w = 1
    · rw [if_pos c3] at hx
      refine wp_swk (pc' := 68) (L' := [some (.ref 0), some (.int w)]) (st' := []) (h' := zH I P) c3 rfl ?_
      refine wp_blk (pc' := 72) (L' := [some (.ref 0), some (.int w)]) (st' := [.ref 4]) (h' := zH I P) 2 rfl ?_
      refine wp_callf (d := 71) (as := [.ref 4]) (rest := []) (Ld := [some (.ref 4)]) (pc' := 75) (st' := [.int (f_M_goneBits 4 5 6 7 I)]) (r := some (.int (f_M_goneBits 4 5 6 7 I))) (h1 := zH I P) rfl rfl rfl rfl rfl rfl rfl rfl rfl (sp_M_goneBits_4 I P) ?_
      obtain ⟨y1, hy1, hx⟩ := zbind hx
      refine wp_callf (d := 93) (as := [.int (f_M_goneBits 4 5 6 7 I)]) (rest := []) (Ld := [some (.int (f_M_goneBits 4 5 6 7 I))]) (pc' := 78) (st' := [.int y1.1]) (r := some (.int y1.1)) (h1 := zH y1.2 P) rfl rfl rfl rfl rfl rfl rfl rfl rfl (xp_N_bitCount _ _ _ _ hy1) ?_
      cases hx
      exact wp_end rfl rfl ⟨rfl, rfl⟩
    rw [if_neg c3] at hx
    by_cases c4 : w = 2
    · rw [if_pos c4] at hx
      refine wp_swk (pc' := 79) (L' := [some (.ref 0), some (.int w)]) (st' := []) (h' := zH I P) c4 rfl ?_
      refine wp_blk (pc' := 83) (L' := [some (.ref 0), some (.int w)]) (st' := [.ref 4]) (h' := zH I P) 2 rfl ?_
      refine wp_callf (d := 54) (as := [.ref 4]) (rest := []) (Ld := [some (.ref 4)]) (pc' := 86) (st' := [.int (f_M_stoneNow 4 5 6 7 I)]) (r := some (.int (f_M_stoneNow 4 5 6 7 I))) (h1 := zH I P) rfl rfl rfl rfl rfl rfl rfl rfl rfl (sp_M_stoneNow_4 I P) ?_
      cases hx
      exact wp_end rfl rfl ⟨rfl, rfl⟩
    rw [if_neg c4] at hx
    by_cases c5 : w = 3
    · rw [if_pos c5] at hx
      refine wp_swk (pc' := 87) (L' := [some (.ref 0), some (.int w)]) (st' := []) (h' := zH I P) c5 rfl ?_
      refine wp_blk (pc' := 91) (L' := [some (.ref 0), some (.int w)]) (st' := [.ref 4]) (h' := zH I P) 2 rfl ?_
      refine wp_callf (d := 77) (as := [.ref 4]) (rest := []) (Ld := [some (.ref 4)]) (pc' := 94) (st' := [.int (f_M_daysGone 4 5 6 7 I)]) (r := some (.int (f_M_daysGone 4 5 6 7 I))) (h1 := zH I P) rfl rfl rfl rfl rfl rfl rfl rfl rfl (sp_M_daysGone_4 I P) ?_
      cases hx
      exact wp_end rfl rfl ⟨rfl, rfl⟩
    rw [if_neg c5] at hx
    by_cases c6 : w = 4
    · rw [if_pos c6] at hx
      refine wp_swk (pc' := 95) (L' := [some (.ref 0), some (.int w)]) (st' := []) (h' := zH I P) c6 rfl ?_
      refine wp_blk (pc' := 96) (L' := [some (.ref 0), some (.int w)]) (st' := [.ref 0]) (h' := zH I P) 1 rfl ?_
      obtain ⟨y2, hy2, hx⟩ := zbind hx
      refine wp_callf (d := 116) (as := [.ref 0]) (rest := []) (Ld := [some (.ref 0)]) (pc' := 99) (st' := [.int y2.1]) (r := some (.int y2.1)) (h1 := zH y2.2 P) rfl rfl rfl rfl rfl rfl rfl rfl rfl (xp_G_branToday _ _  _ hy2) ?_
      cases hx
      exact wp_end rfl rfl ⟨rfl, rfl⟩
    rw [if_neg c6] at hx
    by_cases c7 : w = 5
    · rw [if_pos c7] at hx
      refine wp_swk (pc' := 100) (L' := [some (.ref 0), some (.int w)]) (st' := []) (h' := zH I P) c7 rfl ?_
      refine wp_blk (pc' := 104) (L' := [some (.ref 0), some (.int w)]) (st' := [.ref 16]) (h' := zH I P) 2 rfl ?_
      refine wp_callf (d := 98) (as := [.ref 16]) (rest := []) (Ld := [some (.ref 16)]) (pc' := 107) (st' := [.int (f_V_size I)]) (r := some (.int (f_V_size I))) (h1 := zH I P) rfl rfl rfl rfl rfl rfl rfl rfl rfl (sp_V_size I P) ?_
      cases hx
      exact wp_end rfl rfl ⟨rfl, rfl⟩
    rw [if_neg c7] at hx
    by_cases c8 : w = 6
    · rw [if_pos c8] at hx
      refine wp_swk (pc' := 108) (L' := [some (.ref 0), some (.int w)]) (st' := []) (h' := zH I P) c8 rfl ?_
      refine wp_blk (pc' := 112) (L' := [some (.ref 0), some (.int w)]) (st' := [.ref 19]) (h' := zH I P) 2 rfl ?_
      refine wp_callf (d := 80) (as := [.ref 19]) (rest := []) (Ld := [some (.ref 19)]) (pc' := 115) (st' := [.int (f_H1_size I)]) (r := some (.int (f_H1_size I))) (h1 := zH I P) rfl rfl rfl rfl rfl rfl rfl rfl rfl (sp_H1_size I P) ?_
      cases hx
      exact wp_end rfl rfl ⟨rfl, rfl⟩
    rw [if_neg c8] at hx
    by_cases c9 : w = 7
    · rw [if_pos c9] at hx
      refine wp_swk (pc' := 116) (L' := [some (.ref 0), some (.int w)]) (st' := []) (h' := zH I P) c9 rfl ?_
      refine wp_blk (pc' := 120) (L' := [some (.ref 0), some (.int w)]) (st' := [.ref 53]) (h' := zH I P) 2 rfl ?_
      refine wp_callf (d := 80) (as := [.ref 53]) (rest := []) (Ld := [some (.ref 53)]) (pc' := 123) (st' := [.int (f_H2_size I)]) (r := some (.int (f_H2_size I))) (h1 := zH I P) rfl rfl rfl rfl rfl rfl rfl rfl rfl (sp_H2_size I P) ?_
      cases hx
      exact wp_end rfl rfl ⟨rfl, rfl⟩
    rw [if_neg c9] at hx
    refine wp_tabD rfl rfl rfl (pc2 := 124) (by decide) (by decide) (by have h0 : ¬ (w).toInt = 0 := lv_neT c2 rfl; have h1 : ¬ (w).toInt = 1 := lv_neT c3 rfl; have h2 : ¬ (w).toInt = 2 := lv_neT c4 rfl; have h3 : ¬ (w).toInt = 3 := lv_neT c5 rfl; have h4 : ¬ (w).toInt = 4 := lv_neT c6 rfl; have h5 : ¬ (w).toInt = 5 := lv_neT c7 rfl; have h6 : ¬ (w).toInt = 6 := lv_neT c8 rfl; have h7 : ¬ (w).toInt = 7 := lv_neT c9 rfl; omega) ?_
    refine wp_blk (pc' := 128) (L' := [some (.ref 0), some (.int w)]) (st' := [.ref 1]) (h' := zH I P) 2 rfl ?_
    refine wp_callf (d := 32) (as := [.ref 1]) (rest := []) (Ld := [some (.ref 1)]) (pc' := 131) (st' := [.int (f_S_size I)]) (r := some (.int (f_S_size I))) (h1 := zH I P) rfl rfl rfl rfl rfl rfl rfl rfl rfl (sp_S_size I P) ?_
    cases hx
    exact wp_end rfl rfl ⟨rfl, rfl⟩
  · rw [if_neg c1] at hx
    refine wp_blk (pc' := 10) (L' := [some (.ref 0), some (.int w)]) (st' := [.int (-1)]) (h' := zH I P) 1 rfl ?_
    cases hx
    exact wp_end rfl rfl ⟨rfl, rfl⟩
