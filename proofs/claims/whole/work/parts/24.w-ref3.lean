/-! THE REFERENCE: orders and the rest (printed) -/
def l_D_orders_15 : Nat → (Nat → Nat → Int32) → Int32 → Int32 → Int32 → Int32 → Int32 → Option (Int32 × (Nat → Nat → Int32))
  | 0, _, _, _, _, _, _ => none
  | n + 1, I, x1, x2, x3, x4, x5 => if x5 < 0 then (if x4 = f_D_there I then (some (1, I)) else (some (0, I))) else (if zinb x5 6 = true then (if zinb x5 6 = true then (l_D_orders_15 n (zui I 72 x5.toNatClampNeg (x3 - x3 / 6 * 6)) x1 x2 (x3 / 6) (x4 ||| (1 <<< (((zui I 72 x5.toNatClampNeg (x3 - x3 / 6 * 6)) 72 x5.toNatClampNeg) &&& 31))) (x5 + (-1))) else none) else none)
def x_D_orders (I : Nat → Nat → Int32) (c n : Int32) : Option (Int32 × (Nat → Nat → Int32)) := l_D_orders_15 1000 (zui I 63 16 n) c n c 0 (n - 1)
set_option maxRecDepth 100000 in
theorem lp_D_orders_15 {X : Nat × (Nat → Int32)} (P : Nat → Nat → Option Nat) : ∀ (n : Nat) (I : Nat → Nat → Int32) (x1 : Int32) (x2 : Int32) (x3 : Int32) (x4 : Int32) (x5 : Int32) (r : Int32 × (Nat → Nat → Int32)), l_D_orders_15 n I x1 x2 x3 x4 x5 = some r → Wp X 159 15 [some (.ref 63), some (.int x1), some (.int x2), some (.int x3), some (.int x4), some (.int x5)] [] (zH I P) (fun r2 h2 => r2 = some (.int r.1) ∧ h2 = zH r.2 P) := by
  intro n
  induction n with
  | zero => intro I x1 x2 x3 x4 x5 r hx; cases hx
  | succ n ih =>
    intro I x1 x2 x3 x4 x5 r hx
    rw [l_D_orders_15] at hx
    refine wp_blk (pc' := 17) (L' := [some (.ref 63), some (.int x1), some (.int x2), some (.int x3), some (.int x4), some (.int x5)]) (st' := [.int x5]) (h' := zH I P) 1 rfl ?_
    refine wp_lt (a := x5) (b := 0) (s1 := (56, [some (.ref 63), some (.int x1), some (.int x2), some (.int x3), some (.int x4), some (.int x5)], [], zH I P)) (s2 := (20, [some (.ref 63), some (.int x1), some (.int x2), some (.int x3), some (.int x4), some (.int x5)], [], zH I P)) rfl (fun c1 => ?_) (fun c1 => ?_)
    · rw [if_pos c1] at hx
      refine wp_blk (pc' := 59) (L' := [some (.ref 63), some (.int x1), some (.int x2), some (.int x3), some (.int x4), some (.int x5)]) (st' := [.ref 63, .int x4]) (h' := zH I P) 2 rfl ?_
      refine wp_callf (d := 156) (as := [.ref 63]) (rest := [.int x4]) (Ld := [some (.ref 63)]) (pc' := 62) (st' := [.int (f_D_there I), .int x4]) (r := some (.int (f_D_there I))) (h1 := zH I P) rfl rfl rfl rfl rfl rfl rfl rfl rfl (sp_D_there I P) ?_
      refine wp_ne (a := x4) (b := f_D_there I) (s1 := (69, [some (.ref 63), some (.int x1), some (.int x2), some (.int x3), some (.int x4), some (.int x5)], [], zH I P)) (s2 := (65, [some (.ref 63), some (.int x1), some (.int x2), some (.int x3), some (.int x4), some (.int x5)], [], zH I P)) rfl (fun c2 => ?_) (fun c2 => ?_)
      · rw [if_neg c2] at hx
        refine wp_blk (pc' := 70) (L' := [some (.ref 63), some (.int x1), some (.int x2), some (.int x3), some (.int x4), some (.int x5)]) (st' := [.int 0]) (h' := zH I P) 1 rfl ?_
        cases hx
        exact wp_end rfl rfl ⟨rfl, rfl⟩
      · rw [if_pos c2] at hx
        refine wp_blk (pc' := 70) (L' := [some (.ref 63), some (.int x1), some (.int x2), some (.int x3), some (.int x4), some (.int x5)]) (st' := [.int 1]) (h' := zH I P) 2 rfl ?_
        cases hx
        exact wp_end rfl rfl ⟨rfl, rfl⟩
    · rw [if_neg c1] at hx
      refine wp_blk (pc' := 30) (L' := [some (.ref 63), some (.int x1), some (.int x2), some (.int x3), some (.int x4), some (.int x5)]) (st' := [.int (x3 - x3 / 6 * 6), .int x5, .ref 72]) (h' := zH I P) 6 rfl ?_
      obtain ⟨c3, hx⟩ := zite hx
      refine wp_chk (P := zinb x5 6 = true) (pc' := 31) (L' := [some (.ref 63), some (.int x1), some (.int x2), some (.int x3), some (.int x4), some (.int x5)]) (st' := []) (h' := zH (zui I 72 x5.toNatClampNeg (x3 - x3 / 6 * 6)) P) rfl c3 ?_
      refine wp_blk (pc' := 40) (L' := [some (.ref 63), some (.int x1), some (.int x2), some (.int x3), some (.int x4), some (.int x5)]) (st' := [.int x5, .ref 72, .int 1, .int x4]) (h' := zH (zui I 72 x5.toNatClampNeg (x3 - x3 / 6 * 6)) P) 5 rfl ?_
      obtain ⟨c4, hx⟩ := zite hx
      refine wp_chk (P := zinb x5 6 = true) (pc' := 41) (L' := [some (.ref 63), some (.int x1), some (.int x2), some (.int x3), some (.int x4), some (.int x5)]) (st' := [.int ((zui I 72 x5.toNatClampNeg (x3 - x3 / 6 * 6)) 72 x5.toNatClampNeg), .int 1, .int x4]) (h' := zH (zui I 72 x5.toNatClampNeg (x3 - x3 / 6 * 6)) P) rfl c4 ?_
      refine wp_blk (pc' := 15) (L' := [some (.ref 63), some (.int x1), some (.int x2), some (.int (x3 / 6)), some (.int (x4 ||| (1 <<< (((zui I 72 x5.toNatClampNeg (x3 - x3 / 6 * 6)) 72 x5.toNatClampNeg) &&& 31)))), some (.int (x5 + (-1)))]) (st' := []) (h' := zH (zui I 72 x5.toNatClampNeg (x3 - x3 / 6 * 6)) P) 9 rfl ?_
      exact ih _ _ _ _ _ _ _ hx
set_option maxRecDepth 100000 in
theorem xp_D_orders {X : Nat × (Nat → Int32)} (I : Nat → Nat → Int32) (P : Nat → Nat → Option Nat) (c n : Int32) (r : Int32 × (Nat → Nat → Int32)) (hx : x_D_orders I c n = some r) : Wf X 159 [some (.ref 63), some (.int c), some (.int n), none, none, none] (zH I P) (some (.int r.1)) (zH r.2 P) := by
  unfold Wf
  unfold x_D_orders at hx
  refine wp_blk (pc' := 15) (L' := [some (.ref 63), some (.int c), some (.int n), some (.int c), some (.int 0), some (.int (n - 1))]) (st' := []) (h' := zH (zui I 63 16 n) P) 11 rfl ?_
  exact lp_D_orders_15 P _ _ _ _ _ _ _ _ hx
def l_D_codes_4 : Nat → (Nat → Nat → Int32) → Int32 → Int32 → Int32 → Option (Int32 × (Nat → Nat → Int32))
  | 0, _, _, _, _ => none
  | n + 1, I, x0, x1, x2 => if x0 ≤ x2 then (some (x1, I)) else (l_D_codes_4 n I x0 (x1 * 6) (x2 + 1))
def x_D_codes (I : Nat → Nat → Int32) (n : Int32) : Option (Int32 × (Nat → Nat → Int32)) := l_D_codes_4 1000 I n 1 0
set_option maxRecDepth 100000 in
theorem lp_D_codes_4 {X : Nat × (Nat → Int32)} (P : Nat → Nat → Option Nat) : ∀ (n : Nat) (I : Nat → Nat → Int32) (x0 : Int32) (x1 : Int32) (x2 : Int32) (r : Int32 × (Nat → Nat → Int32)), l_D_codes_4 n I x0 x1 x2 = some r → Wp X 158 4 [some (.int x0), some (.int x1), some (.int x2)] [] (zH I P) (fun r2 h2 => r2 = some (.int r.1) ∧ h2 = zH r.2 P) := by
  intro n
  induction n with
  | zero => intro I x0 x1 x2 r hx; cases hx
  | succ n ih =>
    intro I x0 x1 x2 r hx
    rw [l_D_codes_4] at hx
    refine wp_blk (pc' := 6) (L' := [some (.int x0), some (.int x1), some (.int x2)]) (st' := [.int x0, .int x2]) (h' := zH I P) 2 rfl ?_
    refine wp_ge (a := x2) (b := x0) (s1 := (20, [some (.int x0), some (.int x1), some (.int x2)], [], zH I P)) (s2 := (9, [some (.int x0), some (.int x1), some (.int x2)], [], zH I P)) rfl (fun c1 => ?_) (fun c1 => ?_)
    · rw [if_pos c1] at hx
      refine wp_blk (pc' := 21) (L' := [some (.int x0), some (.int x1), some (.int x2)]) (st' := [.int x1]) (h' := zH I P) 1 rfl ?_
      cases hx
      exact wp_end rfl rfl ⟨rfl, rfl⟩
    · rw [if_neg c1] at hx
      refine wp_blk (pc' := 4) (L' := [some (.int x0), some (.int (x1 * 6)), some (.int (x2 + 1))]) (st' := []) (h' := zH I P) 6 rfl ?_
      exact ih _ _ _ _ _ hx
set_option maxRecDepth 100000 in
theorem xp_D_codes {X : Nat × (Nat → Int32)} (I : Nat → Nat → Int32) (P : Nat → Nat → Option Nat) (n : Int32) (r : Int32 × (Nat → Nat → Int32)) (hx : x_D_codes I n = some r) : Wf X 158 [some (.int n), none, none] (zH I P) (some (.int r.1)) (zH r.2 P) := by
  unfold Wf
  unfold x_D_codes at hx
  refine wp_blk (pc' := 4) (L' := [some (.int n), some (.int 1), some (.int 0)]) (st' := []) (h' := zH I P) 4 rfl ?_
  exact lp_D_codes_4 P _ _ _ _ _ _ hx
def l_D_order_49 : Nat → (Nat → Nat → Int32) → Int32 → Int32 → Int32 → Int32 → Int32 → Int32 → Option (Int32 × (Nat → Nat → Int32))
  | 0, _, _, _, _, _, _, _ => none
  | n + 1, I, x1, x2, x3, x4, x5, x6 => (x_D_codes I x3).bind (fun q2 => if q2.1 ≤ x6 then (some (x5, q2.2)) else ((x_D_orders q2.2 x6 x3).bind (fun q3 => if q3.1 = 0 then (l_D_order_49 n q3.2 x1 x2 x3 x4 x5 (x6 + 1)) else ((x_D_grinds q3.2 (-1)).bind (fun q4 => (x_D_bran q4.2).bind (fun q5 => if q5.1 = 0 then (if zinb x1 6 = true then (if q5.2 73 x1.toNatClampNeg ≤ x4 then (l_D_order_49 n q5.2 x1 x2 x3 x4 x5 (x6 + 1)) else (if zinb x1 6 = true then (if x2 = 0 then (l_D_order_49 n q5.2 x1 x2 x3 (q5.2 73 x1.toNatClampNeg) (q5.2 73 x1.toNatClampNeg) (x6 + 1)) else (if x2 ≤ x3 then (if zinb (x2 - 1) 6 = true then (l_D_order_49 n q5.2 x1 x2 x3 (q5.2 73 x1.toNatClampNeg) (q5.2 72 ((x2 - 1).toNatClampNeg)) (x6 + 1)) else none) else (l_D_order_49 n q5.2 x1 x2 x3 (q5.2 73 x1.toNatClampNeg) (-4) (x6 + 1)))) else none)) else none) else (l_D_order_49 n q5.2 x1 x2 x3 x4 x5 (x6 + 1))))))))
def x_D_order (I : Nat → Nat → Int32) (c k : Int32) : Option (Int32 × (Nat → Nat → Int32)) := if f_D_isOne I c = 0 then (some (-1, I)) else (if f_D_in I k 0 6 = 0 then (some (-1, I)) else (if f_D_isAway I c = 0 then ((x_D_ones I (f_D_there I)).bind (fun q1 => l_D_order_49 100000 q1.2 c k q1.1 (-1) (-4) 0)) else (some (-2, I))))
set_option maxRecDepth 100000 in
theorem lp_D_order_49 {X : Nat × (Nat → Int32)} (P : Nat → Nat → Option Nat) : ∀ (n : Nat) (I : Nat → Nat → Int32) (x1 : Int32) (x2 : Int32) (x3 : Int32) (x4 : Int32) (x5 : Int32) (x6 : Int32) (r : Int32 × (Nat → Nat → Int32)), l_D_order_49 n I x1 x2 x3 x4 x5 x6 = some r → Wp X 155 49 [some (.ref 63), some (.int x1), some (.int x2), some (.int x3), some (.int x4), some (.int x5), some (.int x6)] [] (zH I P) (fun r2 h2 => r2 = some (.int r.1) ∧ h2 = zH r.2 P) := by
  intro n
  induction n with
  | zero => intro I x1 x2 x3 x4 x5 x6 r hx; cases hx
  | succ n ih =>
    intro I x1 x2 x3 x4 x5 x6 r hx
    rw [l_D_order_49] at hx
    refine wp_blk (pc' := 52) (L' := [some (.ref 63), some (.int x1), some (.int x2), some (.int x3), some (.int x4), some (.int x5), some (.int x6)]) (st' := [.int x3, .int x6]) (h' := zH I P) 2 rfl ?_
    obtain ⟨y1, hy1, hx⟩ := zbind hx
    refine wp_callf (d := 158) (as := [.int x3]) (rest := [.int x6]) (Ld := [some (.int x3), none, none]) (pc' := 55) (st' := [.int y1.1, .int x6]) (r := some (.int y1.1)) (h1 := zH y1.2 P) rfl rfl rfl rfl rfl rfl rfl rfl rfl (xp_D_codes _ _ _ _ hy1) ?_
    refine wp_ge (a := x6) (b := y1.1) (s1 := (134, [some (.ref 63), some (.int x1), some (.int x2), some (.int x3), some (.int x4), some (.int x5), some (.int x6)], [], zH y1.2 P)) (s2 := (58, [some (.ref 63), some (.int x1), some (.int x2), some (.int x3), some (.int x4), some (.int x5), some (.int x6)], [], zH y1.2 P)) rfl (fun c1 => ?_) (fun c1 => ?_)
    · rw [if_pos c1] at hx
      refine wp_blk (pc' := 136) (L' := [some (.ref 63), some (.int x1), some (.int x2), some (.int x3), some (.int x4), some (.int x5), some (.int x6)]) (st' := [.int x5]) (h' := zH y1.2 P) 1 rfl ?_
      cases hx
      exact wp_end rfl rfl ⟨rfl, rfl⟩
    · rw [if_neg c1] at hx
      refine wp_blk (pc' := 62) (L' := [some (.ref 63), some (.int x1), some (.int x2), some (.int x3), some (.int x4), some (.int x5), some (.int x6)]) (st' := [.int x3, .int x6, .ref 63]) (h' := zH y1.2 P) 3 rfl ?_
      obtain ⟨y2, hy2, hx⟩ := zbind hx
      refine wp_callf (d := 159) (as := [.ref 63, .int x6, .int x3]) (rest := []) (Ld := [some (.ref 63), some (.int x6), some (.int x3), none, none, none]) (pc' := 65) (st' := [.int y2.1]) (r := some (.int y2.1)) (h1 := zH y2.2 P) rfl rfl rfl rfl rfl rfl rfl rfl rfl (xp_D_orders _ _ _ _ _ hy2) ?_
      refine wp_eq (a := y2.1) (b := 0) (s1 := (128, [some (.ref 63), some (.int x1), some (.int x2), some (.int x3), some (.int x4), some (.int x5), some (.int x6)], [], zH y2.2 P)) (s2 := (68, [some (.ref 63), some (.int x1), some (.int x2), some (.int x3), some (.int x4), some (.int x5), some (.int x6)], [], zH y2.2 P)) rfl (fun c2 => ?_) (fun c2 => ?_)
      · rw [if_pos c2] at hx
        refine wp_blk (pc' := 49) (L' := [some (.ref 63), some (.int x1), some (.int x2), some (.int x3), some (.int x4), some (.int x5), some (.int (x6 + 1))]) (st' := []) (h' := zH y2.2 P) 2 rfl ?_
        exact ih _ _ _ _ _ _ _ _ hx
      · rw [if_neg c2] at hx
        refine wp_blk (pc' := 70) (L' := [some (.ref 63), some (.int x1), some (.int x2), some (.int x3), some (.int x4), some (.int x5), some (.int x6)]) (st' := [.int (-1), .ref 63]) (h' := zH y2.2 P) 2 rfl ?_
        obtain ⟨y3, hy3, hx⟩ := zbind hx
        refine wp_callf (d := 141) (as := [.ref 63, .int (-1)]) (rest := []) (Ld := [some (.ref 63), some (.int (-1)), none, none]) (pc' := 73) (st' := []) (r := none) (h1 := zH y3.2 P) rfl rfl rfl rfl rfl rfl rfl rfl rfl (xp_D_grinds _ _ _ _ hy3) ?_
        refine wp_blk (pc' := 74) (L' := [some (.ref 63), some (.int x1), some (.int x2), some (.int x3), some (.int x4), some (.int x5), some (.int x6)]) (st' := [.ref 63]) (h' := zH y3.2 P) 1 rfl ?_
        obtain ⟨y4, hy4, hx⟩ := zbind hx
        refine wp_callf (d := 160) (as := [.ref 63]) (rest := []) (Ld := [some (.ref 63), none, none]) (pc' := 77) (st' := [.int y4.1]) (r := some (.int y4.1)) (h1 := zH y4.2 P) rfl rfl rfl rfl rfl rfl rfl rfl rfl (xp_D_bran _ _  _ hy4) ?_
        refine wp_ne (a := y4.1) (b := 0) (s1 := (128, [some (.ref 63), some (.int x1), some (.int x2), some (.int x3), some (.int x4), some (.int x5), some (.int x6)], [], zH y4.2 P)) (s2 := (80, [some (.ref 63), some (.int x1), some (.int x2), some (.int x3), some (.int x4), some (.int x5), some (.int x6)], [], zH y4.2 P)) rfl (fun c3 => ?_) (fun c3 => ?_)
        · rw [if_neg c3] at hx
          refine wp_blk (pc' := 49) (L' := [some (.ref 63), some (.int x1), some (.int x2), some (.int x3), some (.int x4), some (.int x5), some (.int (x6 + 1))]) (st' := []) (h' := zH y4.2 P) 2 rfl ?_
          exact ih _ _ _ _ _ _ _ _ hx
        · rw [if_pos c3] at hx
          refine wp_blk (pc' := 85) (L' := [some (.ref 63), some (.int x1), some (.int x2), some (.int x3), some (.int x4), some (.int x5), some (.int x6)]) (st' := [.int x1, .ref 73]) (h' := zH y4.2 P) 3 rfl ?_
          obtain ⟨c4, hx⟩ := zite hx
          refine wp_chk (P := zinb x1 6 = true) (pc' := 86) (L' := [some (.ref 63), some (.int x1), some (.int x2), some (.int x3), some (.int x4), some (.int x5), some (.int x6)]) (st' := [.int (y4.2 73 x1.toNatClampNeg)]) (h' := zH y4.2 P) rfl c4 ?_
          refine wp_blk (pc' := 88) (L' := [some (.ref 63), some (.int x1), some (.int x2), some (.int x3), some (.int x4), some (.int x5), some (.int x6)]) (st' := [.int x4, .int (y4.2 73 x1.toNatClampNeg)]) (h' := zH y4.2 P) 1 rfl ?_
          refine wp_le (a := y4.2 73 x1.toNatClampNeg) (b := x4) (s1 := (128, [some (.ref 63), some (.int x1), some (.int x2), some (.int x3), some (.int x4), some (.int x5), some (.int x6)], [], zH y4.2 P)) (s2 := (91, [some (.ref 63), some (.int x1), some (.int x2), some (.int x3), some (.int x4), some (.int x5), some (.int x6)], [], zH y4.2 P)) rfl (fun c5 => ?_) (fun c5 => ?_)
          · rw [if_pos c5] at hx
            refine wp_blk (pc' := 49) (L' := [some (.ref 63), some (.int x1), some (.int x2), some (.int x3), some (.int x4), some (.int x5), some (.int (x6 + 1))]) (st' := []) (h' := zH y4.2 P) 2 rfl ?_
            exact ih _ _ _ _ _ _ _ _ hx
          · rw [if_neg c5] at hx
            refine wp_blk (pc' := 96) (L' := [some (.ref 63), some (.int x1), some (.int x2), some (.int x3), some (.int x4), some (.int x5), some (.int x6)]) (st' := [.int x1, .ref 73]) (h' := zH y4.2 P) 3 rfl ?_
            obtain ⟨c6, hx⟩ := zite hx
            refine wp_chk (P := zinb x1 6 = true) (pc' := 97) (L' := [some (.ref 63), some (.int x1), some (.int x2), some (.int x3), some (.int x4), some (.int x5), some (.int x6)]) (st' := [.int (y4.2 73 x1.toNatClampNeg)]) (h' := zH y4.2 P) rfl c6 ?_
            refine wp_blk (pc' := 100) (L' := [some (.ref 63), some (.int x1), some (.int x2), some (.int x3), some (.int (y4.2 73 x1.toNatClampNeg)), some (.int x5), some (.int x6)]) (st' := [.int x2]) (h' := zH y4.2 P) 2 rfl ?_
            refine wp_ne (a := x2) (b := 0) (s1 := (108, [some (.ref 63), some (.int x1), some (.int x2), some (.int x3), some (.int (y4.2 73 x1.toNatClampNeg)), some (.int x5), some (.int x6)], [], zH y4.2 P)) (s2 := (103, [some (.ref 63), some (.int x1), some (.int x2), some (.int x3), some (.int (y4.2 73 x1.toNatClampNeg)), some (.int x5), some (.int x6)], [], zH y4.2 P)) rfl (fun c7 => ?_) (fun c7 => ?_)
            · rw [if_neg c7] at hx
              refine wp_blk (pc' := 110) (L' := [some (.ref 63), some (.int x1), some (.int x2), some (.int x3), some (.int (y4.2 73 x1.toNatClampNeg)), some (.int x5), some (.int x6)]) (st' := [.int x3, .int x2]) (h' := zH y4.2 P) 2 rfl ?_
              refine wp_le (a := x2) (b := x3) (s1 := (118, [some (.ref 63), some (.int x1), some (.int x2), some (.int x3), some (.int (y4.2 73 x1.toNatClampNeg)), some (.int x5), some (.int x6)], [], zH y4.2 P)) (s2 := (113, [some (.ref 63), some (.int x1), some (.int x2), some (.int x3), some (.int (y4.2 73 x1.toNatClampNeg)), some (.int x5), some (.int x6)], [], zH y4.2 P)) rfl (fun c8 => ?_) (fun c8 => ?_)
              · rw [if_pos c8] at hx
                refine wp_blk (pc' := 125) (L' := [some (.ref 63), some (.int x1), some (.int x2), some (.int x3), some (.int (y4.2 73 x1.toNatClampNeg)), some (.int x5), some (.int x6)]) (st' := [.int (x2 - 1), .ref 72]) (h' := zH y4.2 P) 5 rfl ?_
                obtain ⟨c9, hx⟩ := zite hx
                refine wp_chk (P := zinb (x2 - 1) 6 = true) (pc' := 126) (L' := [some (.ref 63), some (.int x1), some (.int x2), some (.int x3), some (.int (y4.2 73 x1.toNatClampNeg)), some (.int x5), some (.int x6)]) (st' := [.int (y4.2 72 ((x2 - 1).toNatClampNeg))]) (h' := zH y4.2 P) rfl c9 ?_
                refine wp_blk (pc' := 49) (L' := [some (.ref 63), some (.int x1), some (.int x2), some (.int x3), some (.int (y4.2 73 x1.toNatClampNeg)), some (.int (y4.2 72 ((x2 - 1).toNatClampNeg))), some (.int (x6 + 1))]) (st' := []) (h' := zH y4.2 P) 3 rfl ?_
                exact ih _ _ _ _ _ _ _ _ hx
              · rw [if_neg c8] at hx
                refine wp_blk (pc' := 49) (L' := [some (.ref 63), some (.int x1), some (.int x2), some (.int x3), some (.int (y4.2 73 x1.toNatClampNeg)), some (.int (-4)), some (.int (x6 + 1))]) (st' := []) (h' := zH y4.2 P) 5 rfl ?_
                exact ih _ _ _ _ _ _ _ _ hx
            · rw [if_pos c7] at hx
              refine wp_blk (pc' := 49) (L' := [some (.ref 63), some (.int x1), some (.int x2), some (.int x3), some (.int (y4.2 73 x1.toNatClampNeg)), some (.int (y4.2 73 x1.toNatClampNeg)), some (.int (x6 + 1))]) (st' := []) (h' := zH y4.2 P) 5 rfl ?_
              exact ih _ _ _ _ _ _ _ _ hx
set_option maxRecDepth 100000 in
theorem xp_D_order {X : Nat × (Nat → Int32)} (I : Nat → Nat → Int32) (P : Nat → Nat → Option Nat) (c k : Int32) (r : Int32 × (Nat → Nat → Int32)) (hx : x_D_order I c k = some r) : Wf X 155 [some (.ref 63), some (.int c), some (.int k), none, none, none, none] (zH I P) (some (.int r.1)) (zH r.2 P) := by
  unfold Wf
  unfold x_D_order at hx
  refine wp_blk (pc' := 2) (L' := [some (.ref 63), some (.int c), some (.int k), none, none, none, none]) (st' := [.int c, .ref 63]) (h' := zH I P) 2 rfl ?_
  refine wp_callf (d := 133) (as := [.ref 63, .int c]) (rest := []) (Ld := [some (.ref 63), some (.int c)]) (pc' := 5) (st' := [.int (f_D_isOne I c)]) (r := some (.int (f_D_isOne I c))) (h1 := zH I P) rfl rfl rfl rfl rfl rfl rfl rfl rfl (sp_D_isOne I P c) ?_
  refine wp_eq (a := f_D_isOne I c) (b := 0) (s1 := (18, [some (.ref 63), some (.int c), some (.int k), none, none, none, none], [], zH I P)) (s2 := (8, [some (.ref 63), some (.int c), some (.int k), none, none, none, none], [], zH I P)) rfl (fun c1 => ?_) (fun c1 => ?_)
  · rw [if_pos c1] at hx
    refine wp_blk (pc' := 19) (L' := [some (.ref 63), some (.int c), some (.int k), none, none, none, none]) (st' := [.int (-1)]) (h' := zH I P) 1 rfl ?_
    cases hx
    exact wp_end rfl rfl ⟨rfl, rfl⟩
  · rw [if_neg c1] at hx
    refine wp_blk (pc' := 12) (L' := [some (.ref 63), some (.int c), some (.int k), none, none, none, none]) (st' := [.int 6, .int 0, .int k]) (h' := zH I P) 3 rfl ?_
    refine wp_callf (d := 123) (as := [.int k, .int 0, .int 6]) (rest := []) (Ld := [some (.int k), some (.int 0), some (.int 6)]) (pc' := 15) (st' := [.int (f_D_in I k 0 6)]) (r := some (.int (f_D_in I k 0 6))) (h1 := zH I P) rfl rfl rfl rfl rfl rfl rfl rfl rfl (sp_D_in I P k 0 6) ?_
    refine wp_ne (a := f_D_in I k 0 6) (b := 0) (s1 := (20, [some (.ref 63), some (.int c), some (.int k), none, none, none, none], [], zH I P)) (s2 := (18, [some (.ref 63), some (.int c), some (.int k), none, none, none, none], [], zH I P)) rfl (fun c2 => ?_) (fun c2 => ?_)
    · rw [if_neg c2] at hx
      refine wp_blk (pc' := 22) (L' := [some (.ref 63), some (.int c), some (.int k), none, none, none, none]) (st' := [.int c, .ref 63]) (h' := zH I P) 2 rfl ?_
      refine wp_callf (d := 135) (as := [.ref 63, .int c]) (rest := []) (Ld := [some (.ref 63), some (.int c)]) (pc' := 25) (st' := [.int (f_D_isAway I c)]) (r := some (.int (f_D_isAway I c))) (h1 := zH I P) rfl rfl rfl rfl rfl rfl rfl rfl rfl (sp_D_isAway I P c) ?_
      refine wp_eq (a := f_D_isAway I c) (b := 0) (s1 := (31, [some (.ref 63), some (.int c), some (.int k), none, none, none, none], [], zH I P)) (s2 := (28, [some (.ref 63), some (.int c), some (.int k), none, none, none, none], [], zH I P)) rfl (fun c3 => ?_) (fun c3 => ?_)
      · rw [if_pos c3] at hx
        refine wp_blk (pc' := 32) (L' := [some (.ref 63), some (.int c), some (.int k), none, none, none, none]) (st' := [.ref 63]) (h' := zH I P) 1 rfl ?_
        refine wp_callf (d := 156) (as := [.ref 63]) (rest := []) (Ld := [some (.ref 63)]) (pc' := 35) (st' := [.int (f_D_there I)]) (r := some (.int (f_D_there I))) (h1 := zH I P) rfl rfl rfl rfl rfl rfl rfl rfl rfl (sp_D_there I P) ?_
        obtain ⟨y1, hy1, hx⟩ := zbind hx
        refine wp_callf (d := 157) (as := [.int (f_D_there I)]) (rest := []) (Ld := [some (.int (f_D_there I)), none, none]) (pc' := 38) (st' := [.int y1.1]) (r := some (.int y1.1)) (h1 := zH y1.2 P) rfl rfl rfl rfl rfl rfl rfl rfl rfl (xp_D_ones _ _ _ _ hy1) ?_
        refine wp_blk (pc' := 49) (L' := [some (.ref 63), some (.int c), some (.int k), some (.int y1.1), some (.int (-1)), some (.int (-4)), some (.int 0)]) (st' := []) (h' := zH y1.2 P) 7 rfl ?_
        exact lp_D_order_49 P _ _ _ _ _ _ _ _ _ hx
      · rw [if_neg c3] at hx
        refine wp_blk (pc' := 30) (L' := [some (.ref 63), some (.int c), some (.int k), none, none, none, none]) (st' := [.int (-2)]) (h' := zH I P) 1 rfl ?_
        cases hx
        exact wp_end rfl rfl ⟨rfl, rfl⟩
    · rw [if_pos c2] at hx
      refine wp_blk (pc' := 19) (L' := [some (.ref 63), some (.int c), some (.int k), none, none, none, none]) (st' := [.int (-1)]) (h' := zH I P) 1 rfl ?_
      cases hx
      exact wp_end rfl rfl ⟨rfl, rfl⟩
def l_D_helpless_15 : Nat → (Nat → Nat → Int32) → Int32 → Int32 → Int32 → Option (Int32 × (Nat → Nat → Int32))
  | 0, _, _, _, _ => none
  | n + 1, I, x1, x2, x3 => (x_D_codes I x1).bind (fun q2 => if q2.1 ≤ x3 then (some (x2, q2.2)) else ((x_D_orders q2.2 x3 x1).bind (fun q3 => if q3.1 = 0 then (l_D_helpless_15 n q3.2 x1 x2 (x3 + 1)) else ((x_D_grinds q3.2 (-1)).bind (fun q4 => (x_D_bran q4.2).bind (fun q5 => l_D_helpless_15 n q5.2 x1 (x2 &&& q5.1) (x3 + 1)))))))
def x_D_helpless (I : Nat → Nat → Int32) : Option (Int32 × (Nat → Nat → Int32)) := (x_D_ones I (f_D_there I)).bind (fun q1 => l_D_helpless_15 100000 q1.2 q1.1 (f_D_there q1.2) 0)
set_option maxRecDepth 100000 in
theorem lp_D_helpless_15 {X : Nat × (Nat → Int32)} (P : Nat → Nat → Option Nat) : ∀ (n : Nat) (I : Nat → Nat → Int32) (x1 : Int32) (x2 : Int32) (x3 : Int32) (r : Int32 × (Nat → Nat → Int32)), l_D_helpless_15 n I x1 x2 x3 = some r → Wp X 161 15 [some (.ref 63), some (.int x1), some (.int x2), some (.int x3)] [] (zH I P) (fun r2 h2 => r2 = some (.int r.1) ∧ h2 = zH r.2 P) := by
  intro n
  induction n with
  | zero => intro I x1 x2 x3 r hx; cases hx
  | succ n ih =>
    intro I x1 x2 x3 r hx
    rw [l_D_helpless_15] at hx
    refine wp_blk (pc' := 17) (L' := [some (.ref 63), some (.int x1), some (.int x2), some (.int x3)]) (st' := [.int x1, .int x3]) (h' := zH I P) 2 rfl ?_
    obtain ⟨y1, hy1, hx⟩ := zbind hx
    refine wp_callf (d := 158) (as := [.int x1]) (rest := [.int x3]) (Ld := [some (.int x1), none, none]) (pc' := 20) (st' := [.int y1.1, .int x3]) (r := some (.int y1.1)) (h1 := zH y1.2 P) rfl rfl rfl rfl rfl rfl rfl rfl rfl (xp_D_codes _ _ _ _ hy1) ?_
    refine wp_ge (a := x3) (b := y1.1) (s1 := (50, [some (.ref 63), some (.int x1), some (.int x2), some (.int x3)], [], zH y1.2 P)) (s2 := (23, [some (.ref 63), some (.int x1), some (.int x2), some (.int x3)], [], zH y1.2 P)) rfl (fun c1 => ?_) (fun c1 => ?_)
    · rw [if_pos c1] at hx
      refine wp_blk (pc' := 51) (L' := [some (.ref 63), some (.int x1), some (.int x2), some (.int x3)]) (st' := [.int x2]) (h' := zH y1.2 P) 1 rfl ?_
      cases hx
      exact wp_end rfl rfl ⟨rfl, rfl⟩
    · rw [if_neg c1] at hx
      refine wp_blk (pc' := 26) (L' := [some (.ref 63), some (.int x1), some (.int x2), some (.int x3)]) (st' := [.int x1, .int x3, .ref 63]) (h' := zH y1.2 P) 3 rfl ?_
      obtain ⟨y2, hy2, hx⟩ := zbind hx
      refine wp_callf (d := 159) (as := [.ref 63, .int x3, .int x1]) (rest := []) (Ld := [some (.ref 63), some (.int x3), some (.int x1), none, none, none]) (pc' := 29) (st' := [.int y2.1]) (r := some (.int y2.1)) (h1 := zH y2.2 P) rfl rfl rfl rfl rfl rfl rfl rfl rfl (xp_D_orders _ _ _ _ _ hy2) ?_
      refine wp_eq (a := y2.1) (b := 0) (s1 := (44, [some (.ref 63), some (.int x1), some (.int x2), some (.int x3)], [], zH y2.2 P)) (s2 := (32, [some (.ref 63), some (.int x1), some (.int x2), some (.int x3)], [], zH y2.2 P)) rfl (fun c2 => ?_) (fun c2 => ?_)
      · rw [if_pos c2] at hx
        refine wp_blk (pc' := 15) (L' := [some (.ref 63), some (.int x1), some (.int x2), some (.int (x3 + 1))]) (st' := []) (h' := zH y2.2 P) 2 rfl ?_
        exact ih _ _ _ _ _ hx
      · rw [if_neg c2] at hx
        refine wp_blk (pc' := 34) (L' := [some (.ref 63), some (.int x1), some (.int x2), some (.int x3)]) (st' := [.int (-1), .ref 63]) (h' := zH y2.2 P) 2 rfl ?_
        obtain ⟨y3, hy3, hx⟩ := zbind hx
        refine wp_callf (d := 141) (as := [.ref 63, .int (-1)]) (rest := []) (Ld := [some (.ref 63), some (.int (-1)), none, none]) (pc' := 37) (st' := []) (r := none) (h1 := zH y3.2 P) rfl rfl rfl rfl rfl rfl rfl rfl rfl (xp_D_grinds _ _ _ _ hy3) ?_
        refine wp_blk (pc' := 39) (L' := [some (.ref 63), some (.int x1), some (.int x2), some (.int x3)]) (st' := [.ref 63, .int x2]) (h' := zH y3.2 P) 2 rfl ?_
        obtain ⟨y4, hy4, hx⟩ := zbind hx
        refine wp_callf (d := 160) (as := [.ref 63]) (rest := [.int x2]) (Ld := [some (.ref 63), none, none]) (pc' := 42) (st' := [.int y4.1, .int x2]) (r := some (.int y4.1)) (h1 := zH y4.2 P) rfl rfl rfl rfl rfl rfl rfl rfl rfl (xp_D_bran _ _  _ hy4) ?_
        refine wp_blk (pc' := 15) (L' := [some (.ref 63), some (.int x1), some (.int (x2 &&& y4.1)), some (.int (x3 + 1))]) (st' := []) (h' := zH y4.2 P) 4 rfl ?_
        exact ih _ _ _ _ _ hx
set_option maxRecDepth 100000 in
theorem xp_D_helpless {X : Nat × (Nat → Int32)} (I : Nat → Nat → Int32) (P : Nat → Nat → Option Nat) (r : Int32 × (Nat → Nat → Int32)) (hx : x_D_helpless I = some r) : Wf X 161 [some (.ref 63), none, none, none] (zH I P) (some (.int r.1)) (zH r.2 P) := by
  unfold Wf
  unfold x_D_helpless at hx
  refine wp_blk (pc' := 1) (L' := [some (.ref 63), none, none, none]) (st' := [.ref 63]) (h' := zH I P) 1 rfl ?_
  refine wp_callf (d := 156) (as := [.ref 63]) (rest := []) (Ld := [some (.ref 63)]) (pc' := 4) (st' := [.int (f_D_there I)]) (r := some (.int (f_D_there I))) (h1 := zH I P) rfl rfl rfl rfl rfl rfl rfl rfl rfl (sp_D_there I P) ?_
  obtain ⟨y1, hy1, hx⟩ := zbind hx
  refine wp_callf (d := 157) (as := [.int (f_D_there I)]) (rest := []) (Ld := [some (.int (f_D_there I)), none, none]) (pc' := 7) (st' := [.int y1.1]) (r := some (.int y1.1)) (h1 := zH y1.2 P) rfl rfl rfl rfl rfl rfl rfl rfl rfl (xp_D_ones _ _ _ _ hy1) ?_
  refine wp_blk (pc' := 9) (L' := [some (.ref 63), some (.int y1.1), none, none]) (st' := [.ref 63]) (h' := zH y1.2 P) 2 rfl ?_
  refine wp_callf (d := 156) (as := [.ref 63]) (rest := []) (Ld := [some (.ref 63)]) (pc' := 12) (st' := [.int (f_D_there y1.2)]) (r := some (.int (f_D_there y1.2))) (h1 := zH y1.2 P) rfl rfl rfl rfl rfl rfl rfl rfl rfl (sp_D_there y1.2 P) ?_
  refine wp_blk (pc' := 15) (L' := [some (.ref 63), some (.int y1.1), some (.int (f_D_there y1.2)), some (.int 0)]) (st' := []) (h' := zH y1.2 P) 3 rfl ?_
  exact lp_D_helpless_15 P _ _ _ _ _ _ hx
def l_D_words : Nat → Nat → (Nat → Nat → Int32) → Int32 → Int32 → Int32 → Int32 → Int32 → Int32 → Option (Int32 × (Nat → Nat → Int32))
  | 0, _, _, _, _, _, _, _, _ => none
  | n + 1, hd, I, x1, x2, x3, x4, x5, x6 => if hd = 0 then (if 1 <<< ((I 63 2) &&& 31) ≤ x5 then (some (x3, I)) else (if (x5 >>> (x1 &&& 31)) &&& 1 = 0 then ((x_D_ones I x5).bind (fun q2 => if x4 ≤ q2.1 then (l_D_words n 0 q2.2 x1 x2 x3 x4 (x5 + 1) 0) else (l_D_words n 1 q2.2 x1 x2 x3 x4 x5 0))) else (l_D_words n 0 I x1 x2 x3 x4 (x5 + 1) 0))) else (if hd = 1 then (if I 63 2 ≤ x6 then ((x_D_today I).bind (fun q3 => if zinb x1 6 = true then (if f_D_breadOf q3.2 (q3.2 73 x1.toNatClampNeg) < x2 then ((x_D_lets q3.2).bind (fun q4 => l_D_words n 0 q4.2 x1 x2 x3 x4 (x5 + 1) 0)) else ((x_D_ones q3.2 x5).bind (fun q5 => (x_D_lets q5.2).bind (fun q6 => l_D_words n 0 q6.2 x1 x2 x5 q5.1 (x5 + 1) 0)))) else none)) else (if (x5 >>> (x6 &&& 31)) &&& 1 = 1 then (if zinb ((6 + (6 * x6)) + x1) 45 = true then (l_D_words n 1 (zui I 68 (((6 + (6 * x6)) + x1).toNatClampNeg) 6) x1 x2 x3 x4 x5 (x6 + 1)) else none) else (if zinb ((6 + (6 * x6)) + x1) 45 = true then (if zinb ((6 + (6 * x6)) + x1) 45 = true then (l_D_words n 1 (zui I 68 (((6 + (6 * x6)) + x1).toNatClampNeg) (I 68 (((6 + (6 * x6)) + x1).toNatClampNeg))) x1 x2 x3 x4 x5 (x6 + 1)) else none) else none))) else none)
def x_D_words (I : Nat → Nat → Int32) (c b : Int32) : Option (Int32 × (Nat → Nat → Int32)) := if f_D_isOne I c = 0 then (some (-1, I)) else (if f_D_in I b 0 3 = 0 then (some (-1, I)) else (if f_D_isAway I c = 0 then ((x_D_holds I).bind (fun q1 => l_D_words 5000 0 q1.2 c b (-4) 99 0 0)) else (some (-2, I))))
set_option maxRecDepth 100000 in
theorem lp_D_words {X : Nat × (Nat → Int32)} (P : Nat → Nat → Option Nat) : ∀ (n : Nat), (∀ (I : Nat → Nat → Int32) (x1 : Int32) (x2 : Int32) (x3 : Int32) (x4 : Int32) (x5 : Int32) (x6 : Int32) (r : Int32 × (Nat → Nat → Int32)), l_D_words n 0 I x1 x2 x3 x4 x5 x6 = some r → Wp X 162 44 [some (.ref 63), some (.int x1), some (.int x2), some (.int x3), some (.int x4), some (.int x5), none] [] (zH I P) (fun r2 h2 => r2 = some (.int r.1) ∧ h2 = zH r.2 P)) ∧ (∀ (I : Nat → Nat → Int32) (x1 : Int32) (x2 : Int32) (x3 : Int32) (x4 : Int32) (x5 : Int32) (x6 : Int32) (r : Int32 × (Nat → Nat → Int32)), l_D_words n 1 I x1 x2 x3 x4 x5 x6 = some r → Wp X 162 77 [some (.ref 63), some (.int x1), some (.int x2), some (.int x3), some (.int x4), some (.int x5), some (.int x6)] [] (zH I P) (fun r2 h2 => r2 = some (.int r.1) ∧ h2 = zH r.2 P)) := by
  intro n
  induction n with
  | zero => exact ⟨fun I x1 x2 x3 x4 x5 x6 r hx => (by cases hx), fun I x1 x2 x3 x4 x5 x6 r hx => (by cases hx)⟩
  | succ n ih =>
    refine ⟨?_, ?_⟩
    · intro I x1 x2 x3 x4 x5 x6 r hx
      rw [l_D_words] at hx
      rw [if_pos rfl] at hx
      refine wp_blk (pc' := 52) (L' := [some (.ref 63), some (.int x1), some (.int x2), some (.int x3), some (.int x4), some (.int x5), none]) (st' := [.int (1 <<< ((I 63 2) &&& 31)), .int x5]) (h' := zH I P) 5 rfl ?_
      refine wp_ge (a := x5) (b := 1 <<< ((I 63 2) &&& 31)) (s1 := (201, [some (.ref 63), some (.int x1), some (.int x2), some (.int x3), some (.int x4), some (.int x5), none], [], zH I P)) (s2 := (55, [some (.ref 63), some (.int x1), some (.int x2), some (.int x3), some (.int x4), some (.int x5), none], [], zH I P)) rfl (fun c1 => ?_) (fun c1 => ?_)
      · rw [if_pos c1] at hx
        refine wp_blk (pc' := 202) (L' := [some (.ref 63), some (.int x1), some (.int x2), some (.int x3), some (.int x4), some (.int x5), none]) (st' := [.int x3]) (h' := zH I P) 1 rfl ?_
        cases hx
        exact wp_end rfl rfl ⟨rfl, rfl⟩
      · rw [if_neg c1] at hx
        refine wp_blk (pc' := 61) (L' := [some (.ref 63), some (.int x1), some (.int x2), some (.int x3), some (.int x4), some (.int x5), none]) (st' := [.int ((x5 >>> (x1 &&& 31)) &&& 1)]) (h' := zH I P) 5 rfl ?_
        refine wp_ne (a := (x5 >>> (x1 &&& 31)) &&& 1) (b := 0) (s1 := (195, [some (.ref 63), some (.int x1), some (.int x2), some (.int x3), some (.int x4), some (.int x5), none], [], zH I P)) (s2 := (64, [some (.ref 63), some (.int x1), some (.int x2), some (.int x3), some (.int x4), some (.int x5), none], [], zH I P)) rfl (fun c2 => ?_) (fun c2 => ?_)
        · rw [if_neg c2] at hx
          refine wp_blk (pc' := 44) (L' := [some (.ref 63), some (.int x1), some (.int x2), some (.int x3), some (.int x4), some (.int (x5 + 1)), none]) (st' := []) (h' := zH I P) 2 rfl ?_
          exact ih.1 _ _ _ _ _ _ _ _ hx
        · rw [if_pos c2] at hx
          refine wp_blk (pc' := 66) (L' := [some (.ref 63), some (.int x1), some (.int x2), some (.int x3), some (.int x4), some (.int x5), none]) (st' := [.int x5]) (h' := zH I P) 1 rfl ?_
          obtain ⟨y1, hy1, hx⟩ := zbind hx
          refine wp_callf (d := 157) (as := [.int x5]) (rest := []) (Ld := [some (.int x5), none, none]) (pc' := 69) (st' := [.int y1.1]) (r := some (.int y1.1)) (h1 := zH y1.2 P) rfl rfl rfl rfl rfl rfl rfl rfl rfl (xp_D_ones _ _ _ _ hy1) ?_
          refine wp_blk (pc' := 71) (L' := [some (.ref 63), some (.int x1), some (.int x2), some (.int x3), some (.int x4), some (.int x5), none]) (st' := [.int x4, .int y1.1]) (h' := zH y1.2 P) 1 rfl ?_
          refine wp_ge (a := y1.1) (b := x4) (s1 := (195, [some (.ref 63), some (.int x1), some (.int x2), some (.int x3), some (.int x4), some (.int x5), none], [], zH y1.2 P)) (s2 := (74, [some (.ref 63), some (.int x1), some (.int x2), some (.int x3), some (.int x4), some (.int x5), none], [], zH y1.2 P)) rfl (fun c3 => ?_) (fun c3 => ?_)
          · rw [if_pos c3] at hx
            refine wp_blk (pc' := 44) (L' := [some (.ref 63), some (.int x1), some (.int x2), some (.int x3), some (.int x4), some (.int (x5 + 1)), none]) (st' := []) (h' := zH y1.2 P) 2 rfl ?_
            exact ih.1 _ _ _ _ _ _ _ _ hx
          · rw [if_neg c3] at hx
            refine wp_blk (pc' := 77) (L' := [some (.ref 63), some (.int x1), some (.int x2), some (.int x3), some (.int x4), some (.int x5), some (.int 0)]) (st' := []) (h' := zH y1.2 P) 2 rfl ?_
            exact ih.2 _ _ _ _ _ _ _ _ hx
    · intro I x1 x2 x3 x4 x5 x6 r hx
      rw [l_D_words] at hx
      rw [if_neg (by decide)] at hx
      rw [if_pos rfl] at hx
      refine wp_blk (pc' := 83) (L' := [some (.ref 63), some (.int x1), some (.int x2), some (.int x3), some (.int x4), some (.int x5), some (.int x6)]) (st' := [.int (I 63 2), .int x6]) (h' := zH I P) 3 rfl ?_
      refine wp_ge (a := x6) (b := I 63 2) (s1 := (138, [some (.ref 63), some (.int x1), some (.int x2), some (.int x3), some (.int x4), some (.int x5), some (.int x6)], [], zH I P)) (s2 := (86, [some (.ref 63), some (.int x1), some (.int x2), some (.int x3), some (.int x4), some (.int x5), some (.int x6)], [], zH I P)) rfl (fun c1 => ?_) (fun c1 => ?_)
      · rw [if_pos c1] at hx
        refine wp_blk (pc' := 139) (L' := [some (.ref 63), some (.int x1), some (.int x2), some (.int x3), some (.int x4), some (.int x5), some (.int x6)]) (st' := [.ref 63]) (h' := zH I P) 1 rfl ?_
        obtain ⟨y1, hy1, hx⟩ := zbind hx
        refine wp_callf (d := 139) (as := [.ref 63]) (rest := []) (Ld := [some (.ref 63)]) (pc' := 142) (st' := []) (r := none) (h1 := zH y1.2 P) rfl rfl rfl rfl rfl rfl rfl rfl rfl (xp_D_today _ _  _ hy1) ?_
        refine wp_blk (pc' := 147) (L' := [some (.ref 63), some (.int x1), some (.int x2), some (.int x3), some (.int x4), some (.int x5), some (.int x6)]) (st' := [.int x1, .ref 73]) (h' := zH y1.2 P) 3 rfl ?_
        obtain ⟨c2, hx⟩ := zite hx
        refine wp_chk (P := zinb x1 6 = true) (pc' := 148) (L' := [some (.ref 63), some (.int x1), some (.int x2), some (.int x3), some (.int x4), some (.int x5), some (.int x6)]) (st' := [.int (y1.2 73 x1.toNatClampNeg)]) (h' := zH y1.2 P) rfl c2 ?_
        refine wp_callf (d := 143) (as := [.int (y1.2 73 x1.toNatClampNeg)]) (rest := []) (Ld := [some (.int (y1.2 73 x1.toNatClampNeg))]) (pc' := 151) (st' := [.int (f_D_breadOf y1.2 (y1.2 73 x1.toNatClampNeg))]) (r := some (.int (f_D_breadOf y1.2 (y1.2 73 x1.toNatClampNeg)))) (h1 := zH y1.2 P) rfl rfl rfl rfl rfl rfl rfl rfl rfl (sp_D_breadOf y1.2 P (y1.2 73 x1.toNatClampNeg)) ?_
        refine wp_blk (pc' := 152) (L' := [some (.ref 63), some (.int x1), some (.int x2), some (.int x3), some (.int x4), some (.int x5), some (.int x6)]) (st' := [.int x2, .int (f_D_breadOf y1.2 (y1.2 73 x1.toNatClampNeg))]) (h' := zH y1.2 P) 1 rfl ?_
        refine wp_lt (a := f_D_breadOf y1.2 (y1.2 73 x1.toNatClampNeg)) (b := x2) (s1 := (159, [some (.ref 63), some (.int x1), some (.int x2), some (.int x3), some (.int x4), some (.int x5), some (.int x6)], [], zH y1.2 P)) (s2 := (155, [some (.ref 63), some (.int x1), some (.int x2), some (.int x3), some (.int x4), some (.int x5), some (.int x6)], [], zH y1.2 P)) rfl (fun c3 => ?_) (fun c3 => ?_)
        · rw [if_pos c3] at hx
          refine wp_blk (pc' := 192) (L' := [some (.ref 63), some (.int x1), some (.int x2), some (.int x3), some (.int x4), some (.int x5), some (.int 0)]) (st' := [.ref 63]) (h' := zH y1.2 P) 11 rfl ?_
          obtain ⟨y2, hy2, hx⟩ := zbind hx
          refine wp_callf (d := 154) (as := [.ref 63]) (rest := []) (Ld := [some (.ref 63), none]) (pc' := 195) (st' := []) (r := none) (h1 := zH y2.2 P) rfl rfl rfl rfl rfl rfl rfl rfl rfl (xp_D_lets _ _  _ hy2) ?_
          refine wp_blk (pc' := 44) (L' := [some (.ref 63), some (.int x1), some (.int x2), some (.int x3), some (.int x4), some (.int (x5 + 1)), some (.int 0)]) (st' := []) (h' := zH y2.2 P) 2 rfl ?_
          exact wp_forget (ih.1 _ _ _ _ _ _ _ _ hx) (zle_c (zle_c (zle_c (zle_c (zle_c (zle_c (zle_n zle_nil)))))))
        · rw [if_neg c3] at hx
          refine wp_blk (pc' := 181) (L' := [some (.ref 63), some (.int x1), some (.int x2), some (.int x5), some (.int x4), some (.int x5), some (.int 1)]) (st' := [.int x5]) (h' := zH y1.2 P) 11 rfl ?_
          obtain ⟨y3, hy3, hx⟩ := zbind hx
          refine wp_callf (d := 157) (as := [.int x5]) (rest := []) (Ld := [some (.int x5), none, none]) (pc' := 184) (st' := [.int y3.1]) (r := some (.int y3.1)) (h1 := zH y3.2 P) rfl rfl rfl rfl rfl rfl rfl rfl rfl (xp_D_ones _ _ _ _ hy3) ?_
          refine wp_blk (pc' := 192) (L' := [some (.ref 63), some (.int x1), some (.int x2), some (.int x5), some (.int y3.1), some (.int x5), some (.int 1)]) (st' := [.ref 63]) (h' := zH y3.2 P) 3 rfl ?_
          obtain ⟨y4, hy4, hx⟩ := zbind hx
          refine wp_callf (d := 154) (as := [.ref 63]) (rest := []) (Ld := [some (.ref 63), none]) (pc' := 195) (st' := []) (r := none) (h1 := zH y4.2 P) rfl rfl rfl rfl rfl rfl rfl rfl rfl (xp_D_lets _ _  _ hy4) ?_
          refine wp_blk (pc' := 44) (L' := [some (.ref 63), some (.int x1), some (.int x2), some (.int x5), some (.int y3.1), some (.int (x5 + 1)), some (.int 1)]) (st' := []) (h' := zH y4.2 P) 2 rfl ?_
          exact wp_forget (ih.1 _ _ _ _ _ _ _ _ hx) (zle_c (zle_c (zle_c (zle_c (zle_c (zle_c (zle_n zle_nil)))))))
      · rw [if_neg c1] at hx
        refine wp_blk (pc' := 108) (L' := [some (.ref 63), some (.int x1), some (.int x2), some (.int x3), some (.int x4), some (.int x5), some (.int x6)]) (st' := [.int 1, .int ((x5 >>> (x6 &&& 31)) &&& 1), .int ((6 + (6 * x6)) + x1), .ref 68]) (h' := zH I P) 15 rfl ?_
        refine wp_ne (a := (x5 >>> (x6 &&& 31)) &&& 1) (b := 1) (s1 := (116, [some (.ref 63), some (.int x1), some (.int x2), some (.int x3), some (.int x4), some (.int x5), some (.int x6)], [.int ((6 + (6 * x6)) + x1), .ref 68], zH I P)) (s2 := (111, [some (.ref 63), some (.int x1), some (.int x2), some (.int x3), some (.int x4), some (.int x5), some (.int x6)], [.int ((6 + (6 * x6)) + x1), .ref 68], zH I P)) rfl (fun c4 => ?_) (fun c4 => ?_)
        · rw [if_neg c4] at hx
          refine wp_blk (pc' := 130) (L' := [some (.ref 63), some (.int x1), some (.int x2), some (.int x3), some (.int x4), some (.int x5), some (.int x6)]) (st' := [.int ((6 + (6 * x6)) + x1), .ref 68, .int ((6 + (6 * x6)) + x1), .ref 68]) (h' := zH I P) 9 rfl ?_
          obtain ⟨c5, hx⟩ := zite hx
          refine wp_chk (P := zinb ((6 + (6 * x6)) + x1) 45 = true) (pc' := 131) (L' := [some (.ref 63), some (.int x1), some (.int x2), some (.int x3), some (.int x4), some (.int x5), some (.int x6)]) (st' := [.int (I 68 (((6 + (6 * x6)) + x1).toNatClampNeg)), .int ((6 + (6 * x6)) + x1), .ref 68]) (h' := zH I P) rfl c5 ?_
          obtain ⟨c6, hx⟩ := zite hx
          refine wp_chk (P := zinb ((6 + (6 * x6)) + x1) 45 = true) (pc' := 132) (L' := [some (.ref 63), some (.int x1), some (.int x2), some (.int x3), some (.int x4), some (.int x5), some (.int x6)]) (st' := []) (h' := zH (zui I 68 (((6 + (6 * x6)) + x1).toNatClampNeg) (I 68 (((6 + (6 * x6)) + x1).toNatClampNeg))) P) rfl c6 ?_
          refine wp_blk (pc' := 77) (L' := [some (.ref 63), some (.int x1), some (.int x2), some (.int x3), some (.int x4), some (.int x5), some (.int (x6 + 1))]) (st' := []) (h' := zH (zui I 68 (((6 + (6 * x6)) + x1).toNatClampNeg) (I 68 (((6 + (6 * x6)) + x1).toNatClampNeg))) P) 2 rfl ?_
          exact ih.2 _ _ _ _ _ _ _ _ hx
        · rw [if_pos c4] at hx
          refine wp_blk (pc' := 131) (L' := [some (.ref 63), some (.int x1), some (.int x2), some (.int x3), some (.int x4), some (.int x5), some (.int x6)]) (st' := [.int 6, .int ((6 + (6 * x6)) + x1), .ref 68]) (h' := zH I P) 2 rfl ?_
          obtain ⟨c7, hx⟩ := zite hx
          refine wp_chk (P := zinb ((6 + (6 * x6)) + x1) 45 = true) (pc' := 132) (L' := [some (.ref 63), some (.int x1), some (.int x2), some (.int x3), some (.int x4), some (.int x5), some (.int x6)]) (st' := []) (h' := zH (zui I 68 (((6 + (6 * x6)) + x1).toNatClampNeg) 6) P) rfl c7 ?_
          refine wp_blk (pc' := 77) (L' := [some (.ref 63), some (.int x1), some (.int x2), some (.int x3), some (.int x4), some (.int x5), some (.int (x6 + 1))]) (st' := []) (h' := zH (zui I 68 (((6 + (6 * x6)) + x1).toNatClampNeg) 6) P) 2 rfl ?_
          exact ih.2 _ _ _ _ _ _ _ _ hx
set_option maxRecDepth 100000 in
theorem xp_D_words {X : Nat × (Nat → Int32)} (I : Nat → Nat → Int32) (P : Nat → Nat → Option Nat) (c b : Int32) (r : Int32 × (Nat → Nat → Int32)) (hx : x_D_words I c b = some r) : Wf X 162 [some (.ref 63), some (.int c), some (.int b), none, none, none, none] (zH I P) (some (.int r.1)) (zH r.2 P) := by
  unfold Wf
  unfold x_D_words at hx
  refine wp_blk (pc' := 2) (L' := [some (.ref 63), some (.int c), some (.int b), none, none, none, none]) (st' := [.int c, .ref 63]) (h' := zH I P) 2 rfl ?_
  refine wp_callf (d := 133) (as := [.ref 63, .int c]) (rest := []) (Ld := [some (.ref 63), some (.int c)]) (pc' := 5) (st' := [.int (f_D_isOne I c)]) (r := some (.int (f_D_isOne I c))) (h1 := zH I P) rfl rfl rfl rfl rfl rfl rfl rfl rfl (sp_D_isOne I P c) ?_
  refine wp_eq (a := f_D_isOne I c) (b := 0) (s1 := (17, [some (.ref 63), some (.int c), some (.int b), none, none, none, none], [], zH I P)) (s2 := (8, [some (.ref 63), some (.int c), some (.int b), none, none, none, none], [], zH I P)) rfl (fun c1 => ?_) (fun c1 => ?_)
  · rw [if_pos c1] at hx
    refine wp_blk (pc' := 18) (L' := [some (.ref 63), some (.int c), some (.int b), none, none, none, none]) (st' := [.int (-1)]) (h' := zH I P) 1 rfl ?_
    cases hx
    exact wp_end rfl rfl ⟨rfl, rfl⟩
  · rw [if_neg c1] at hx
    refine wp_blk (pc' := 11) (L' := [some (.ref 63), some (.int c), some (.int b), none, none, none, none]) (st' := [.int 3, .int 0, .int b]) (h' := zH I P) 3 rfl ?_
    refine wp_callf (d := 123) (as := [.int b, .int 0, .int 3]) (rest := []) (Ld := [some (.int b), some (.int 0), some (.int 3)]) (pc' := 14) (st' := [.int (f_D_in I b 0 3)]) (r := some (.int (f_D_in I b 0 3))) (h1 := zH I P) rfl rfl rfl rfl rfl rfl rfl rfl rfl (sp_D_in I P b 0 3) ?_
    refine wp_ne (a := f_D_in I b 0 3) (b := 0) (s1 := (19, [some (.ref 63), some (.int c), some (.int b), none, none, none, none], [], zH I P)) (s2 := (17, [some (.ref 63), some (.int c), some (.int b), none, none, none, none], [], zH I P)) rfl (fun c2 => ?_) (fun c2 => ?_)
    · rw [if_neg c2] at hx
      refine wp_blk (pc' := 21) (L' := [some (.ref 63), some (.int c), some (.int b), none, none, none, none]) (st' := [.int c, .ref 63]) (h' := zH I P) 2 rfl ?_
      refine wp_callf (d := 135) (as := [.ref 63, .int c]) (rest := []) (Ld := [some (.ref 63), some (.int c)]) (pc' := 24) (st' := [.int (f_D_isAway I c)]) (r := some (.int (f_D_isAway I c))) (h1 := zH I P) rfl rfl rfl rfl rfl rfl rfl rfl rfl (sp_D_isAway I P c) ?_
      refine wp_eq (a := f_D_isAway I c) (b := 0) (s1 := (30, [some (.ref 63), some (.int c), some (.int b), none, none, none, none], [], zH I P)) (s2 := (27, [some (.ref 63), some (.int c), some (.int b), none, none, none, none], [], zH I P)) rfl (fun c3 => ?_) (fun c3 => ?_)
      · rw [if_pos c3] at hx
        refine wp_blk (pc' := 31) (L' := [some (.ref 63), some (.int c), some (.int b), none, none, none, none]) (st' := [.ref 63]) (h' := zH I P) 1 rfl ?_
        obtain ⟨y1, hy1, hx⟩ := zbind hx
        refine wp_callf (d := 153) (as := [.ref 63]) (rest := []) (Ld := [some (.ref 63), none]) (pc' := 34) (st' := []) (r := none) (h1 := zH y1.2 P) rfl rfl rfl rfl rfl rfl rfl rfl rfl (xp_D_holds _ _  _ hy1) ?_
        refine wp_blk (pc' := 44) (L' := [some (.ref 63), some (.int c), some (.int b), some (.int (-4)), some (.int 99), some (.int 0), none]) (st' := []) (h' := zH y1.2 P) 6 rfl ?_
        exact (lp_D_words P _).1 _ _ _ _ _ _ _ _ hx
      · rw [if_neg c3] at hx
        refine wp_blk (pc' := 29) (L' := [some (.ref 63), some (.int c), some (.int b), none, none, none, none]) (st' := [.int (-2)]) (h' := zH I P) 1 rfl ?_
        cases hx
        exact wp_end rfl rfl ⟨rfl, rfl⟩
    · rw [if_pos c2] at hx
      refine wp_blk (pc' := 18) (L' := [some (.ref 63), some (.int c), some (.int b), none, none, none, none]) (st' := [.int (-1)]) (h' := zH I P) 1 rfl ?_
      cases hx
      exact wp_end rfl rfl ⟨rfl, rfl⟩
def x_D_see (I : Nat → Nat → Int32) (c v : Int32) : Option (Int32 × (Nat → Nat → Int32)) := if f_D_isOne I c = 0 then (some (-1, I)) else (if f_D_in I v 0 9 = 0 then (some (-1, I)) else (if f_D_isAway I c = 0 then (if I 63 13 = 6 then (some (-3, I)) else (if zinb (I 63 13) 6 = true then (some ((I 63 13) + 1, (zui (zui I 71 ((I 63 13).toNatClampNeg) ((10 * c) + v)) 63 13 ((I 63 13) + 1)))) else none)) else (some (-2, I))))
set_option maxRecDepth 100000 in
theorem xp_D_see {X : Nat × (Nat → Int32)} (I : Nat → Nat → Int32) (P : Nat → Nat → Option Nat) (c v : Int32) (r : Int32 × (Nat → Nat → Int32)) (hx : x_D_see I c v = some r) : Wf X 163 [some (.ref 63), some (.int c), some (.int v)] (zH I P) (some (.int r.1)) (zH r.2 P) := by
  unfold Wf
  unfold x_D_see at hx
  refine wp_blk (pc' := 2) (L' := [some (.ref 63), some (.int c), some (.int v)]) (st' := [.int c, .ref 63]) (h' := zH I P) 2 rfl ?_
  refine wp_callf (d := 133) (as := [.ref 63, .int c]) (rest := []) (Ld := [some (.ref 63), some (.int c)]) (pc' := 5) (st' := [.int (f_D_isOne I c)]) (r := some (.int (f_D_isOne I c))) (h1 := zH I P) rfl rfl rfl rfl rfl rfl rfl rfl rfl (sp_D_isOne I P c) ?_
  refine wp_eq (a := f_D_isOne I c) (b := 0) (s1 := (18, [some (.ref 63), some (.int c), some (.int v)], [], zH I P)) (s2 := (8, [some (.ref 63), some (.int c), some (.int v)], [], zH I P)) rfl (fun c1 => ?_) (fun c1 => ?_)
  · rw [if_pos c1] at hx
    refine wp_blk (pc' := 19) (L' := [some (.ref 63), some (.int c), some (.int v)]) (st' := [.int (-1)]) (h' := zH I P) 1 rfl ?_
    cases hx
    exact wp_end rfl rfl ⟨rfl, rfl⟩
  · rw [if_neg c1] at hx
    refine wp_blk (pc' := 12) (L' := [some (.ref 63), some (.int c), some (.int v)]) (st' := [.int 9, .int 0, .int v]) (h' := zH I P) 3 rfl ?_
    refine wp_callf (d := 123) (as := [.int v, .int 0, .int 9]) (rest := []) (Ld := [some (.int v), some (.int 0), some (.int 9)]) (pc' := 15) (st' := [.int (f_D_in I v 0 9)]) (r := some (.int (f_D_in I v 0 9))) (h1 := zH I P) rfl rfl rfl rfl rfl rfl rfl rfl rfl (sp_D_in I P v 0 9) ?_
    refine wp_ne (a := f_D_in I v 0 9) (b := 0) (s1 := (20, [some (.ref 63), some (.int c), some (.int v)], [], zH I P)) (s2 := (18, [some (.ref 63), some (.int c), some (.int v)], [], zH I P)) rfl (fun c2 => ?_) (fun c2 => ?_)
    · rw [if_neg c2] at hx
      refine wp_blk (pc' := 22) (L' := [some (.ref 63), some (.int c), some (.int v)]) (st' := [.int c, .ref 63]) (h' := zH I P) 2 rfl ?_
      refine wp_callf (d := 135) (as := [.ref 63, .int c]) (rest := []) (Ld := [some (.ref 63), some (.int c)]) (pc' := 25) (st' := [.int (f_D_isAway I c)]) (r := some (.int (f_D_isAway I c))) (h1 := zH I P) rfl rfl rfl rfl rfl rfl rfl rfl rfl (sp_D_isAway I P c) ?_
      refine wp_eq (a := f_D_isAway I c) (b := 0) (s1 := (31, [some (.ref 63), some (.int c), some (.int v)], [], zH I P)) (s2 := (28, [some (.ref 63), some (.int c), some (.int v)], [], zH I P)) rfl (fun c3 => ?_) (fun c3 => ?_)
      · rw [if_pos c3] at hx
        refine wp_blk (pc' := 37) (L' := [some (.ref 63), some (.int c), some (.int v)]) (st' := [.int 6, .int (I 63 13)]) (h' := zH I P) 3 rfl ?_
        refine wp_ne (a := I 63 13) (b := 6) (s1 := (43, [some (.ref 63), some (.int c), some (.int v)], [], zH I P)) (s2 := (40, [some (.ref 63), some (.int c), some (.int v)], [], zH I P)) rfl (fun c4 => ?_) (fun c4 => ?_)
        · rw [if_neg c4] at hx
          refine wp_blk (pc' := 57) (L' := [some (.ref 63), some (.int c), some (.int v)]) (st' := [.int ((10 * c) + v), .int (I 63 13), .ref 71]) (h' := zH I P) 9 rfl ?_
          obtain ⟨c5, hx⟩ := zite hx
          refine wp_chk (P := zinb (I 63 13) 6 = true) (pc' := 58) (L' := [some (.ref 63), some (.int c), some (.int v)]) (st' := []) (h' := zH (zui I 71 ((I 63 13).toNatClampNeg) ((10 * c) + v)) P) rfl c5 ?_
          refine wp_blk (pc' := 72) (L' := [some (.ref 63), some (.int c), some (.int v)]) (st' := [.int ((I 63 13) + 1)]) (h' := zH (zui (zui I 71 ((I 63 13).toNatClampNeg) ((10 * c) + v)) 63 13 ((I 63 13) + 1)) P) 8 rfl ?_
          cases hx
          exact wp_end rfl rfl ⟨rfl, rfl⟩
        · rw [if_pos c4] at hx
          refine wp_blk (pc' := 42) (L' := [some (.ref 63), some (.int c), some (.int v)]) (st' := [.int (-3)]) (h' := zH I P) 1 rfl ?_
          cases hx
          exact wp_end rfl rfl ⟨rfl, rfl⟩
      · rw [if_neg c3] at hx
        refine wp_blk (pc' := 30) (L' := [some (.ref 63), some (.int c), some (.int v)]) (st' := [.int (-2)]) (h' := zH I P) 1 rfl ?_
        cases hx
        exact wp_end rfl rfl ⟨rfl, rfl⟩
    · rw [if_pos c2] at hx
      refine wp_blk (pc' := 19) (L' := [some (.ref 63), some (.int c), some (.int v)]) (st' := [.int (-1)]) (h' := zH I P) 1 rfl ?_
      cases hx
      exact wp_end rfl rfl ⟨rfl, rfl⟩
def x_D_forget (I : Nat → Nat → Int32) : Option (Int32 × (Nat → Nat → Int32)) := some (I 63 13, (zui I 63 13 0))
set_option maxRecDepth 100000 in
theorem xp_D_forget {X : Nat × (Nat → Int32)} (I : Nat → Nat → Int32) (P : Nat → Nat → Option Nat) (r : Int32 × (Nat → Nat → Int32)) (hx : x_D_forget I = some r) : Wf X 164 [some (.ref 63), none] (zH I P) (some (.int r.1)) (zH r.2 P) := by
  unfold Wf
  unfold x_D_forget at hx
  refine wp_blk (pc' := 11) (L' := [some (.ref 63), some (.int (I 63 13))]) (st' := [.int (I 63 13)]) (h' := zH (zui I 63 13 0) P) 7 rfl ?_
  cases hx
  exact wp_end rfl rfl ⟨rfl, rfl⟩
def l_D_isSo_4 : Nat → (Nat → Nat → Int32) → Int32 → Int32 → Option (Int32 × (Nat → Nat → Int32))
  | 0, _, _, _ => none
  | n + 1, I, x1, x2 => if I 63 13 ≤ x2 then (if x1 = 1 ∨ x1 = 0 then some (x1, I) else none) else (if x1 = 0 then (l_D_isSo_4 n I 0 (x2 + 1)) else (if zinb x2 6 = true then (if f_D_isAway I ((I 71 x2.toNatClampNeg) / 10) = 0 then (if zinb x2 6 = true then (if zinb ((I 71 x2.toNatClampNeg) / 10) 6 = true then (if zinb x2 6 = true then (if I 73 (((I 71 x2.toNatClampNeg) / 10).toNatClampNeg) = (I 71 x2.toNatClampNeg) - (I 71 x2.toNatClampNeg) / 10 * 10 then (l_D_isSo_4 n I 1 (x2 + 1)) else (l_D_isSo_4 n I 0 (x2 + 1))) else none) else none) else none) else (l_D_isSo_4 n I 0 (x2 + 1))) else none))
def x_D_isSo (I : Nat → Nat → Int32) : Option (Int32 × (Nat → Nat → Int32)) := l_D_isSo_4 1000 I 1 0
set_option maxRecDepth 100000 in
theorem lp_D_isSo_4 {X : Nat × (Nat → Int32)} (P : Nat → Nat → Option Nat) : ∀ (n : Nat) (I : Nat → Nat → Int32) (x1 : Int32) (x2 : Int32) (r : Int32 × (Nat → Nat → Int32)), l_D_isSo_4 n I x1 x2 = some r → Wp X 166 4 [some (.ref 63), some (.int x1), some (.int x2)] [] (zH I P) (fun r2 h2 => r2 = some (.int r.1) ∧ h2 = zH r.2 P) := by
  intro n
  induction n with
  | zero => intro I x1 x2 r hx; cases hx
  | succ n ih =>
    intro I x1 x2 r hx
    rw [l_D_isSo_4] at hx
    refine wp_blk (pc' := 9) (L' := [some (.ref 63), some (.int x1), some (.int x2)]) (st' := [.int (I 63 13), .int x2]) (h' := zH I P) 3 rfl ?_
    refine wp_ge (a := x2) (b := I 63 13) (s1 := (70, [some (.ref 63), some (.int x1), some (.int x2)], [], zH I P)) (s2 := (12, [some (.ref 63), some (.int x1), some (.int x2)], [], zH I P)) rfl (fun c1 => ?_) (fun c1 => ?_)
    · rw [if_pos c1] at hx
      refine wp_blk (pc' := 71) (L' := [some (.ref 63), some (.int x1), some (.int x2)]) (st' := [.int x1]) (h' := zH I P) 1 rfl ?_
      obtain ⟨kb, hx⟩ := zite hx
      cases hx
      exact wp_endb rfl rfl kb ⟨rfl, rfl⟩
    · rw [if_neg c1] at hx
      refine wp_blk (pc' := 13) (L' := [some (.ref 63), some (.int x1), some (.int x2)]) (st' := [.int x1]) (h' := zH I P) 1 rfl ?_
      refine wp_eq (a := x1) (b := 0) (s1 := (62, [some (.ref 63), some (.int x1), some (.int x2)], [], zH I P)) (s2 := (16, [some (.ref 63), some (.int x1), some (.int x2)], [], zH I P)) rfl (fun c2 => ?_) (fun c2 => ?_)
      · rw [if_pos c2] at hx
        refine wp_blk (pc' := 4) (L' := [some (.ref 63), some (.int 0), some (.int (x2 + 1))]) (st' := []) (h' := zH I P) 4 rfl ?_
        exact ih _ _ _ _ hx
      · rw [if_neg c2] at hx
        refine wp_blk (pc' := 22) (L' := [some (.ref 63), some (.int x1), some (.int x2)]) (st' := [.int x2, .ref 71, .ref 63]) (h' := zH I P) 4 rfl ?_
        obtain ⟨c3, hx⟩ := zite hx
        refine wp_chk (P := zinb x2 6 = true) (pc' := 23) (L' := [some (.ref 63), some (.int x1), some (.int x2)]) (st' := [.int (I 71 x2.toNatClampNeg), .ref 63]) (h' := zH I P) rfl c3 ?_
        refine wp_blk (pc' := 26) (L' := [some (.ref 63), some (.int x1), some (.int x2)]) (st' := [.int ((I 71 x2.toNatClampNeg) / 10), .ref 63]) (h' := zH I P) 2 rfl ?_
        refine wp_callf (d := 135) (as := [.ref 63, .int ((I 71 x2.toNatClampNeg) / 10)]) (rest := []) (Ld := [some (.ref 63), some (.int ((I 71 x2.toNatClampNeg) / 10))]) (pc' := 29) (st' := [.int (f_D_isAway I ((I 71 x2.toNatClampNeg) / 10))]) (r := some (.int (f_D_isAway I ((I 71 x2.toNatClampNeg) / 10)))) (h1 := zH I P) rfl rfl rfl rfl rfl rfl rfl rfl rfl (sp_D_isAway I P ((I 71 x2.toNatClampNeg) / 10)) ?_
        refine wp_ne (a := f_D_isAway I ((I 71 x2.toNatClampNeg) / 10)) (b := 0) (s1 := (62, [some (.ref 63), some (.int x1), some (.int x2)], [], zH I P)) (s2 := (32, [some (.ref 63), some (.int x1), some (.int x2)], [], zH I P)) rfl (fun c4 => ?_) (fun c4 => ?_)
        · rw [if_neg c4] at hx
          refine wp_blk (pc' := 4) (L' := [some (.ref 63), some (.int 0), some (.int (x2 + 1))]) (st' := []) (h' := zH I P) 4 rfl ?_
          exact ih _ _ _ _ hx
        · rw [if_pos c4] at hx
          refine wp_blk (pc' := 41) (L' := [some (.ref 63), some (.int x1), some (.int x2)]) (st' := [.int x2, .ref 71, .ref 73]) (h' := zH I P) 5 rfl ?_
          obtain ⟨c5, hx⟩ := zite hx
          refine wp_chk (P := zinb x2 6 = true) (pc' := 42) (L' := [some (.ref 63), some (.int x1), some (.int x2)]) (st' := [.int (I 71 x2.toNatClampNeg), .ref 73]) (h' := zH I P) rfl c5 ?_
          refine wp_blk (pc' := 45) (L' := [some (.ref 63), some (.int x1), some (.int x2)]) (st' := [.int ((I 71 x2.toNatClampNeg) / 10), .ref 73]) (h' := zH I P) 2 rfl ?_
          obtain ⟨c6, hx⟩ := zite hx
          refine wp_chk (P := zinb ((I 71 x2.toNatClampNeg) / 10) 6 = true) (pc' := 46) (L' := [some (.ref 63), some (.int x1), some (.int x2)]) (st' := [.int (I 73 (((I 71 x2.toNatClampNeg) / 10).toNatClampNeg))]) (h' := zH I P) rfl c6 ?_
          refine wp_blk (pc' := 51) (L' := [some (.ref 63), some (.int x1), some (.int x2)]) (st' := [.int x2, .ref 71, .int (I 73 (((I 71 x2.toNatClampNeg) / 10).toNatClampNeg))]) (h' := zH I P) 3 rfl ?_
          obtain ⟨c7, hx⟩ := zite hx
          refine wp_chk (P := zinb x2 6 = true) (pc' := 52) (L' := [some (.ref 63), some (.int x1), some (.int x2)]) (st' := [.int (I 71 x2.toNatClampNeg), .int (I 73 (((I 71 x2.toNatClampNeg) / 10).toNatClampNeg))]) (h' := zH I P) rfl c7 ?_
          refine wp_blk (pc' := 55) (L' := [some (.ref 63), some (.int x1), some (.int x2)]) (st' := [.int ((I 71 x2.toNatClampNeg) - (I 71 x2.toNatClampNeg) / 10 * 10), .int (I 73 (((I 71 x2.toNatClampNeg) / 10).toNatClampNeg))]) (h' := zH I P) 2 rfl ?_
          refine wp_ne (a := I 73 (((I 71 x2.toNatClampNeg) / 10).toNatClampNeg)) (b := (I 71 x2.toNatClampNeg) - (I 71 x2.toNatClampNeg) / 10 * 10) (s1 := (62, [some (.ref 63), some (.int x1), some (.int x2)], [], zH I P)) (s2 := (58, [some (.ref 63), some (.int x1), some (.int x2)], [], zH I P)) rfl (fun c8 => ?_) (fun c8 => ?_)
          · rw [if_neg c8] at hx
            refine wp_blk (pc' := 4) (L' := [some (.ref 63), some (.int 0), some (.int (x2 + 1))]) (st' := []) (h' := zH I P) 4 rfl ?_
            exact ih _ _ _ _ hx
          · rw [if_pos c8] at hx
            refine wp_blk (pc' := 4) (L' := [some (.ref 63), some (.int 1), some (.int (x2 + 1))]) (st' := []) (h' := zH I P) 5 rfl ?_
            exact ih _ _ _ _ hx
set_option maxRecDepth 100000 in
theorem xp_D_isSo {X : Nat × (Nat → Int32)} (I : Nat → Nat → Int32) (P : Nat → Nat → Option Nat) (r : Int32 × (Nat → Nat → Int32)) (hx : x_D_isSo I = some r) : Wf X 166 [some (.ref 63), none, none] (zH I P) (some (.int r.1)) (zH r.2 P) := by
  unfold Wf
  unfold x_D_isSo at hx
  refine wp_blk (pc' := 4) (L' := [some (.ref 63), some (.int 1), some (.int 0)]) (st' := []) (h' := zH I P) 4 rfl ?_
  exact lp_D_isSo_4 P _ _ _ _ _ hx
def l_D_stood : Nat → Nat → (Nat → Nat → Int32) → Int32 → Int32 → Int32 → Int32 → Int32 → Int32 → Option (Int32 × (Nat → Nat → Int32))
  | 0, _, _, _, _, _, _, _, _ => none
  | n + 1, hd, I, x1, x2, x3, x4, x5, x6 => if hd = 0 then (if x4 < 0 then (if x1 = 0 then (some (x2, I)) else (some (x3, I))) else ((x_D_ones I (f_D_there I)).bind (fun q3 => l_D_stood n 1 q3.2 x1 x2 x3 x4 q3.1 0))) else (if hd = 1 then (if x5 < 0 then (l_D_stood n 0 I x1 x2 x3 (x4 + (-1)) 0 0) else (if f_D_isAway I x4 = 0 then (l_D_stood n 0 I x1 x2 x3 (x4 + (-1)) 0 0) else ((x_D_stands I (I 68 42)).bind (fun q4 => l_D_stood n 2 q4.2 x1 x2 x3 x4 x5 (q4.2 63 16))))) else (if hd = 2 then (if x6 ≤ x5 then (if zinb x5 6 = true then ((x_D_grinds (zui (zui I 72 x5.toNatClampNeg x4) 63 16 ((I 63 16) + 1)) x4).bind (fun q5 => (x_D_isSo q5.2).bind (fun q6 => if q6.1 = 0 then (if q6.1 = 0 then (l_D_stood n 1 q6.2 x1 (x2 + 0) x3 x4 (x5 + (-1)) 0) else (l_D_stood n 1 q6.2 x1 (x2 + 0) ((10 * x4) + x5) x4 (x5 + (-1)) 0)) else (if q6.1 = 0 then (l_D_stood n 1 q6.2 x1 (x2 + 1) x3 x4 (x5 + (-1)) 0) else (l_D_stood n 1 q6.2 x1 (x2 + 1) ((10 * x4) + x5) x4 (x5 + (-1)) 0))))) else none) else (if zinb (x6 - 1) 6 = true then (if zinb x6 6 = true then (l_D_stood n 2 (zui I 72 x6.toNatClampNeg (I 72 ((x6 - 1).toNatClampNeg))) x1 x2 x3 x4 x5 (x6 + (-1))) else none) else none)) else none))
def x_D_stood (I : Nat → Nat → Int32) (w : Int32) : Option (Int32 × (Nat → Nat → Int32)) := if f_D_in I w 0 1 = 0 then (some (-1, I)) else ((x_D_today I).bind (fun q1 => (x_D_isSo q1.2).bind (fun q2 => if q2.1 = 0 then (l_D_stood 5000 0 q2.2 w 0 (-4) ((q2.2 63 2) - 1) 0 0) else (l_D_stood 5000 0 q2.2 w 256 (-4) ((q2.2 63 2) - 1) 0 0))))
set_option maxRecDepth 100000 in
theorem lp_D_stood {X : Nat × (Nat → Int32)} (P : Nat → Nat → Option Nat) : ∀ (n : Nat), (∀ (I : Nat → Nat → Int32) (x1 : Int32) (x2 : Int32) (x3 : Int32) (x4 : Int32) (x5 : Int32) (x6 : Int32) (r : Int32 × (Nat → Nat → Int32)), l_D_stood n 0 I x1 x2 x3 x4 x5 x6 = some r → Wp X 165 41 [some (.ref 63), some (.int x1), some (.int x2), some (.int x3), some (.int x4), none, none] [] (zH I P) (fun r2 h2 => r2 = some (.int r.1) ∧ h2 = zH r.2 P)) ∧ (∀ (I : Nat → Nat → Int32) (x1 : Int32) (x2 : Int32) (x3 : Int32) (x4 : Int32) (x5 : Int32) (x6 : Int32) (r : Int32 × (Nat → Nat → Int32)), l_D_stood n 1 I x1 x2 x3 x4 x5 x6 = some r → Wp X 165 55 [some (.ref 63), some (.int x1), some (.int x2), some (.int x3), some (.int x4), some (.int x5), none] [] (zH I P) (fun r2 h2 => r2 = some (.int r.1) ∧ h2 = zH r.2 P)) ∧ (∀ (I : Nat → Nat → Int32) (x1 : Int32) (x2 : Int32) (x3 : Int32) (x4 : Int32) (x5 : Int32) (x6 : Int32) (r : Int32 × (Nat → Nat → Int32)), l_D_stood n 2 I x1 x2 x3 x4 x5 x6 = some r → Wp X 165 86 [some (.ref 63), some (.int x1), some (.int x2), some (.int x3), some (.int x4), some (.int x5), some (.int x6)] [] (zH I P) (fun r2 h2 => r2 = some (.int r.1) ∧ h2 = zH r.2 P)) := by
  intro n
  induction n with
  | zero => exact ⟨fun I x1 x2 x3 x4 x5 x6 r hx => (by cases hx), fun I x1 x2 x3 x4 x5 x6 r hx => (by cases hx), fun I x1 x2 x3 x4 x5 x6 r hx => (by cases hx)⟩
  | succ n ih =>
    refine ⟨?_, ?_, ?_⟩
    · intro I x1 x2 x3 x4 x5 x6 r hx
      rw [l_D_stood] at hx
      rw [if_pos rfl] at hx
      refine wp_blk (pc' := 43) (L' := [some (.ref 63), some (.int x1), some (.int x2), some (.int x3), some (.int x4), none, none]) (st' := [.int x4]) (h' := zH I P) 1 rfl ?_
      refine wp_lt (a := x4) (b := 0) (s1 := (189, [some (.ref 63), some (.int x1), some (.int x2), some (.int x3), some (.int x4), none, none], [], zH I P)) (s2 := (46, [some (.ref 63), some (.int x1), some (.int x2), some (.int x3), some (.int x4), none, none], [], zH I P)) rfl (fun c1 => ?_) (fun c1 => ?_)
      · rw [if_pos c1] at hx
        refine wp_blk (pc' := 190) (L' := [some (.ref 63), some (.int x1), some (.int x2), some (.int x3), some (.int x4), none, none]) (st' := [.int x1]) (h' := zH I P) 1 rfl ?_
        refine wp_ne (a := x1) (b := 0) (s1 := (197, [some (.ref 63), some (.int x1), some (.int x2), some (.int x3), some (.int x4), none, none], [], zH I P)) (s2 := (193, [some (.ref 63), some (.int x1), some (.int x2), some (.int x3), some (.int x4), none, none], [], zH I P)) rfl (fun c2 => ?_) (fun c2 => ?_)
        · rw [if_neg c2] at hx
          refine wp_blk (pc' := 198) (L' := [some (.ref 63), some (.int x1), some (.int x2), some (.int x3), some (.int x4), none, none]) (st' := [.int x3]) (h' := zH I P) 1 rfl ?_
          cases hx
          exact wp_end rfl rfl ⟨rfl, rfl⟩
        · rw [if_pos c2] at hx
          refine wp_blk (pc' := 198) (L' := [some (.ref 63), some (.int x1), some (.int x2), some (.int x3), some (.int x4), none, none]) (st' := [.int x2]) (h' := zH I P) 2 rfl ?_
          cases hx
          exact wp_end rfl rfl ⟨rfl, rfl⟩
      · rw [if_neg c1] at hx
        refine wp_blk (pc' := 47) (L' := [some (.ref 63), some (.int x1), some (.int x2), some (.int x3), some (.int x4), none, none]) (st' := [.ref 63]) (h' := zH I P) 1 rfl ?_
        refine wp_callf (d := 156) (as := [.ref 63]) (rest := []) (Ld := [some (.ref 63)]) (pc' := 50) (st' := [.int (f_D_there I)]) (r := some (.int (f_D_there I))) (h1 := zH I P) rfl rfl rfl rfl rfl rfl rfl rfl rfl (sp_D_there I P) ?_
        obtain ⟨y1, hy1, hx⟩ := zbind hx
        refine wp_callf (d := 157) (as := [.int (f_D_there I)]) (rest := []) (Ld := [some (.int (f_D_there I)), none, none]) (pc' := 53) (st' := [.int y1.1]) (r := some (.int y1.1)) (h1 := zH y1.2 P) rfl rfl rfl rfl rfl rfl rfl rfl rfl (xp_D_ones _ _ _ _ hy1) ?_
        refine wp_blk (pc' := 55) (L' := [some (.ref 63), some (.int x1), some (.int x2), some (.int x3), some (.int x4), some (.int y1.1), none]) (st' := []) (h' := zH y1.2 P) 1 rfl ?_
        exact ih.2.1 _ _ _ _ _ _ _ _ hx
    · intro I x1 x2 x3 x4 x5 x6 r hx
      rw [l_D_stood] at hx
      rw [if_neg (by decide)] at hx
      rw [if_pos rfl] at hx
      refine wp_blk (pc' := 57) (L' := [some (.ref 63), some (.int x1), some (.int x2), some (.int x3), some (.int x4), some (.int x5), none]) (st' := [.int x5]) (h' := zH I P) 1 rfl ?_
      refine wp_lt (a := x5) (b := 0) (s1 := (183, [some (.ref 63), some (.int x1), some (.int x2), some (.int x3), some (.int x4), some (.int x5), none], [], zH I P)) (s2 := (60, [some (.ref 63), some (.int x1), some (.int x2), some (.int x3), some (.int x4), some (.int x5), none], [], zH I P)) rfl (fun c1 => ?_) (fun c1 => ?_)
      · rw [if_pos c1] at hx
        refine wp_blk (pc' := 41) (L' := [some (.ref 63), some (.int x1), some (.int x2), some (.int x3), some (.int (x4 + (-1))), some (.int x5), none]) (st' := []) (h' := zH I P) 2 rfl ?_
        exact wp_forget (ih.1 _ _ _ _ _ _ _ _ hx) (zle_c (zle_c (zle_c (zle_c (zle_c (zle_n (zle_n zle_nil)))))))
      · rw [if_neg c1] at hx
        refine wp_blk (pc' := 63) (L' := [some (.ref 63), some (.int x1), some (.int x2), some (.int x3), some (.int x4), some (.int x5), none]) (st' := [.int x4, .ref 63]) (h' := zH I P) 2 rfl ?_
        refine wp_callf (d := 135) (as := [.ref 63, .int x4]) (rest := []) (Ld := [some (.ref 63), some (.int x4)]) (pc' := 66) (st' := [.int (f_D_isAway I x4)]) (r := some (.int (f_D_isAway I x4))) (h1 := zH I P) rfl rfl rfl rfl rfl rfl rfl rfl rfl (sp_D_isAway I P x4) ?_
        refine wp_eq (a := f_D_isAway I x4) (b := 0) (s1 := (183, [some (.ref 63), some (.int x1), some (.int x2), some (.int x3), some (.int x4), some (.int x5), none], [], zH I P)) (s2 := (69, [some (.ref 63), some (.int x1), some (.int x2), some (.int x3), some (.int x4), some (.int x5), none], [], zH I P)) rfl (fun c2 => ?_) (fun c2 => ?_)
        · rw [if_pos c2] at hx
          refine wp_blk (pc' := 41) (L' := [some (.ref 63), some (.int x1), some (.int x2), some (.int x3), some (.int (x4 + (-1))), some (.int x5), none]) (st' := []) (h' := zH I P) 2 rfl ?_
          exact wp_forget (ih.1 _ _ _ _ _ _ _ _ hx) (zle_c (zle_c (zle_c (zle_c (zle_c (zle_n (zle_n zle_nil)))))))
        · rw [if_neg c2] at hx
          refine wp_blk (pc' := 77) (L' := [some (.ref 63), some (.int x1), some (.int x2), some (.int x3), some (.int x4), some (.int x5), none]) (st' := [.int (I 68 42), .ref 63]) (h' := zH I P) 5 rfl ?_
          obtain ⟨y1, hy1, hx⟩ := zbind hx
          refine wp_callf (d := 140) (as := [.ref 63, .int (I 68 42)]) (rest := []) (Ld := [some (.ref 63), some (.int (I 68 42)), none]) (pc' := 80) (st' := []) (r := none) (h1 := zH y1.2 P) rfl rfl rfl rfl rfl rfl rfl rfl rfl (xp_D_stands _ _ _ _ hy1) ?_
          refine wp_blk (pc' := 86) (L' := [some (.ref 63), some (.int x1), some (.int x2), some (.int x3), some (.int x4), some (.int x5), some (.int (y1.2 63 16))]) (st' := []) (h' := zH y1.2 P) 3 rfl ?_
          exact ih.2.2 _ _ _ _ _ _ _ _ hx
    · intro I x1 x2 x3 x4 x5 x6 r hx
      rw [l_D_stood] at hx
      rw [if_neg (by decide)] at hx
      rw [if_neg (by decide)] at hx
      rw [if_pos rfl] at hx
      refine wp_blk (pc' := 90) (L' := [some (.ref 63), some (.int x1), some (.int x2), some (.int x3), some (.int x4), some (.int x5), some (.int x6)]) (st' := [.int x5, .int x6]) (h' := zH I P) 2 rfl ?_
      refine wp_le (a := x6) (b := x5) (s1 := (115, [some (.ref 63), some (.int x1), some (.int x2), some (.int x3), some (.int x4), some (.int x5), some (.int x6)], [], zH I P)) (s2 := (93, [some (.ref 63), some (.int x1), some (.int x2), some (.int x3), some (.int x4), some (.int x5), some (.int x6)], [], zH I P)) rfl (fun c1 => ?_) (fun c1 => ?_)
      · rw [if_pos c1] at hx
        refine wp_blk (pc' := 123) (L' := [some (.ref 63), some (.int x1), some (.int x2), some (.int x3), some (.int x4), some (.int x5), some (.int x6)]) (st' := [.int x4, .int x5, .ref 72]) (h' := zH I P) 4 rfl ?_
        obtain ⟨c2, hx⟩ := zite hx
        refine wp_chk (P := zinb x5 6 = true) (pc' := 124) (L' := [some (.ref 63), some (.int x1), some (.int x2), some (.int x3), some (.int x4), some (.int x5), some (.int x6)]) (st' := []) (h' := zH (zui I 72 x5.toNatClampNeg x4) P) rfl c2 ?_
        refine wp_blk (pc' := 137) (L' := [some (.ref 63), some (.int x1), some (.int x2), some (.int x3), some (.int x4), some (.int x5), some (.int x6)]) (st' := [.int x4, .ref 63]) (h' := zH (zui (zui I 72 x5.toNatClampNeg x4) 63 16 ((I 63 16) + 1)) P) 8 rfl ?_
        obtain ⟨y1, hy1, hx⟩ := zbind hx
        refine wp_callf (d := 141) (as := [.ref 63, .int x4]) (rest := []) (Ld := [some (.ref 63), some (.int x4), none, none]) (pc' := 140) (st' := []) (r := none) (h1 := zH y1.2 P) rfl rfl rfl rfl rfl rfl rfl rfl rfl (xp_D_grinds _ _ _ _ hy1) ?_
        refine wp_blk (pc' := 141) (L' := [some (.ref 63), some (.int x1), some (.int x2), some (.int x3), some (.int x4), some (.int x5), some (.int x6)]) (st' := [.ref 63]) (h' := zH y1.2 P) 1 rfl ?_
        obtain ⟨y2, hy2, hx⟩ := zbind hx
        refine wp_callf (d := 166) (as := [.ref 63]) (rest := []) (Ld := [some (.ref 63), none, none]) (pc' := 144) (st' := [.int y2.1]) (r := some (.int y2.1)) (h1 := zH y2.2 P) rfl rfl rfl rfl rfl rfl rfl rfl rfl (xp_D_isSo _ _  _ hy2) ?_
        refine wp_blk (pc' := 149) (L' := [some (.ref 63), some (.int x1), some (.int x2), some (.int x3), some (.int x4), some (.int x5), some (.int y2.1)]) (st' := [.int y2.1, .int x2]) (h' := zH y2.2 P) 3 rfl ?_
        refine wp_eq (a := y2.1) (b := 0) (s1 := (156, [some (.ref 63), some (.int x1), some (.int x2), some (.int x3), some (.int x4), some (.int x5), some (.int y2.1)], [.int x2], zH y2.2 P)) (s2 := (152, [some (.ref 63), some (.int x1), some (.int x2), some (.int x3), some (.int x4), some (.int x5), some (.int y2.1)], [.int x2], zH y2.2 P)) rfl (fun c3 => ?_) (fun c3 => ?_)
        · rw [if_pos c3] at hx
          refine wp_blk (pc' := 161) (L' := [some (.ref 63), some (.int x1), some (.int (x2 + 0)), some (.int x3), some (.int x4), some (.int x5), some (.int y2.1)]) (st' := [.int y2.1]) (h' := zH y2.2 P) 4 rfl ?_
          refine wp_eq (a := y2.1) (b := 0) (s1 := (175, [some (.ref 63), some (.int x1), some (.int (x2 + 0)), some (.int x3), some (.int x4), some (.int x5), some (.int y2.1)], [], zH y2.2 P)) (s2 := (164, [some (.ref 63), some (.int x1), some (.int (x2 + 0)), some (.int x3), some (.int x4), some (.int x5), some (.int y2.1)], [], zH y2.2 P)) rfl (fun c4 => ?_) (fun c4 => ?_)
          · rw [if_pos c4] at hx
            refine wp_blk (pc' := 55) (L' := [some (.ref 63), some (.int x1), some (.int (x2 + 0)), some (.int x3), some (.int x4), some (.int (x5 + (-1))), some (.int y2.1)]) (st' := []) (h' := zH y2.2 P) 4 rfl ?_
            exact wp_forget (ih.2.1 _ _ _ _ _ _ _ _ hx) (zle_c (zle_c (zle_c (zle_c (zle_c (zle_c (zle_n zle_nil)))))))
          · rw [if_neg c4] at hx
            refine wp_blk (pc' := 55) (L' := [some (.ref 63), some (.int x1), some (.int (x2 + 0)), some (.int ((10 * x4) + x5)), some (.int x4), some (.int (x5 + (-1))), some (.int y2.1)]) (st' := []) (h' := zH y2.2 P) 9 rfl ?_
            exact wp_forget (ih.2.1 _ _ _ _ _ _ _ _ hx) (zle_c (zle_c (zle_c (zle_c (zle_c (zle_c (zle_n zle_nil)))))))
        · rw [if_neg c3] at hx
          refine wp_blk (pc' := 161) (L' := [some (.ref 63), some (.int x1), some (.int (x2 + 1)), some (.int x3), some (.int x4), some (.int x5), some (.int y2.1)]) (st' := [.int y2.1]) (h' := zH y2.2 P) 5 rfl ?_
          refine wp_eq (a := y2.1) (b := 0) (s1 := (175, [some (.ref 63), some (.int x1), some (.int (x2 + 1)), some (.int x3), some (.int x4), some (.int x5), some (.int y2.1)], [], zH y2.2 P)) (s2 := (164, [some (.ref 63), some (.int x1), some (.int (x2 + 1)), some (.int x3), some (.int x4), some (.int x5), some (.int y2.1)], [], zH y2.2 P)) rfl (fun c5 => ?_) (fun c5 => ?_)
          · rw [if_pos c5] at hx
            refine wp_blk (pc' := 55) (L' := [some (.ref 63), some (.int x1), some (.int (x2 + 1)), some (.int x3), some (.int x4), some (.int (x5 + (-1))), some (.int y2.1)]) (st' := []) (h' := zH y2.2 P) 4 rfl ?_
            exact wp_forget (ih.2.1 _ _ _ _ _ _ _ _ hx) (zle_c (zle_c (zle_c (zle_c (zle_c (zle_c (zle_n zle_nil)))))))
          · rw [if_neg c5] at hx
            refine wp_blk (pc' := 55) (L' := [some (.ref 63), some (.int x1), some (.int (x2 + 1)), some (.int ((10 * x4) + x5)), some (.int x4), some (.int (x5 + (-1))), some (.int y2.1)]) (st' := []) (h' := zH y2.2 P) 9 rfl ?_
            exact wp_forget (ih.2.1 _ _ _ _ _ _ _ _ hx) (zle_c (zle_c (zle_c (zle_c (zle_c (zle_c (zle_n zle_nil)))))))
      · rw [if_neg c1] at hx
        refine wp_blk (pc' := 107) (L' := [some (.ref 63), some (.int x1), some (.int x2), some (.int x3), some (.int x4), some (.int x5), some (.int x6)]) (st' := [.int (x6 - 1), .ref 72, .int x6, .ref 72]) (h' := zH I P) 8 rfl ?_
        obtain ⟨c6, hx⟩ := zite hx
        refine wp_chk (P := zinb (x6 - 1) 6 = true) (pc' := 108) (L' := [some (.ref 63), some (.int x1), some (.int x2), some (.int x3), some (.int x4), some (.int x5), some (.int x6)]) (st' := [.int (I 72 ((x6 - 1).toNatClampNeg)), .int x6, .ref 72]) (h' := zH I P) rfl c6 ?_
        obtain ⟨c7, hx⟩ := zite hx
        refine wp_chk (P := zinb x6 6 = true) (pc' := 109) (L' := [some (.ref 63), some (.int x1), some (.int x2), some (.int x3), some (.int x4), some (.int x5), some (.int x6)]) (st' := []) (h' := zH (zui I 72 x6.toNatClampNeg (I 72 ((x6 - 1).toNatClampNeg))) P) rfl c7 ?_
        refine wp_blk (pc' := 86) (L' := [some (.ref 63), some (.int x1), some (.int x2), some (.int x3), some (.int x4), some (.int x5), some (.int (x6 + (-1)))]) (st' := []) (h' := zH (zui I 72 x6.toNatClampNeg (I 72 ((x6 - 1).toNatClampNeg))) P) 2 rfl ?_
        exact ih.2.2 _ _ _ _ _ _ _ _ hx
set_option maxRecDepth 100000 in
theorem xp_D_stood {X : Nat × (Nat → Int32)} (I : Nat → Nat → Int32) (P : Nat → Nat → Option Nat) (w : Int32) (r : Int32 × (Nat → Nat → Int32)) (hx : x_D_stood I w = some r) : Wf X 165 [some (.ref 63), some (.int w), none, none, none, none, none] (zH I P) (some (.int r.1)) (zH r.2 P) := by
  unfold Wf
  unfold x_D_stood at hx
  refine wp_blk (pc' := 3) (L' := [some (.ref 63), some (.int w), none, none, none, none, none]) (st' := [.int 1, .int 0, .int w]) (h' := zH I P) 3 rfl ?_
  refine wp_callf (d := 123) (as := [.int w, .int 0, .int 1]) (rest := []) (Ld := [some (.int w), some (.int 0), some (.int 1)]) (pc' := 6) (st' := [.int (f_D_in I w 0 1)]) (r := some (.int (f_D_in I w 0 1))) (h1 := zH I P) rfl rfl rfl rfl rfl rfl rfl rfl rfl (sp_D_in I P w 0 1) ?_
  refine wp_ne (a := f_D_in I w 0 1) (b := 0) (s1 := (11, [some (.ref 63), some (.int w), none, none, none, none, none], [], zH I P)) (s2 := (9, [some (.ref 63), some (.int w), none, none, none, none, none], [], zH I P)) rfl (fun c1 => ?_) (fun c1 => ?_)
  · rw [if_neg c1] at hx
    refine wp_blk (pc' := 12) (L' := [some (.ref 63), some (.int w), none, none, none, none, none]) (st' := [.ref 63]) (h' := zH I P) 1 rfl ?_
    obtain ⟨y1, hy1, hx⟩ := zbind hx
    refine wp_callf (d := 139) (as := [.ref 63]) (rest := []) (Ld := [some (.ref 63)]) (pc' := 15) (st' := []) (r := none) (h1 := zH y1.2 P) rfl rfl rfl rfl rfl rfl rfl rfl rfl (xp_D_today _ _  _ hy1) ?_
    refine wp_blk (pc' := 16) (L' := [some (.ref 63), some (.int w), none, none, none, none, none]) (st' := [.ref 63]) (h' := zH y1.2 P) 1 rfl ?_
    obtain ⟨y2, hy2, hx⟩ := zbind hx
    refine wp_callf (d := 166) (as := [.ref 63]) (rest := []) (Ld := [some (.ref 63), none, none]) (pc' := 19) (st' := [.int y2.1]) (r := some (.int y2.1)) (h1 := zH y2.2 P) rfl rfl rfl rfl rfl rfl rfl rfl rfl (xp_D_isSo _ _  _ hy2) ?_
    refine wp_eq (a := y2.1) (b := 0) (s1 := (28, [some (.ref 63), some (.int w), none, none, none, none, none], [], zH y2.2 P)) (s2 := (22, [some (.ref 63), some (.int w), none, none, none, none, none], [], zH y2.2 P)) rfl (fun c2 => ?_) (fun c2 => ?_)
    · rw [if_pos c2] at hx
      refine wp_blk (pc' := 41) (L' := [some (.ref 63), some (.int w), some (.int 0), some (.int (-4)), some (.int ((y2.2 63 2) - 1)), none, none]) (st' := []) (h' := zH y2.2 P) 9 rfl ?_
      exact (lp_D_stood P _).1 _ _ _ _ _ _ _ _ hx
    · rw [if_neg c2] at hx
      refine wp_blk (pc' := 41) (L' := [some (.ref 63), some (.int w), some (.int 256), some (.int (-4)), some (.int ((y2.2 63 2) - 1)), none, none]) (st' := []) (h' := zH y2.2 P) 10 rfl ?_
      exact (lp_D_stood P _).1 _ _ _ _ _ _ _ _ hx
  · rw [if_pos c1] at hx
    refine wp_blk (pc' := 10) (L' := [some (.ref 63), some (.int w), none, none, none, none, none]) (st' := [.int (-1)]) (h' := zH I P) 1 rfl ?_
    cases hx
    exact wp_end rfl rfl ⟨rfl, rfl⟩
def l_D_said_32 : Nat → (Nat → Nat → Int32) → Int32 → Int32 → Int32 → Int32 → Int32 → Option (Int32 × (Nat → Nat → Int32))
  | 0, _, _, _, _, _, _ => none
  | n + 1, I, x1, x2, x3, x4, x5 => if 7 ≤ x5 then (if zinb ((6 + (6 * x1)) + x2) 45 = true then (some (x4, (zui I 68 (((6 + (6 * x1)) + x2).toNatClampNeg) x3))) else none) else (if zinb ((6 + (6 * x1)) + x2) 45 = true then ((x_D_today (zui I 68 (((6 + (6 * x1)) + x2).toNatClampNeg) x5)).bind (fun q1 => (x_D_isSo q1.2).bind (fun q2 => if q2.1 = 0 then (l_D_said_32 n q2.2 x1 x2 x3 (x4 ||| 0) (x5 + 1)) else (l_D_said_32 n q2.2 x1 x2 x3 (x4 ||| (1 <<< (x5 &&& 31))) (x5 + 1))))) else none)
def x_D_said (I : Nat → Nat → Int32) (i j : Int32) : Option (Int32 × (Nat → Nat → Int32)) := if f_D_areTwo I i j = 0 then (some (-1, I)) else (if zinb ((6 + (6 * i)) + j) 45 = true then (l_D_said_32 1000 I i j (I 68 (((6 + (6 * i)) + j).toNatClampNeg)) 0 0) else none)
set_option maxRecDepth 100000 in
theorem lp_D_said_32 {X : Nat × (Nat → Int32)} (P : Nat → Nat → Option Nat) : ∀ (n : Nat) (I : Nat → Nat → Int32) (x1 : Int32) (x2 : Int32) (x3 : Int32) (x4 : Int32) (x5 : Int32) (r : Int32 × (Nat → Nat → Int32)), l_D_said_32 n I x1 x2 x3 x4 x5 = some r → Wp X 167 32 [some (.ref 63), some (.int x1), some (.int x2), some (.int x3), some (.int x4), some (.int x5)] [] (zH I P) (fun r2 h2 => r2 = some (.int r.1) ∧ h2 = zH r.2 P) := by
  intro n
  induction n with
  | zero => intro I x1 x2 x3 x4 x5 r hx; cases hx
  | succ n ih =>
    intro I x1 x2 x3 x4 x5 r hx
    rw [l_D_said_32] at hx
    refine wp_blk (pc' := 36) (L' := [some (.ref 63), some (.int x1), some (.int x2), some (.int x3), some (.int x4), some (.int x5)]) (st' := [.int 7, .int x5]) (h' := zH I P) 2 rfl ?_
    refine wp_ge (a := x5) (b := 7) (s1 := (85, [some (.ref 63), some (.int x1), some (.int x2), some (.int x3), some (.int x4), some (.int x5)], [], zH I P)) (s2 := (39, [some (.ref 63), some (.int x1), some (.int x2), some (.int x3), some (.int x4), some (.int x5)], [], zH I P)) rfl (fun c1 => ?_) (fun c1 => ?_)
    · rw [if_pos c1] at hx
      refine wp_blk (pc' := 99) (L' := [some (.ref 63), some (.int x1), some (.int x2), some (.int x3), some (.int x4), some (.int x5)]) (st' := [.int x3, .int ((6 + (6 * x1)) + x2), .ref 68]) (h' := zH I P) 10 rfl ?_
      obtain ⟨c2, hx⟩ := zite hx
      refine wp_chk (P := zinb ((6 + (6 * x1)) + x2) 45 = true) (pc' := 100) (L' := [some (.ref 63), some (.int x1), some (.int x2), some (.int x3), some (.int x4), some (.int x5)]) (st' := []) (h' := zH (zui I 68 (((6 + (6 * x1)) + x2).toNatClampNeg) x3) P) rfl c2 ?_
      refine wp_blk (pc' := 102) (L' := [some (.ref 63), some (.int x1), some (.int x2), some (.int x3), some (.int x4), some (.int x5)]) (st' := [.int x4]) (h' := zH (zui I 68 (((6 + (6 * x1)) + x2).toNatClampNeg) x3) P) 1 rfl ?_
      cases hx
      exact wp_end rfl rfl ⟨rfl, rfl⟩
    · rw [if_neg c1] at hx
      refine wp_blk (pc' := 54) (L' := [some (.ref 63), some (.int x1), some (.int x2), some (.int x3), some (.int x4), some (.int x5)]) (st' := [.int x5, .int ((6 + (6 * x1)) + x2), .ref 68]) (h' := zH I P) 10 rfl ?_
      obtain ⟨c3, hx⟩ := zite hx
      refine wp_chk (P := zinb ((6 + (6 * x1)) + x2) 45 = true) (pc' := 55) (L' := [some (.ref 63), some (.int x1), some (.int x2), some (.int x3), some (.int x4), some (.int x5)]) (st' := []) (h' := zH (zui I 68 (((6 + (6 * x1)) + x2).toNatClampNeg) x5) P) rfl c3 ?_
      refine wp_blk (pc' := 56) (L' := [some (.ref 63), some (.int x1), some (.int x2), some (.int x3), some (.int x4), some (.int x5)]) (st' := [.ref 63]) (h' := zH (zui I 68 (((6 + (6 * x1)) + x2).toNatClampNeg) x5) P) 1 rfl ?_
      obtain ⟨y1, hy1, hx⟩ := zbind hx
      refine wp_callf (d := 139) (as := [.ref 63]) (rest := []) (Ld := [some (.ref 63)]) (pc' := 59) (st' := []) (r := none) (h1 := zH y1.2 P) rfl rfl rfl rfl rfl rfl rfl rfl rfl (xp_D_today _ _  _ hy1) ?_
      refine wp_blk (pc' := 62) (L' := [some (.ref 63), some (.int x1), some (.int x2), some (.int x3), some (.int x4), some (.int x5)]) (st' := [.ref 63, .int x4]) (h' := zH y1.2 P) 2 rfl ?_
      obtain ⟨y2, hy2, hx⟩ := zbind hx
      refine wp_callf (d := 166) (as := [.ref 63]) (rest := [.int x4]) (Ld := [some (.ref 63), none, none]) (pc' := 65) (st' := [.int y2.1, .int x4]) (r := some (.int y2.1)) (h1 := zH y2.2 P) rfl rfl rfl rfl rfl rfl rfl rfl rfl (xp_D_isSo _ _  _ hy2) ?_
      refine wp_eq (a := y2.1) (b := 0) (s1 := (75, [some (.ref 63), some (.int x1), some (.int x2), some (.int x3), some (.int x4), some (.int x5)], [.int x4], zH y2.2 P)) (s2 := (68, [some (.ref 63), some (.int x1), some (.int x2), some (.int x3), some (.int x4), some (.int x5)], [.int x4], zH y2.2 P)) rfl (fun c4 => ?_) (fun c4 => ?_)
      · rw [if_pos c4] at hx
        refine wp_blk (pc' := 32) (L' := [some (.ref 63), some (.int x1), some (.int x2), some (.int x3), some (.int (x4 ||| 0)), some (.int (x5 + 1))]) (st' := []) (h' := zH y2.2 P) 5 rfl ?_
        exact ih _ _ _ _ _ _ _ hx
      · rw [if_neg c4] at hx
        refine wp_blk (pc' := 32) (L' := [some (.ref 63), some (.int x1), some (.int x2), some (.int x3), some (.int (x4 ||| (1 <<< (x5 &&& 31)))), some (.int (x5 + 1))]) (st' := []) (h' := zH y2.2 P) 8 rfl ?_
        exact ih _ _ _ _ _ _ _ hx
set_option maxRecDepth 100000 in
theorem xp_D_said {X : Nat × (Nat → Int32)} (I : Nat → Nat → Int32) (P : Nat → Nat → Option Nat) (i j : Int32) (r : Int32 × (Nat → Nat → Int32)) (hx : x_D_said I i j = some r) : Wf X 167 [some (.ref 63), some (.int i), some (.int j), none, none, none] (zH I P) (some (.int r.1)) (zH r.2 P) := by
  unfold Wf
  unfold x_D_said at hx
  refine wp_blk (pc' := 3) (L' := [some (.ref 63), some (.int i), some (.int j), none, none, none]) (st' := [.int j, .int i, .ref 63]) (h' := zH I P) 3 rfl ?_
  refine wp_callf (d := 137) (as := [.ref 63, .int i, .int j]) (rest := []) (Ld := [some (.ref 63), some (.int i), some (.int j)]) (pc' := 6) (st' := [.int (f_D_areTwo I i j)]) (r := some (.int (f_D_areTwo I i j))) (h1 := zH I P) rfl rfl rfl rfl rfl rfl rfl rfl rfl (sp_D_areTwo I P i j) ?_
  refine wp_ne (a := f_D_areTwo I i j) (b := 0) (s1 := (11, [some (.ref 63), some (.int i), some (.int j), none, none, none], [], zH I P)) (s2 := (9, [some (.ref 63), some (.int i), some (.int j), none, none, none], [], zH I P)) rfl (fun c1 => ?_) (fun c1 => ?_)
  · rw [if_neg c1] at hx
    refine wp_blk (pc' := 24) (L' := [some (.ref 63), some (.int i), some (.int j), none, none, none]) (st' := [.int ((6 + (6 * i)) + j), .ref 68]) (h' := zH I P) 9 rfl ?_
    obtain ⟨c2, hx⟩ := zite hx
    refine wp_chk (P := zinb ((6 + (6 * i)) + j) 45 = true) (pc' := 25) (L' := [some (.ref 63), some (.int i), some (.int j), none, none, none]) (st' := [.int (I 68 (((6 + (6 * i)) + j).toNatClampNeg))]) (h' := zH I P) rfl c2 ?_
    refine wp_blk (pc' := 32) (L' := [some (.ref 63), some (.int i), some (.int j), some (.int (I 68 (((6 + (6 * i)) + j).toNatClampNeg))), some (.int 0), some (.int 0)]) (st' := []) (h' := zH I P) 5 rfl ?_
    exact lp_D_said_32 P _ _ _ _ _ _ _ _ hx
  · rw [if_pos c1] at hx
    refine wp_blk (pc' := 10) (L' := [some (.ref 63), some (.int i), some (.int j), none, none, none]) (st' := [.int (-1)]) (h' := zH I P) 1 rfl ?_
    cases hx
    exact wp_end rfl rfl ⟨rfl, rfl⟩
def x_D_mouths (I : Nat → Nat → Int32) (c : Int32) : Option (Int32 × (Nat → Nat → Int32)) := if f_D_isOne I c = 0 then (some (-1, I)) else (if f_D_isAway I c = 0 then ((x_D_today I).bind (fun q1 => if zinb c 6 = true then (some (q1.2 74 c.toNatClampNeg, q1.2)) else none)) else (some (-2, I)))
set_option maxRecDepth 100000 in
theorem xp_D_mouths {X : Nat × (Nat → Int32)} (I : Nat → Nat → Int32) (P : Nat → Nat → Option Nat) (c : Int32) (r : Int32 × (Nat → Nat → Int32)) (hx : x_D_mouths I c = some r) : Wf X 168 [some (.ref 63), some (.int c)] (zH I P) (some (.int r.1)) (zH r.2 P) := by
  unfold Wf
  unfold x_D_mouths at hx
  refine wp_blk (pc' := 2) (L' := [some (.ref 63), some (.int c)]) (st' := [.int c, .ref 63]) (h' := zH I P) 2 rfl ?_
  refine wp_callf (d := 133) (as := [.ref 63, .int c]) (rest := []) (Ld := [some (.ref 63), some (.int c)]) (pc' := 5) (st' := [.int (f_D_isOne I c)]) (r := some (.int (f_D_isOne I c))) (h1 := zH I P) rfl rfl rfl rfl rfl rfl rfl rfl rfl (sp_D_isOne I P c) ?_
  refine wp_ne (a := f_D_isOne I c) (b := 0) (s1 := (10, [some (.ref 63), some (.int c)], [], zH I P)) (s2 := (8, [some (.ref 63), some (.int c)], [], zH I P)) rfl (fun c1 => ?_) (fun c1 => ?_)
  · rw [if_neg c1] at hx
    refine wp_blk (pc' := 12) (L' := [some (.ref 63), some (.int c)]) (st' := [.int c, .ref 63]) (h' := zH I P) 2 rfl ?_
    refine wp_callf (d := 135) (as := [.ref 63, .int c]) (rest := []) (Ld := [some (.ref 63), some (.int c)]) (pc' := 15) (st' := [.int (f_D_isAway I c)]) (r := some (.int (f_D_isAway I c))) (h1 := zH I P) rfl rfl rfl rfl rfl rfl rfl rfl rfl (sp_D_isAway I P c) ?_
    refine wp_eq (a := f_D_isAway I c) (b := 0) (s1 := (21, [some (.ref 63), some (.int c)], [], zH I P)) (s2 := (18, [some (.ref 63), some (.int c)], [], zH I P)) rfl (fun c2 => ?_) (fun c2 => ?_)
    · rw [if_pos c2] at hx
      refine wp_blk (pc' := 22) (L' := [some (.ref 63), some (.int c)]) (st' := [.ref 63]) (h' := zH I P) 1 rfl ?_
      obtain ⟨y1, hy1, hx⟩ := zbind hx
      refine wp_callf (d := 139) (as := [.ref 63]) (rest := []) (Ld := [some (.ref 63)]) (pc' := 25) (st' := []) (r := none) (h1 := zH y1.2 P) rfl rfl rfl rfl rfl rfl rfl rfl rfl (xp_D_today _ _  _ hy1) ?_
      refine wp_blk (pc' := 30) (L' := [some (.ref 63), some (.int c)]) (st' := [.int c, .ref 74]) (h' := zH y1.2 P) 3 rfl ?_
      obtain ⟨c3, hx⟩ := zite hx
      refine wp_chk (P := zinb c 6 = true) (pc' := 31) (L' := [some (.ref 63), some (.int c)]) (st' := [.int (y1.2 74 c.toNatClampNeg)]) (h' := zH y1.2 P) rfl c3 ?_
      cases hx
      exact wp_end rfl rfl ⟨rfl, rfl⟩
    · rw [if_neg c2] at hx
      refine wp_blk (pc' := 20) (L' := [some (.ref 63), some (.int c)]) (st' := [.int (-2)]) (h' := zH I P) 1 rfl ?_
      cases hx
      exact wp_end rfl rfl ⟨rfl, rfl⟩
  · rw [if_pos c1] at hx
    refine wp_blk (pc' := 9) (L' := [some (.ref 63), some (.int c)]) (st' := [.int (-1)]) (h' := zH I P) 1 rfl ?_
    cases hx
    exact wp_end rfl rfl ⟨rfl, rfl⟩
def l_D_chance : Nat → Nat → (Nat → Nat → Int32) → Int32 → Int32 → Int32 → Int32 → Int32 → Int32 → Int32 → Int32 → Int32 → Int32 → Option (Int32 × (Nat → Nat → Int32))
  | 0, _, _, _, _, _, _, _, _, _, _, _, _ => none
  | n + 1, hd, I, x1, x2, x3, x4, x5, x6, x7, x8, x9, x10 => if hd = 0 then ((x_D_ones I x5).bind (fun q1 => if q1.1 ≤ x8 then (l_D_chance n 1 q1.2 x1 x2 x3 x4 x5 x6 x7 0 0 0) else (l_D_chance n 0 q1.2 x1 x2 x3 x4 x5 x6 (x7 * 10) (x8 + 1) 0 0))) else (if hd = 1 then (if 1 <<< ((I 63 2) &&& 31) ≤ x8 then (l_D_chance n 3 I x1 x2 x3 x4 x5 x6 x7 x6 x7 0) else (if x8 &&& (x5 ^^^ (-1)) = 0 then (l_D_chance n 2 I x1 x2 x3 x4 x5 x6 x7 x8 1 0) else (l_D_chance n 1 I x1 x2 x3 x4 x5 x6 x7 (x8 + 1) 0 0))) else (if hd = 2 then (if I 63 2 ≤ x10 then ((x_D_stands I ((I 68 42) ||| x8)).bind (fun q2 => (x_D_grinds q2.2 (-1)).bind (fun q3 => if zinb x1 6 = true then (if f_D_breadOf q3.2 (q3.2 73 x1.toNatClampNeg) < x2 then (l_D_chance n 1 q3.2 x1 x2 x3 x4 x5 (x6 + 0) x7 (x8 + 1) 0 0) else (l_D_chance n 1 q3.2 x1 x2 x3 x4 x5 (x6 + x9) x7 (x8 + 1) 0 0)) else none))) else (if (x5 >>> (x10 &&& 31)) &&& 1 = 0 then (l_D_chance n 2 I x1 x2 x3 x4 x5 x6 x7 x8 (x9 * 1) (x10 + 1)) else (if (x8 >>> (x10 &&& 31)) &&& 1 = 1 then (l_D_chance n 2 I x1 x2 x3 x4 x5 x6 x7 x8 (x9 * x3) (x10 + 1)) else (l_D_chance n 2 I x1 x2 x3 x4 x5 x6 x7 x8 (x9 * (10 - x3)) (x10 + 1))))) else (if hd = 3 then (if x9 ≤ 0 then (if x4 = 0 then (if x8 = 0 then none else (some (x6 / x8, I))) else (if x8 = 0 then none else (some (x7 / x8, I)))) else (if x9 = 0 then none else (l_D_chance n 3 I x1 x2 x3 x4 x5 x6 x7 x9 (x8 - x8 / x9 * x9) 0))) else none)))
def x_D_chance (I : Nat → Nat → Int32) (c b x p : Int32) : Option (Int32 × (Nat → Nat → Int32)) := if f_D_isOne I c = 0 then (some (-1, I)) else (if f_D_in I b 0 3 = 0 then (some (-1, I)) else (if f_D_in I x 0 10 = 0 then (some (-1, I)) else (if f_D_in I p 0 1 = 0 then (some (-1, I)) else (if f_D_isAway I c = 0 then (l_D_chance 5000 0 I c b x p ((f_D_there I) &&& ((1 <<< (c &&& 31)) ^^^ (-1))) 0 1 0 0 0) else (some (-2, I))))))
set_option maxRecDepth 100000 in
theorem lp_D_chance {X : Nat × (Nat → Int32)} (P : Nat → Nat → Option Nat) : ∀ (n : Nat), (∀ (I : Nat → Nat → Int32) (x1 : Int32) (x2 : Int32) (x3 : Int32) (x4 : Int32) (x5 : Int32) (x6 : Int32) (x7 : Int32) (x8 : Int32) (x9 : Int32) (x10 : Int32) (r : Int32 × (Nat → Nat → Int32)), l_D_chance n 0 I x1 x2 x3 x4 x5 x6 x7 x8 x9 x10 = some r → Wp X 169 71 [some (.ref 63), some (.int x1), some (.int x2), some (.int x3), some (.int x4), some (.int x5), some (.int x6), some (.int x7), some (.int x8), none, none] [] (zH I P) (fun r2 h2 => r2 = some (.int r.1) ∧ h2 = zH r.2 P)) ∧ (∀ (I : Nat → Nat → Int32) (x1 : Int32) (x2 : Int32) (x3 : Int32) (x4 : Int32) (x5 : Int32) (x6 : Int32) (x7 : Int32) (x8 : Int32) (x9 : Int32) (x10 : Int32) (r : Int32 × (Nat → Nat → Int32)), l_D_chance n 1 I x1 x2 x3 x4 x5 x6 x7 x8 x9 x10 = some r → Wp X 169 97 [some (.ref 63), some (.int x1), some (.int x2), some (.int x3), some (.int x4), some (.int x5), some (.int x6), some (.int x7), some (.int x8), none, none] [] (zH I P) (fun r2 h2 => r2 = some (.int r.1) ∧ h2 = zH r.2 P)) ∧ (∀ (I : Nat → Nat → Int32) (x1 : Int32) (x2 : Int32) (x3 : Int32) (x4 : Int32) (x5 : Int32) (x6 : Int32) (x7 : Int32) (x8 : Int32) (x9 : Int32) (x10 : Int32) (r : Int32 × (Nat → Nat → Int32)), l_D_chance n 2 I x1 x2 x3 x4 x5 x6 x7 x8 x9 x10 = some r → Wp X 169 124 [some (.ref 63), some (.int x1), some (.int x2), some (.int x3), some (.int x4), some (.int x5), some (.int x6), some (.int x7), some (.int x8), some (.int x9), some (.int x10)] [] (zH I P) (fun r2 h2 => r2 = some (.int r.1) ∧ h2 = zH r.2 P)) ∧ (∀ (I : Nat → Nat → Int32) (x1 : Int32) (x2 : Int32) (x3 : Int32) (x4 : Int32) (x5 : Int32) (x6 : Int32) (x7 : Int32) (x8 : Int32) (x9 : Int32) (x10 : Int32) (r : Int32 × (Nat → Nat → Int32)), l_D_chance n 3 I x1 x2 x3 x4 x5 x6 x7 x8 x9 x10 = some r → Wp X 169 234 [some (.ref 63), some (.int x1), some (.int x2), some (.int x3), some (.int x4), some (.int x5), some (.int x6), some (.int x7), some (.int x8), some (.int x9), none] [] (zH I P) (fun r2 h2 => r2 = some (.int r.1) ∧ h2 = zH r.2 P)) := by
  intro n
  induction n with
  | zero => exact ⟨fun I x1 x2 x3 x4 x5 x6 x7 x8 x9 x10 r hx => (by cases hx), fun I x1 x2 x3 x4 x5 x6 x7 x8 x9 x10 r hx => (by cases hx), fun I x1 x2 x3 x4 x5 x6 x7 x8 x9 x10 r hx => (by cases hx), fun I x1 x2 x3 x4 x5 x6 x7 x8 x9 x10 r hx => (by cases hx)⟩
  | succ n ih =>
    refine ⟨?_, ?_, ?_, ?_⟩
    · intro I x1 x2 x3 x4 x5 x6 x7 x8 x9 x10 r hx
      rw [l_D_chance] at hx
      rw [if_pos rfl] at hx
      refine wp_blk (pc' := 75) (L' := [some (.ref 63), some (.int x1), some (.int x2), some (.int x3), some (.int x4), some (.int x5), some (.int x6), some (.int x7), some (.int x8), none, none]) (st' := [.int x5, .int x8]) (h' := zH I P) 2 rfl ?_
      obtain ⟨y1, hy1, hx⟩ := zbind hx
      refine wp_callf (d := 157) (as := [.int x5]) (rest := [.int x8]) (Ld := [some (.int x5), none, none]) (pc' := 78) (st' := [.int y1.1, .int x8]) (r := some (.int y1.1)) (h1 := zH y1.2 P) rfl rfl rfl rfl rfl rfl rfl rfl rfl (xp_D_ones _ _ _ _ hy1) ?_
      refine wp_ge (a := x8) (b := y1.1) (s1 := (94, [some (.ref 63), some (.int x1), some (.int x2), some (.int x3), some (.int x4), some (.int x5), some (.int x6), some (.int x7), some (.int x8), none, none], [], zH y1.2 P)) (s2 := (81, [some (.ref 63), some (.int x1), some (.int x2), some (.int x3), some (.int x4), some (.int x5), some (.int x6), some (.int x7), some (.int x8), none, none], [], zH y1.2 P)) rfl (fun c1 => ?_) (fun c1 => ?_)
      · rw [if_pos c1] at hx
        refine wp_blk (pc' := 97) (L' := [some (.ref 63), some (.int x1), some (.int x2), some (.int x3), some (.int x4), some (.int x5), some (.int x6), some (.int x7), some (.int 0), none, none]) (st' := []) (h' := zH y1.2 P) 2 rfl ?_
        exact ih.2.1 _ _ _ _ _ _ _ _ _ _ _ _ hx
      · rw [if_neg c1] at hx
        refine wp_blk (pc' := 71) (L' := [some (.ref 63), some (.int x1), some (.int x2), some (.int x3), some (.int x4), some (.int x5), some (.int x6), some (.int (x7 * 10)), some (.int (x8 + 1)), none, none]) (st' := []) (h' := zH y1.2 P) 6 rfl ?_
        exact ih.1 _ _ _ _ _ _ _ _ _ _ _ _ hx
    · intro I x1 x2 x3 x4 x5 x6 x7 x8 x9 x10 r hx
      rw [l_D_chance] at hx
      rw [if_neg (by decide)] at hx
      rw [if_pos rfl] at hx
      refine wp_blk (pc' := 105) (L' := [some (.ref 63), some (.int x1), some (.int x2), some (.int x3), some (.int x4), some (.int x5), some (.int x6), some (.int x7), some (.int x8), none, none]) (st' := [.int (1 <<< ((I 63 2) &&& 31)), .int x8]) (h' := zH I P) 5 rfl ?_
      refine wp_ge (a := x8) (b := 1 <<< ((I 63 2) &&& 31)) (s1 := (226, [some (.ref 63), some (.int x1), some (.int x2), some (.int x3), some (.int x4), some (.int x5), some (.int x6), some (.int x7), some (.int x8), none, none], [], zH I P)) (s2 := (108, [some (.ref 63), some (.int x1), some (.int x2), some (.int x3), some (.int x4), some (.int x5), some (.int x6), some (.int x7), some (.int x8), none, none], [], zH I P)) rfl (fun c1 => ?_) (fun c1 => ?_)
      · rw [if_pos c1] at hx
        refine wp_blk (pc' := 234) (L' := [some (.ref 63), some (.int x1), some (.int x2), some (.int x3), some (.int x4), some (.int x5), some (.int x6), some (.int x7), some (.int x6), some (.int x7), none]) (st' := []) (h' := zH I P) 4 rfl ?_
        exact ih.2.2.2 _ _ _ _ _ _ _ _ _ _ _ _ hx
      · rw [if_neg c1] at hx
        refine wp_blk (pc' := 115) (L' := [some (.ref 63), some (.int x1), some (.int x2), some (.int x3), some (.int x4), some (.int x5), some (.int x6), some (.int x7), some (.int x8), none, none]) (st' := [.int (x8 &&& (x5 ^^^ (-1)))]) (h' := zH I P) 5 rfl ?_
        refine wp_ne (a := x8 &&& (x5 ^^^ (-1))) (b := 0) (s1 := (220, [some (.ref 63), some (.int x1), some (.int x2), some (.int x3), some (.int x4), some (.int x5), some (.int x6), some (.int x7), some (.int x8), none, none], [], zH I P)) (s2 := (118, [some (.ref 63), some (.int x1), some (.int x2), some (.int x3), some (.int x4), some (.int x5), some (.int x6), some (.int x7), some (.int x8), none, none], [], zH I P)) rfl (fun c2 => ?_) (fun c2 => ?_)
        · rw [if_neg c2] at hx
          refine wp_blk (pc' := 97) (L' := [some (.ref 63), some (.int x1), some (.int x2), some (.int x3), some (.int x4), some (.int x5), some (.int x6), some (.int x7), some (.int (x8 + 1)), none, none]) (st' := []) (h' := zH I P) 2 rfl ?_
          exact ih.2.1 _ _ _ _ _ _ _ _ _ _ _ _ hx
        · rw [if_pos c2] at hx
          refine wp_blk (pc' := 124) (L' := [some (.ref 63), some (.int x1), some (.int x2), some (.int x3), some (.int x4), some (.int x5), some (.int x6), some (.int x7), some (.int x8), some (.int 1), some (.int 0)]) (st' := []) (h' := zH I P) 4 rfl ?_
          exact ih.2.2.1 _ _ _ _ _ _ _ _ _ _ _ _ hx
    · intro I x1 x2 x3 x4 x5 x6 x7 x8 x9 x10 r hx
      rw [l_D_chance] at hx
      rw [if_neg (by decide)] at hx
      rw [if_neg (by decide)] at hx
      rw [if_pos rfl] at hx
      refine wp_blk (pc' := 130) (L' := [some (.ref 63), some (.int x1), some (.int x2), some (.int x3), some (.int x4), some (.int x5), some (.int x6), some (.int x7), some (.int x8), some (.int x9), some (.int x10)]) (st' := [.int (I 63 2), .int x10]) (h' := zH I P) 3 rfl ?_
      refine wp_ge (a := x10) (b := I 63 2) (s1 := (177, [some (.ref 63), some (.int x1), some (.int x2), some (.int x3), some (.int x4), some (.int x5), some (.int x6), some (.int x7), some (.int x8), some (.int x9), some (.int x10)], [], zH I P)) (s2 := (133, [some (.ref 63), some (.int x1), some (.int x2), some (.int x3), some (.int x4), some (.int x5), some (.int x6), some (.int x7), some (.int x8), some (.int x9), some (.int x10)], [], zH I P)) rfl (fun c1 => ?_) (fun c1 => ?_)
      · rw [if_pos c1] at hx
        refine wp_blk (pc' := 188) (L' := [some (.ref 63), some (.int x1), some (.int x2), some (.int x3), some (.int x4), some (.int x5), some (.int x6), some (.int x7), some (.int x8), some (.int x9), some (.int x10)]) (st' := [.int ((I 68 42) ||| x8), .ref 63]) (h' := zH I P) 7 rfl ?_
        obtain ⟨y1, hy1, hx⟩ := zbind hx
        refine wp_callf (d := 140) (as := [.ref 63, .int ((I 68 42) ||| x8)]) (rest := []) (Ld := [some (.ref 63), some (.int ((I 68 42) ||| x8)), none]) (pc' := 191) (st' := []) (r := none) (h1 := zH y1.2 P) rfl rfl rfl rfl rfl rfl rfl rfl rfl (xp_D_stands _ _ _ _ hy1) ?_
        refine wp_blk (pc' := 193) (L' := [some (.ref 63), some (.int x1), some (.int x2), some (.int x3), some (.int x4), some (.int x5), some (.int x6), some (.int x7), some (.int x8), some (.int x9), some (.int x10)]) (st' := [.int (-1), .ref 63]) (h' := zH y1.2 P) 2 rfl ?_
        obtain ⟨y2, hy2, hx⟩ := zbind hx
        refine wp_callf (d := 141) (as := [.ref 63, .int (-1)]) (rest := []) (Ld := [some (.ref 63), some (.int (-1)), none, none]) (pc' := 196) (st' := []) (r := none) (h1 := zH y2.2 P) rfl rfl rfl rfl rfl rfl rfl rfl rfl (xp_D_grinds _ _ _ _ hy2) ?_
        refine wp_blk (pc' := 203) (L' := [some (.ref 63), some (.int x1), some (.int x2), some (.int x3), some (.int x4), some (.int x5), some (.int x6), some (.int x7), some (.int x8), some (.int x9), some (.int x10)]) (st' := [.int x1, .ref 73, .int x6]) (h' := zH y2.2 P) 4 rfl ?_
        obtain ⟨c2, hx⟩ := zite hx
        refine wp_chk (P := zinb x1 6 = true) (pc' := 204) (L' := [some (.ref 63), some (.int x1), some (.int x2), some (.int x3), some (.int x4), some (.int x5), some (.int x6), some (.int x7), some (.int x8), some (.int x9), some (.int x10)]) (st' := [.int (y2.2 73 x1.toNatClampNeg), .int x6]) (h' := zH y2.2 P) rfl c2 ?_
        refine wp_callf (d := 143) (as := [.int (y2.2 73 x1.toNatClampNeg)]) (rest := [.int x6]) (Ld := [some (.int (y2.2 73 x1.toNatClampNeg))]) (pc' := 207) (st' := [.int (f_D_breadOf y2.2 (y2.2 73 x1.toNatClampNeg)), .int x6]) (r := some (.int (f_D_breadOf y2.2 (y2.2 73 x1.toNatClampNeg)))) (h1 := zH y2.2 P) rfl rfl rfl rfl rfl rfl rfl rfl rfl (sp_D_breadOf y2.2 P (y2.2 73 x1.toNatClampNeg)) ?_
        refine wp_blk (pc' := 208) (L' := [some (.ref 63), some (.int x1), some (.int x2), some (.int x3), some (.int x4), some (.int x5), some (.int x6), some (.int x7), some (.int x8), some (.int x9), some (.int x10)]) (st' := [.int x2, .int (f_D_breadOf y2.2 (y2.2 73 x1.toNatClampNeg)), .int x6]) (h' := zH y2.2 P) 1 rfl ?_
        refine wp_lt (a := f_D_breadOf y2.2 (y2.2 73 x1.toNatClampNeg)) (b := x2) (s1 := (216, [some (.ref 63), some (.int x1), some (.int x2), some (.int x3), some (.int x4), some (.int x5), some (.int x6), some (.int x7), some (.int x8), some (.int x9), some (.int x10)], [.int x6], zH y2.2 P)) (s2 := (211, [some (.ref 63), some (.int x1), some (.int x2), some (.int x3), some (.int x4), some (.int x5), some (.int x6), some (.int x7), some (.int x8), some (.int x9), some (.int x10)], [.int x6], zH y2.2 P)) rfl (fun c3 => ?_) (fun c3 => ?_)
        · rw [if_pos c3] at hx
          refine wp_blk (pc' := 97) (L' := [some (.ref 63), some (.int x1), some (.int x2), some (.int x3), some (.int x4), some (.int x5), some (.int (x6 + 0)), some (.int x7), some (.int (x8 + 1)), some (.int x9), some (.int x10)]) (st' := []) (h' := zH y2.2 P) 5 rfl ?_
          exact wp_forget (ih.2.1 _ _ _ _ _ _ _ _ _ _ _ _ hx) (zle_c (zle_c (zle_c (zle_c (zle_c (zle_c (zle_c (zle_c (zle_c (zle_n (zle_n zle_nil)))))))))))
        · rw [if_neg c3] at hx
          refine wp_blk (pc' := 97) (L' := [some (.ref 63), some (.int x1), some (.int x2), some (.int x3), some (.int x4), some (.int x5), some (.int (x6 + x9)), some (.int x7), some (.int (x8 + 1)), some (.int x9), some (.int x10)]) (st' := []) (h' := zH y2.2 P) 6 rfl ?_
          exact wp_forget (ih.2.1 _ _ _ _ _ _ _ _ _ _ _ _ hx) (zle_c (zle_c (zle_c (zle_c (zle_c (zle_c (zle_c (zle_c (zle_c (zle_n (zle_n zle_nil)))))))))))
      · rw [if_neg c1] at hx
        refine wp_blk (pc' := 142) (L' := [some (.ref 63), some (.int x1), some (.int x2), some (.int x3), some (.int x4), some (.int x5), some (.int x6), some (.int x7), some (.int x8), some (.int x9), some (.int x10)]) (st' := [.int ((x5 >>> (x10 &&& 31)) &&& 1), .int x9]) (h' := zH I P) 6 rfl ?_
        refine wp_ne (a := (x5 >>> (x10 &&& 31)) &&& 1) (b := 0) (s1 := (149, [some (.ref 63), some (.int x1), some (.int x2), some (.int x3), some (.int x4), some (.int x5), some (.int x6), some (.int x7), some (.int x8), some (.int x9), some (.int x10)], [.int x9], zH I P)) (s2 := (145, [some (.ref 63), some (.int x1), some (.int x2), some (.int x3), some (.int x4), some (.int x5), some (.int x6), some (.int x7), some (.int x8), some (.int x9), some (.int x10)], [.int x9], zH I P)) rfl (fun c4 => ?_) (fun c4 => ?_)
        · rw [if_neg c4] at hx
          refine wp_blk (pc' := 157) (L' := [some (.ref 63), some (.int x1), some (.int x2), some (.int x3), some (.int x4), some (.int x5), some (.int x6), some (.int x7), some (.int x8), some (.int x9), some (.int x10)]) (st' := [.int 1, .int ((x8 >>> (x10 &&& 31)) &&& 1), .int x9]) (h' := zH I P) 6 rfl ?_
          refine wp_ne (a := (x8 >>> (x10 &&& 31)) &&& 1) (b := 1) (s1 := (164, [some (.ref 63), some (.int x1), some (.int x2), some (.int x3), some (.int x4), some (.int x5), some (.int x6), some (.int x7), some (.int x8), some (.int x9), some (.int x10)], [.int x9], zH I P)) (s2 := (160, [some (.ref 63), some (.int x1), some (.int x2), some (.int x3), some (.int x4), some (.int x5), some (.int x6), some (.int x7), some (.int x8), some (.int x9), some (.int x10)], [.int x9], zH I P)) rfl (fun c5 => ?_) (fun c5 => ?_)
          · rw [if_neg c5] at hx
            refine wp_blk (pc' := 124) (L' := [some (.ref 63), some (.int x1), some (.int x2), some (.int x3), some (.int x4), some (.int x5), some (.int x6), some (.int x7), some (.int x8), some (.int (x9 * (10 - x3))), some (.int (x10 + 1))]) (st' := []) (h' := zH I P) 7 rfl ?_
            exact ih.2.2.1 _ _ _ _ _ _ _ _ _ _ _ _ hx
          · rw [if_pos c5] at hx
            refine wp_blk (pc' := 124) (L' := [some (.ref 63), some (.int x1), some (.int x2), some (.int x3), some (.int x4), some (.int x5), some (.int x6), some (.int x7), some (.int x8), some (.int (x9 * x3)), some (.int (x10 + 1))]) (st' := []) (h' := zH I P) 6 rfl ?_
            exact ih.2.2.1 _ _ _ _ _ _ _ _ _ _ _ _ hx
        · rw [if_pos c4] at hx
          refine wp_blk (pc' := 124) (L' := [some (.ref 63), some (.int x1), some (.int x2), some (.int x3), some (.int x4), some (.int x5), some (.int x6), some (.int x7), some (.int x8), some (.int (x9 * 1)), some (.int (x10 + 1))]) (st' := []) (h' := zH I P) 6 rfl ?_
          exact ih.2.2.1 _ _ _ _ _ _ _ _ _ _ _ _ hx
    · intro I x1 x2 x3 x4 x5 x6 x7 x8 x9 x10 r hx
      rw [l_D_chance] at hx
      rw [if_neg (by decide)] at hx
      rw [if_neg (by decide)] at hx
      rw [if_neg (by decide)] at hx
      rw [if_pos rfl] at hx
      refine wp_blk (pc' := 236) (L' := [some (.ref 63), some (.int x1), some (.int x2), some (.int x3), some (.int x4), some (.int x5), some (.int x6), some (.int x7), some (.int x8), some (.int x9), none]) (st' := [.int x9]) (h' := zH I P) 1 rfl ?_
      refine wp_le (a := x9) (b := 0) (s1 := (257, [some (.ref 63), some (.int x1), some (.int x2), some (.int x3), some (.int x4), some (.int x5), some (.int x6), some (.int x7), some (.int x8), some (.int x9), none], [], zH I P)) (s2 := (239, [some (.ref 63), some (.int x1), some (.int x2), some (.int x3), some (.int x4), some (.int x5), some (.int x6), some (.int x7), some (.int x8), some (.int x9), none], [], zH I P)) rfl (fun c1 => ?_) (fun c1 => ?_)
      · rw [if_pos c1] at hx
        refine wp_blk (pc' := 259) (L' := [some (.ref 63), some (.int x1), some (.int x2), some (.int x3), some (.int x4), some (.int x5), some (.int x6), some (.int x7), some (.int x8), some (.int x9), none]) (st' := [.int x4]) (h' := zH I P) 1 rfl ?_
        refine wp_ne (a := x4) (b := 0) (s1 := (270, [some (.ref 63), some (.int x1), some (.int x2), some (.int x3), some (.int x4), some (.int x5), some (.int x6), some (.int x7), some (.int x8), some (.int x9), none], [], zH I P)) (s2 := (262, [some (.ref 63), some (.int x1), some (.int x2), some (.int x3), some (.int x4), some (.int x5), some (.int x6), some (.int x7), some (.int x8), some (.int x9), none], [], zH I P)) rfl (fun c2 => ?_) (fun c2 => ?_)
        · rw [if_neg c2] at hx
          refine wp_blk (pc' := 274) (L' := [some (.ref 63), some (.int x1), some (.int x2), some (.int x3), some (.int x4), some (.int x5), some (.int x6), some (.int x7), some (.int x8), some (.int x9), none]) (st' := [.int x8, .int x7]) (h' := zH I P) 2 rfl ?_
          obtain ⟨c3, hx⟩ := znite hx
          refine wp_nchk (P := x8 = 0) (pc' := 275) (L' := [some (.ref 63), some (.int x1), some (.int x2), some (.int x3), some (.int x4), some (.int x5), some (.int x6), some (.int x7), some (.int x8), some (.int x9), none]) (st' := [.int (x7 / x8)]) (h' := zH I P) rfl c3 ?_
          cases hx
          exact wp_end rfl rfl ⟨rfl, rfl⟩
        · rw [if_pos c2] at hx
          refine wp_blk (pc' := 266) (L' := [some (.ref 63), some (.int x1), some (.int x2), some (.int x3), some (.int x4), some (.int x5), some (.int x6), some (.int x7), some (.int x8), some (.int x9), none]) (st' := [.int x8, .int x6]) (h' := zH I P) 2 rfl ?_
          obtain ⟨c4, hx⟩ := znite hx
          refine wp_nchk (P := x8 = 0) (pc' := 267) (L' := [some (.ref 63), some (.int x1), some (.int x2), some (.int x3), some (.int x4), some (.int x5), some (.int x6), some (.int x7), some (.int x8), some (.int x9), none]) (st' := [.int (x6 / x8)]) (h' := zH I P) rfl c4 ?_
          refine wp_blk (pc' := 275) (L' := [some (.ref 63), some (.int x1), some (.int x2), some (.int x3), some (.int x4), some (.int x5), some (.int x6), some (.int x7), some (.int x8), some (.int x9), none]) (st' := [.int (x6 / x8)]) (h' := zH I P) 1 rfl ?_
          cases hx
          exact wp_end rfl rfl ⟨rfl, rfl⟩
      · rw [if_neg c1] at hx
        refine wp_blk (pc' := 243) (L' := [some (.ref 63), some (.int x1), some (.int x2), some (.int x3), some (.int x4), some (.int x5), some (.int x6), some (.int x7), some (.int x8), some (.int x9), none]) (st' := [.int x9, .int x8]) (h' := zH I P) 2 rfl ?_
        obtain ⟨c5, hx⟩ := znite hx
        refine wp_nchk (P := x9 = 0) (pc' := 244) (L' := [some (.ref 63), some (.int x1), some (.int x2), some (.int x3), some (.int x4), some (.int x5), some (.int x6), some (.int x7), some (.int x8), some (.int x9), none]) (st' := [.int (x8 - x8 / x9 * x9)]) (h' := zH I P) rfl c5 ?_
        refine wp_blk (pc' := 234) (L' := [some (.ref 63), some (.int x1), some (.int x2), some (.int x3), some (.int x4), some (.int x5), some (.int x6), some (.int x7), some (.int x9), some (.int (x8 - x8 / x9 * x9)), some (.int (x8 - x8 / x9 * x9))]) (st' := []) (h' := zH I P) 6 rfl ?_
        exact wp_forget (ih.2.2.2 _ _ _ _ _ _ _ _ _ _ _ _ hx) (zle_c (zle_c (zle_c (zle_c (zle_c (zle_c (zle_c (zle_c (zle_c (zle_c (zle_n zle_nil)))))))))))
set_option maxRecDepth 100000 in
theorem xp_D_chance {X : Nat × (Nat → Int32)} (I : Nat → Nat → Int32) (P : Nat → Nat → Option Nat) (c b x p : Int32) (r : Int32 × (Nat → Nat → Int32)) (hx : x_D_chance I c b x p = some r) : Wf X 169 [some (.ref 63), some (.int c), some (.int b), some (.int x), some (.int p), none, none, none, none, none, none] (zH I P) (some (.int r.1)) (zH r.2 P) := by
  unfold Wf
  unfold x_D_chance at hx
  refine wp_blk (pc' := 2) (L' := [some (.ref 63), some (.int c), some (.int b), some (.int x), some (.int p), none, none, none, none, none, none]) (st' := [.int c, .ref 63]) (h' := zH I P) 2 rfl ?_
  refine wp_callf (d := 133) (as := [.ref 63, .int c]) (rest := []) (Ld := [some (.ref 63), some (.int c)]) (pc' := 5) (st' := [.int (f_D_isOne I c)]) (r := some (.int (f_D_isOne I c))) (h1 := zH I P) rfl rfl rfl rfl rfl rfl rfl rfl rfl (sp_D_isOne I P c) ?_
  refine wp_eq (a := f_D_isOne I c) (b := 0) (s1 := (37, [some (.ref 63), some (.int c), some (.int b), some (.int x), some (.int p), none, none, none, none, none, none], [], zH I P)) (s2 := (8, [some (.ref 63), some (.int c), some (.int b), some (.int x), some (.int p), none, none, none, none, none, none], [], zH I P)) rfl (fun c1 => ?_) (fun c1 => ?_)
  · rw [if_pos c1] at hx
    refine wp_blk (pc' := 38) (L' := [some (.ref 63), some (.int c), some (.int b), some (.int x), some (.int p), none, none, none, none, none, none]) (st' := [.int (-1)]) (h' := zH I P) 1 rfl ?_
    cases hx
    exact wp_end rfl rfl ⟨rfl, rfl⟩
  · rw [if_neg c1] at hx
    refine wp_blk (pc' := 11) (L' := [some (.ref 63), some (.int c), some (.int b), some (.int x), some (.int p), none, none, none, none, none, none]) (st' := [.int 3, .int 0, .int b]) (h' := zH I P) 3 rfl ?_
    refine wp_callf (d := 123) (as := [.int b, .int 0, .int 3]) (rest := []) (Ld := [some (.int b), some (.int 0), some (.int 3)]) (pc' := 14) (st' := [.int (f_D_in I b 0 3)]) (r := some (.int (f_D_in I b 0 3))) (h1 := zH I P) rfl rfl rfl rfl rfl rfl rfl rfl rfl (sp_D_in I P b 0 3) ?_
    refine wp_eq (a := f_D_in I b 0 3) (b := 0) (s1 := (37, [some (.ref 63), some (.int c), some (.int b), some (.int x), some (.int p), none, none, none, none, none, none], [], zH I P)) (s2 := (17, [some (.ref 63), some (.int c), some (.int b), some (.int x), some (.int p), none, none, none, none, none, none], [], zH I P)) rfl (fun c2 => ?_) (fun c2 => ?_)
    · rw [if_pos c2] at hx
      refine wp_blk (pc' := 38) (L' := [some (.ref 63), some (.int c), some (.int b), some (.int x), some (.int p), none, none, none, none, none, none]) (st' := [.int (-1)]) (h' := zH I P) 1 rfl ?_
      cases hx
      exact wp_end rfl rfl ⟨rfl, rfl⟩
    · rw [if_neg c2] at hx
      refine wp_blk (pc' := 21) (L' := [some (.ref 63), some (.int c), some (.int b), some (.int x), some (.int p), none, none, none, none, none, none]) (st' := [.int 10, .int 0, .int x]) (h' := zH I P) 3 rfl ?_
      refine wp_callf (d := 123) (as := [.int x, .int 0, .int 10]) (rest := []) (Ld := [some (.int x), some (.int 0), some (.int 10)]) (pc' := 24) (st' := [.int (f_D_in I x 0 10)]) (r := some (.int (f_D_in I x 0 10))) (h1 := zH I P) rfl rfl rfl rfl rfl rfl rfl rfl rfl (sp_D_in I P x 0 10) ?_
      refine wp_eq (a := f_D_in I x 0 10) (b := 0) (s1 := (37, [some (.ref 63), some (.int c), some (.int b), some (.int x), some (.int p), none, none, none, none, none, none], [], zH I P)) (s2 := (27, [some (.ref 63), some (.int c), some (.int b), some (.int x), some (.int p), none, none, none, none, none, none], [], zH I P)) rfl (fun c3 => ?_) (fun c3 => ?_)
      · rw [if_pos c3] at hx
        refine wp_blk (pc' := 38) (L' := [some (.ref 63), some (.int c), some (.int b), some (.int x), some (.int p), none, none, none, none, none, none]) (st' := [.int (-1)]) (h' := zH I P) 1 rfl ?_
        cases hx
        exact wp_end rfl rfl ⟨rfl, rfl⟩
      · rw [if_neg c3] at hx
        refine wp_blk (pc' := 31) (L' := [some (.ref 63), some (.int c), some (.int b), some (.int x), some (.int p), none, none, none, none, none, none]) (st' := [.int 1, .int 0, .int p]) (h' := zH I P) 3 rfl ?_
        refine wp_callf (d := 123) (as := [.int p, .int 0, .int 1]) (rest := []) (Ld := [some (.int p), some (.int 0), some (.int 1)]) (pc' := 34) (st' := [.int (f_D_in I p 0 1)]) (r := some (.int (f_D_in I p 0 1))) (h1 := zH I P) rfl rfl rfl rfl rfl rfl rfl rfl rfl (sp_D_in I P p 0 1) ?_
        refine wp_ne (a := f_D_in I p 0 1) (b := 0) (s1 := (39, [some (.ref 63), some (.int c), some (.int b), some (.int x), some (.int p), none, none, none, none, none, none], [], zH I P)) (s2 := (37, [some (.ref 63), some (.int c), some (.int b), some (.int x), some (.int p), none, none, none, none, none, none], [], zH I P)) rfl (fun c4 => ?_) (fun c4 => ?_)
        · rw [if_neg c4] at hx
          refine wp_blk (pc' := 41) (L' := [some (.ref 63), some (.int c), some (.int b), some (.int x), some (.int p), none, none, none, none, none, none]) (st' := [.int c, .ref 63]) (h' := zH I P) 2 rfl ?_
          refine wp_callf (d := 135) (as := [.ref 63, .int c]) (rest := []) (Ld := [some (.ref 63), some (.int c)]) (pc' := 44) (st' := [.int (f_D_isAway I c)]) (r := some (.int (f_D_isAway I c))) (h1 := zH I P) rfl rfl rfl rfl rfl rfl rfl rfl rfl (sp_D_isAway I P c) ?_
          refine wp_eq (a := f_D_isAway I c) (b := 0) (s1 := (50, [some (.ref 63), some (.int c), some (.int b), some (.int x), some (.int p), none, none, none, none, none, none], [], zH I P)) (s2 := (47, [some (.ref 63), some (.int c), some (.int b), some (.int x), some (.int p), none, none, none, none, none, none], [], zH I P)) rfl (fun c5 => ?_) (fun c5 => ?_)
          · rw [if_pos c5] at hx
            refine wp_blk (pc' := 51) (L' := [some (.ref 63), some (.int c), some (.int b), some (.int x), some (.int p), none, none, none, none, none, none]) (st' := [.ref 63]) (h' := zH I P) 1 rfl ?_
            refine wp_callf (d := 156) (as := [.ref 63]) (rest := []) (Ld := [some (.ref 63)]) (pc' := 54) (st' := [.int (f_D_there I)]) (r := some (.int (f_D_there I))) (h1 := zH I P) rfl rfl rfl rfl rfl rfl rfl rfl rfl (sp_D_there I P) ?_
            refine wp_blk (pc' := 71) (L' := [some (.ref 63), some (.int c), some (.int b), some (.int x), some (.int p), some (.int ((f_D_there I) &&& ((1 <<< (c &&& 31)) ^^^ (-1)))), some (.int 0), some (.int 1), some (.int 0), none, none]) (st' := []) (h' := zH I P) 13 rfl ?_
            exact (lp_D_chance P _).1 _ _ _ _ _ _ _ _ _ _ _ _ hx
          · rw [if_neg c5] at hx
            refine wp_blk (pc' := 49) (L' := [some (.ref 63), some (.int c), some (.int b), some (.int x), some (.int p), none, none, none, none, none, none]) (st' := [.int (-2)]) (h' := zH I P) 1 rfl ?_
            cases hx
            exact wp_end rfl rfl ⟨rfl, rfl⟩
        · rw [if_pos c4] at hx
          refine wp_blk (pc' := 38) (L' := [some (.ref 63), some (.int c), some (.int b), some (.int x), some (.int p), none, none, none, none, none, none]) (st' := [.int (-1)]) (h' := zH I P) 1 rfl ?_
          cases hx
          exact wp_end rfl rfl ⟨rfl, rfl⟩
def l_D_year_42 : Nat → (Nat → Nat → Int32) → Int32 → Int32 → Int32 → Int32 → Int32 → Option (Int32 × (Nat → Nat → Int32))
  | 0, _, _, _, _, _, _ => none
  | n + 1, I, x1, x2, x3, x4, x5 => if x2 ≤ x5 then (if x3 = 0 then ((x_D_lets I).bind (fun q3 => some (I 68 43, q3.2))) else ((x_D_lets I).bind (fun q2 => some (x4, q2.2)))) else (if (I 63 2) = 0 then none else (if (I 63 2) = 0 then none else (if (((((((7919 * ((x1 : Int32).toInt64)) + (6151 * ((x5 : Int32).toInt64))) + 1) * (((7919 * ((x1 : Int32).toInt64)) + (6151 * ((x5 : Int32).toInt64))) + 1)) - ((((7919 * ((x1 : Int32).toInt64)) + (6151 * ((x5 : Int32).toInt64))) + 1) * (((7919 * ((x1 : Int32).toInt64)) + (6151 * ((x5 : Int32).toInt64))) + 1)) / 65521 * 65521 : Int64).toInt32) / 8) - (((((((7919 * ((x1 : Int32).toInt64)) + (6151 * ((x5 : Int32).toInt64))) + 1) * (((7919 * ((x1 : Int32).toInt64)) + (6151 * ((x5 : Int32).toInt64))) + 1)) - ((((7919 * ((x1 : Int32).toInt64)) + (6151 * ((x5 : Int32).toInt64))) + 1) * (((7919 * ((x1 : Int32).toInt64)) + (6151 * ((x5 : Int32).toInt64))) + 1)) / 65521 * 65521 : Int64).toInt32) / 8) / (I 63 2) * (I 63 2) = ((((((((7919 * ((x1 : Int32).toInt64)) + (6151 * ((x5 : Int32).toInt64))) + 1) * (((7919 * ((x1 : Int32).toInt64)) + (6151 * ((x5 : Int32).toInt64))) + 1)) - ((((7919 * ((x1 : Int32).toInt64)) + (6151 * ((x5 : Int32).toInt64))) + 1) * (((7919 * ((x1 : Int32).toInt64)) + (6151 * ((x5 : Int32).toInt64))) + 1)) / 65521 * 65521 : Int64).toInt32) / 8) / 8) - ((((((((7919 * ((x1 : Int32).toInt64)) + (6151 * ((x5 : Int32).toInt64))) + 1) * (((7919 * ((x1 : Int32).toInt64)) + (6151 * ((x5 : Int32).toInt64))) + 1)) - ((((7919 * ((x1 : Int32).toInt64)) + (6151 * ((x5 : Int32).toInt64))) + 1) * (((7919 * ((x1 : Int32).toInt64)) + (6151 * ((x5 : Int32).toInt64))) + 1)) / 65521 * 65521 : Int64).toInt32) / 8) / 8) / (I 63 2) * (I 63 2) then ((x_D_passes I).bind (fun q4 => (x_D_bran q4.2).bind (fun q5 => (x_D_ones q5.2 q5.1).bind (fun q6 => l_D_year_42 n q6.2 x1 x2 x3 (x4 + q6.1) (x5 + 1))))) else ((x_D_swaps I ((((((((7919 * ((x1 : Int32).toInt64)) + (6151 * ((x5 : Int32).toInt64))) + 1) * (((7919 * ((x1 : Int32).toInt64)) + (6151 * ((x5 : Int32).toInt64))) + 1)) - ((((7919 * ((x1 : Int32).toInt64)) + (6151 * ((x5 : Int32).toInt64))) + 1) * (((7919 * ((x1 : Int32).toInt64)) + (6151 * ((x5 : Int32).toInt64))) + 1)) / 65521 * 65521 : Int64).toInt32) / 8) - (((((((7919 * ((x1 : Int32).toInt64)) + (6151 * ((x5 : Int32).toInt64))) + 1) * (((7919 * ((x1 : Int32).toInt64)) + (6151 * ((x5 : Int32).toInt64))) + 1)) - ((((7919 * ((x1 : Int32).toInt64)) + (6151 * ((x5 : Int32).toInt64))) + 1) * (((7919 * ((x1 : Int32).toInt64)) + (6151 * ((x5 : Int32).toInt64))) + 1)) / 65521 * 65521 : Int64).toInt32) / 8) / (I 63 2) * (I 63 2)) (((((((((7919 * ((x1 : Int32).toInt64)) + (6151 * ((x5 : Int32).toInt64))) + 1) * (((7919 * ((x1 : Int32).toInt64)) + (6151 * ((x5 : Int32).toInt64))) + 1)) - ((((7919 * ((x1 : Int32).toInt64)) + (6151 * ((x5 : Int32).toInt64))) + 1) * (((7919 * ((x1 : Int32).toInt64)) + (6151 * ((x5 : Int32).toInt64))) + 1)) / 65521 * 65521 : Int64).toInt32) / 8) / 8) - ((((((((7919 * ((x1 : Int32).toInt64)) + (6151 * ((x5 : Int32).toInt64))) + 1) * (((7919 * ((x1 : Int32).toInt64)) + (6151 * ((x5 : Int32).toInt64))) + 1)) - ((((7919 * ((x1 : Int32).toInt64)) + (6151 * ((x5 : Int32).toInt64))) + 1) * (((7919 * ((x1 : Int32).toInt64)) + (6151 * ((x5 : Int32).toInt64))) + 1)) / 65521 * 65521 : Int64).toInt32) / 8) / 8) / (I 63 2) * (I 63 2))).bind (fun q7 => (x_D_passes q7.2).bind (fun q8 => (x_D_bran q8.2).bind (fun q9 => (x_D_ones q9.2 q9.1).bind (fun q10 => l_D_year_42 n q10.2 x1 x2 x3 (x4 + q10.1) (x5 + 1)))))))))
def x_D_year (I : Nat → Nat → Int32) (z n w : Int32) : Option (Int32 × (Nat → Nat → Int32)) := if f_D_in I z 0 9999 = 0 then (some (-1, I)) else (if f_D_in I n 1 60 = 0 then (some (-1, I)) else (if f_D_in I w 0 1 = 0 then (some (-1, I)) else ((x_D_holds I).bind (fun q1 => l_D_year_42 1000 q1.2 z n w 0 0))))
set_option maxRecDepth 100000 in
theorem lp_D_year_42 {X : Nat × (Nat → Int32)} (P : Nat → Nat → Option Nat) : ∀ (n : Nat) (I : Nat → Nat → Int32) (x1 : Int32) (x2 : Int32) (x3 : Int32) (x4 : Int32) (x5 : Int32) (r : Int32 × (Nat → Nat → Int32)), l_D_year_42 n I x1 x2 x3 x4 x5 = some r → Wp X 170 42 [some (.ref 63), some (.int x1), some (.int x2), some (.int x3), some (.int x4), some (.int x5), none, none, none, none, none] [] (zH I P) (fun r2 h2 => r2 = some (.int r.1) ∧ h2 = zH r.2 P) := by
  intro n
  induction n with
  | zero => intro I x1 x2 x3 x4 x5 r hx; cases hx
  | succ n ih =>
    intro I x1 x2 x3 x4 x5 r hx
    rw [l_D_year_42] at hx
    refine wp_blk (pc' := 45) (L' := [some (.ref 63), some (.int x1), some (.int x2), some (.int x3), some (.int x4), some (.int x5), none, none, none, none, none]) (st' := [.int x2, .int x5]) (h' := zH I P) 2 rfl ?_
    refine wp_ge (a := x5) (b := x2) (s1 := (139, [some (.ref 63), some (.int x1), some (.int x2), some (.int x3), some (.int x4), some (.int x5), none, none, none, none, none], [], zH I P)) (s2 := (48, [some (.ref 63), some (.int x1), some (.int x2), some (.int x3), some (.int x4), some (.int x5), none, none, none, none, none], [], zH I P)) rfl (fun c1 => ?_) (fun c1 => ?_)
    · rw [if_pos c1] at hx
      refine wp_blk (pc' := 140) (L' := [some (.ref 63), some (.int x1), some (.int x2), some (.int x3), some (.int x4), some (.int x5), none, none, none, none, none]) (st' := [.int x3]) (h' := zH I P) 1 rfl ?_
      refine wp_ne (a := x3) (b := 0) (s1 := (153, [some (.ref 63), some (.int x1), some (.int x2), some (.int x3), some (.int x4), some (.int x5), none, none, none, none, none], [], zH I P)) (s2 := (143, [some (.ref 63), some (.int x1), some (.int x2), some (.int x3), some (.int x4), some (.int x5), none, none, none, none, none], [], zH I P)) rfl (fun c2 => ?_) (fun c2 => ?_)
      · rw [if_neg c2] at hx
        refine wp_blk (pc' := 158) (L' := [some (.ref 63), some (.int x1), some (.int x2), some (.int x3), some (.int x4), some (.int x4), none, none, none, none, none]) (st' := [.ref 63]) (h' := zH I P) 3 rfl ?_
        obtain ⟨y1, hy1, hx⟩ := zbind hx
        refine wp_callf (d := 154) (as := [.ref 63]) (rest := []) (Ld := [some (.ref 63), none]) (pc' := 161) (st' := []) (r := none) (h1 := zH y1.2 P) rfl rfl rfl rfl rfl rfl rfl rfl rfl (xp_D_lets _ _  _ hy1) ?_
        refine wp_blk (pc' := 163) (L' := [some (.ref 63), some (.int x1), some (.int x2), some (.int x3), some (.int x4), some (.int x4), none, none, none, none, none]) (st' := [.int x4]) (h' := zH y1.2 P) 1 rfl ?_
        cases hx
        exact wp_end rfl rfl ⟨rfl, rfl⟩
      · rw [if_pos c2] at hx
        refine wp_blk (pc' := 158) (L' := [some (.ref 63), some (.int x1), some (.int x2), some (.int x3), some (.int x4), some (.int (I 68 43)), none, none, none, none, none]) (st' := [.ref 63]) (h' := zH I P) 7 rfl ?_
        obtain ⟨y2, hy2, hx⟩ := zbind hx
        refine wp_callf (d := 154) (as := [.ref 63]) (rest := []) (Ld := [some (.ref 63), none]) (pc' := 161) (st' := []) (r := none) (h1 := zH y2.2 P) rfl rfl rfl rfl rfl rfl rfl rfl rfl (xp_D_lets _ _  _ hy2) ?_
        refine wp_blk (pc' := 163) (L' := [some (.ref 63), some (.int x1), some (.int x2), some (.int x3), some (.int x4), some (.int (I 68 43)), none, none, none, none, none]) (st' := [.int (I 68 43)]) (h' := zH y2.2 P) 1 rfl ?_
        cases hx
        exact wp_end rfl rfl ⟨rfl, rfl⟩
    · rw [if_neg c1] at hx
      refine wp_blk (pc' := 87) (L' := [some (.ref 63), some (.int x1), some (.int x2), some (.int x3), some (.int x4), some (.int x5), some (.long (((7919 * ((x1 : Int32).toInt64)) + (6151 * ((x5 : Int32).toInt64))) + 1)), none, some (.int (((((((7919 * ((x1 : Int32).toInt64)) + (6151 * ((x5 : Int32).toInt64))) + 1) * (((7919 * ((x1 : Int32).toInt64)) + (6151 * ((x5 : Int32).toInt64))) + 1)) - ((((7919 * ((x1 : Int32).toInt64)) + (6151 * ((x5 : Int32).toInt64))) + 1) * (((7919 * ((x1 : Int32).toInt64)) + (6151 * ((x5 : Int32).toInt64))) + 1)) / 65521 * 65521 : Int64).toInt32) / 8)), none, none]) (st' := [.int (I 63 2), .int (((((((7919 * ((x1 : Int32).toInt64)) + (6151 * ((x5 : Int32).toInt64))) + 1) * (((7919 * ((x1 : Int32).toInt64)) + (6151 * ((x5 : Int32).toInt64))) + 1)) - ((((7919 * ((x1 : Int32).toInt64)) + (6151 * ((x5 : Int32).toInt64))) + 1) * (((7919 * ((x1 : Int32).toInt64)) + (6151 * ((x5 : Int32).toInt64))) + 1)) / 65521 * 65521 : Int64).toInt32) / 8)]) (h' := zH I P) 24 rfl ?_
      obtain ⟨c3, hx⟩ := znite hx
      refine wp_nchk (P := (I 63 2) = 0) (pc' := 88) (L' := [some (.ref 63), some (.int x1), some (.int x2), some (.int x3), some (.int x4), some (.int x5), some (.long (((7919 * ((x1 : Int32).toInt64)) + (6151 * ((x5 : Int32).toInt64))) + 1)), none, some (.int (((((((7919 * ((x1 : Int32).toInt64)) + (6151 * ((x5 : Int32).toInt64))) + 1) * (((7919 * ((x1 : Int32).toInt64)) + (6151 * ((x5 : Int32).toInt64))) + 1)) - ((((7919 * ((x1 : Int32).toInt64)) + (6151 * ((x5 : Int32).toInt64))) + 1) * (((7919 * ((x1 : Int32).toInt64)) + (6151 * ((x5 : Int32).toInt64))) + 1)) / 65521 * 65521 : Int64).toInt32) / 8)), none, none]) (st' := [.int ((((((((7919 * ((x1 : Int32).toInt64)) + (6151 * ((x5 : Int32).toInt64))) + 1) * (((7919 * ((x1 : Int32).toInt64)) + (6151 * ((x5 : Int32).toInt64))) + 1)) - ((((7919 * ((x1 : Int32).toInt64)) + (6151 * ((x5 : Int32).toInt64))) + 1) * (((7919 * ((x1 : Int32).toInt64)) + (6151 * ((x5 : Int32).toInt64))) + 1)) / 65521 * 65521 : Int64).toInt32) / 8) - (((((((7919 * ((x1 : Int32).toInt64)) + (6151 * ((x5 : Int32).toInt64))) + 1) * (((7919 * ((x1 : Int32).toInt64)) + (6151 * ((x5 : Int32).toInt64))) + 1)) - ((((7919 * ((x1 : Int32).toInt64)) + (6151 * ((x5 : Int32).toInt64))) + 1) * (((7919 * ((x1 : Int32).toInt64)) + (6151 * ((x5 : Int32).toInt64))) + 1)) / 65521 * 65521 : Int64).toInt32) / 8) / (I 63 2) * (I 63 2))]) (h' := zH I P) rfl c3 ?_
      refine wp_blk (pc' := 99) (L' := [some (.ref 63), some (.int x1), some (.int x2), some (.int x3), some (.int x4), some (.int x5), some (.long (((7919 * ((x1 : Int32).toInt64)) + (6151 * ((x5 : Int32).toInt64))) + 1)), none, some (.int (((((((7919 * ((x1 : Int32).toInt64)) + (6151 * ((x5 : Int32).toInt64))) + 1) * (((7919 * ((x1 : Int32).toInt64)) + (6151 * ((x5 : Int32).toInt64))) + 1)) - ((((7919 * ((x1 : Int32).toInt64)) + (6151 * ((x5 : Int32).toInt64))) + 1) * (((7919 * ((x1 : Int32).toInt64)) + (6151 * ((x5 : Int32).toInt64))) + 1)) / 65521 * 65521 : Int64).toInt32) / 8)), some (.int ((((((((7919 * ((x1 : Int32).toInt64)) + (6151 * ((x5 : Int32).toInt64))) + 1) * (((7919 * ((x1 : Int32).toInt64)) + (6151 * ((x5 : Int32).toInt64))) + 1)) - ((((7919 * ((x1 : Int32).toInt64)) + (6151 * ((x5 : Int32).toInt64))) + 1) * (((7919 * ((x1 : Int32).toInt64)) + (6151 * ((x5 : Int32).toInt64))) + 1)) / 65521 * 65521 : Int64).toInt32) / 8) - (((((((7919 * ((x1 : Int32).toInt64)) + (6151 * ((x5 : Int32).toInt64))) + 1) * (((7919 * ((x1 : Int32).toInt64)) + (6151 * ((x5 : Int32).toInt64))) + 1)) - ((((7919 * ((x1 : Int32).toInt64)) + (6151 * ((x5 : Int32).toInt64))) + 1) * (((7919 * ((x1 : Int32).toInt64)) + (6151 * ((x5 : Int32).toInt64))) + 1)) / 65521 * 65521 : Int64).toInt32) / 8) / (I 63 2) * (I 63 2))), none]) (st' := [.int (I 63 2), .int ((((((((7919 * ((x1 : Int32).toInt64)) + (6151 * ((x5 : Int32).toInt64))) + 1) * (((7919 * ((x1 : Int32).toInt64)) + (6151 * ((x5 : Int32).toInt64))) + 1)) - ((((7919 * ((x1 : Int32).toInt64)) + (6151 * ((x5 : Int32).toInt64))) + 1) * (((7919 * ((x1 : Int32).toInt64)) + (6151 * ((x5 : Int32).toInt64))) + 1)) / 65521 * 65521 : Int64).toInt32) / 8) / 8)]) (h' := zH I P) 6 rfl ?_
      obtain ⟨c4, hx⟩ := znite hx
      refine wp_nchk (P := (I 63 2) = 0) (pc' := 100) (L' := [some (.ref 63), some (.int x1), some (.int x2), some (.int x3), some (.int x4), some (.int x5), some (.long (((7919 * ((x1 : Int32).toInt64)) + (6151 * ((x5 : Int32).toInt64))) + 1)), none, some (.int (((((((7919 * ((x1 : Int32).toInt64)) + (6151 * ((x5 : Int32).toInt64))) + 1) * (((7919 * ((x1 : Int32).toInt64)) + (6151 * ((x5 : Int32).toInt64))) + 1)) - ((((7919 * ((x1 : Int32).toInt64)) + (6151 * ((x5 : Int32).toInt64))) + 1) * (((7919 * ((x1 : Int32).toInt64)) + (6151 * ((x5 : Int32).toInt64))) + 1)) / 65521 * 65521 : Int64).toInt32) / 8)), some (.int ((((((((7919 * ((x1 : Int32).toInt64)) + (6151 * ((x5 : Int32).toInt64))) + 1) * (((7919 * ((x1 : Int32).toInt64)) + (6151 * ((x5 : Int32).toInt64))) + 1)) - ((((7919 * ((x1 : Int32).toInt64)) + (6151 * ((x5 : Int32).toInt64))) + 1) * (((7919 * ((x1 : Int32).toInt64)) + (6151 * ((x5 : Int32).toInt64))) + 1)) / 65521 * 65521 : Int64).toInt32) / 8) - (((((((7919 * ((x1 : Int32).toInt64)) + (6151 * ((x5 : Int32).toInt64))) + 1) * (((7919 * ((x1 : Int32).toInt64)) + (6151 * ((x5 : Int32).toInt64))) + 1)) - ((((7919 * ((x1 : Int32).toInt64)) + (6151 * ((x5 : Int32).toInt64))) + 1) * (((7919 * ((x1 : Int32).toInt64)) + (6151 * ((x5 : Int32).toInt64))) + 1)) / 65521 * 65521 : Int64).toInt32) / 8) / (I 63 2) * (I 63 2))), none]) (st' := [.int (((((((((7919 * ((x1 : Int32).toInt64)) + (6151 * ((x5 : Int32).toInt64))) + 1) * (((7919 * ((x1 : Int32).toInt64)) + (6151 * ((x5 : Int32).toInt64))) + 1)) - ((((7919 * ((x1 : Int32).toInt64)) + (6151 * ((x5 : Int32).toInt64))) + 1) * (((7919 * ((x1 : Int32).toInt64)) + (6151 * ((x5 : Int32).toInt64))) + 1)) / 65521 * 65521 : Int64).toInt32) / 8) / 8) - ((((((((7919 * ((x1 : Int32).toInt64)) + (6151 * ((x5 : Int32).toInt64))) + 1) * (((7919 * ((x1 : Int32).toInt64)) + (6151 * ((x5 : Int32).toInt64))) + 1)) - ((((7919 * ((x1 : Int32).toInt64)) + (6151 * ((x5 : Int32).toInt64))) + 1) * (((7919 * ((x1 : Int32).toInt64)) + (6151 * ((x5 : Int32).toInt64))) + 1)) / 65521 * 65521 : Int64).toInt32) / 8) / 8) / (I 63 2) * (I 63 2))]) (h' := zH I P) rfl c4 ?_
      refine wp_blk (pc' := 106) (L' := [some (.ref 63), some (.int x1), some (.int x2), some (.int x3), some (.int x4), some (.int x5), some (.long (((7919 * ((x1 : Int32).toInt64)) + (6151 * ((x5 : Int32).toInt64))) + 1)), none, some (.int (((((((7919 * ((x1 : Int32).toInt64)) + (6151 * ((x5 : Int32).toInt64))) + 1) * (((7919 * ((x1 : Int32).toInt64)) + (6151 * ((x5 : Int32).toInt64))) + 1)) - ((((7919 * ((x1 : Int32).toInt64)) + (6151 * ((x5 : Int32).toInt64))) + 1) * (((7919 * ((x1 : Int32).toInt64)) + (6151 * ((x5 : Int32).toInt64))) + 1)) / 65521 * 65521 : Int64).toInt32) / 8)), some (.int ((((((((7919 * ((x1 : Int32).toInt64)) + (6151 * ((x5 : Int32).toInt64))) + 1) * (((7919 * ((x1 : Int32).toInt64)) + (6151 * ((x5 : Int32).toInt64))) + 1)) - ((((7919 * ((x1 : Int32).toInt64)) + (6151 * ((x5 : Int32).toInt64))) + 1) * (((7919 * ((x1 : Int32).toInt64)) + (6151 * ((x5 : Int32).toInt64))) + 1)) / 65521 * 65521 : Int64).toInt32) / 8) - (((((((7919 * ((x1 : Int32).toInt64)) + (6151 * ((x5 : Int32).toInt64))) + 1) * (((7919 * ((x1 : Int32).toInt64)) + (6151 * ((x5 : Int32).toInt64))) + 1)) - ((((7919 * ((x1 : Int32).toInt64)) + (6151 * ((x5 : Int32).toInt64))) + 1) * (((7919 * ((x1 : Int32).toInt64)) + (6151 * ((x5 : Int32).toInt64))) + 1)) / 65521 * 65521 : Int64).toInt32) / 8) / (I 63 2) * (I 63 2))), some (.int (((((((((7919 * ((x1 : Int32).toInt64)) + (6151 * ((x5 : Int32).toInt64))) + 1) * (((7919 * ((x1 : Int32).toInt64)) + (6151 * ((x5 : Int32).toInt64))) + 1)) - ((((7919 * ((x1 : Int32).toInt64)) + (6151 * ((x5 : Int32).toInt64))) + 1) * (((7919 * ((x1 : Int32).toInt64)) + (6151 * ((x5 : Int32).toInt64))) + 1)) / 65521 * 65521 : Int64).toInt32) / 8) / 8) - ((((((((7919 * ((x1 : Int32).toInt64)) + (6151 * ((x5 : Int32).toInt64))) + 1) * (((7919 * ((x1 : Int32).toInt64)) + (6151 * ((x5 : Int32).toInt64))) + 1)) - ((((7919 * ((x1 : Int32).toInt64)) + (6151 * ((x5 : Int32).toInt64))) + 1) * (((7919 * ((x1 : Int32).toInt64)) + (6151 * ((x5 : Int32).toInt64))) + 1)) / 65521 * 65521 : Int64).toInt32) / 8) / 8) / (I 63 2) * (I 63 2)))]) (st' := [.int (((((((((7919 * ((x1 : Int32).toInt64)) + (6151 * ((x5 : Int32).toInt64))) + 1) * (((7919 * ((x1 : Int32).toInt64)) + (6151 * ((x5 : Int32).toInt64))) + 1)) - ((((7919 * ((x1 : Int32).toInt64)) + (6151 * ((x5 : Int32).toInt64))) + 1) * (((7919 * ((x1 : Int32).toInt64)) + (6151 * ((x5 : Int32).toInt64))) + 1)) / 65521 * 65521 : Int64).toInt32) / 8) / 8) - ((((((((7919 * ((x1 : Int32).toInt64)) + (6151 * ((x5 : Int32).toInt64))) + 1) * (((7919 * ((x1 : Int32).toInt64)) + (6151 * ((x5 : Int32).toInt64))) + 1)) - ((((7919 * ((x1 : Int32).toInt64)) + (6151 * ((x5 : Int32).toInt64))) + 1) * (((7919 * ((x1 : Int32).toInt64)) + (6151 * ((x5 : Int32).toInt64))) + 1)) / 65521 * 65521 : Int64).toInt32) / 8) / 8) / (I 63 2) * (I 63 2)), .int ((((((((7919 * ((x1 : Int32).toInt64)) + (6151 * ((x5 : Int32).toInt64))) + 1) * (((7919 * ((x1 : Int32).toInt64)) + (6151 * ((x5 : Int32).toInt64))) + 1)) - ((((7919 * ((x1 : Int32).toInt64)) + (6151 * ((x5 : Int32).toInt64))) + 1) * (((7919 * ((x1 : Int32).toInt64)) + (6151 * ((x5 : Int32).toInt64))) + 1)) / 65521 * 65521 : Int64).toInt32) / 8) - (((((((7919 * ((x1 : Int32).toInt64)) + (6151 * ((x5 : Int32).toInt64))) + 1) * (((7919 * ((x1 : Int32).toInt64)) + (6151 * ((x5 : Int32).toInt64))) + 1)) - ((((7919 * ((x1 : Int32).toInt64)) + (6151 * ((x5 : Int32).toInt64))) + 1) * (((7919 * ((x1 : Int32).toInt64)) + (6151 * ((x5 : Int32).toInt64))) + 1)) / 65521 * 65521 : Int64).toInt32) / 8) / (I 63 2) * (I 63 2))]) (h' := zH I P) 3 rfl ?_
      refine wp_eq (a := (((((((7919 * ((x1 : Int32).toInt64)) + (6151 * ((x5 : Int32).toInt64))) + 1) * (((7919 * ((x1 : Int32).toInt64)) + (6151 * ((x5 : Int32).toInt64))) + 1)) - ((((7919 * ((x1 : Int32).toInt64)) + (6151 * ((x5 : Int32).toInt64))) + 1) * (((7919 * ((x1 : Int32).toInt64)) + (6151 * ((x5 : Int32).toInt64))) + 1)) / 65521 * 65521 : Int64).toInt32) / 8) - (((((((7919 * ((x1 : Int32).toInt64)) + (6151 * ((x5 : Int32).toInt64))) + 1) * (((7919 * ((x1 : Int32).toInt64)) + (6151 * ((x5 : Int32).toInt64))) + 1)) - ((((7919 * ((x1 : Int32).toInt64)) + (6151 * ((x5 : Int32).toInt64))) + 1) * (((7919 * ((x1 : Int32).toInt64)) + (6151 * ((x5 : Int32).toInt64))) + 1)) / 65521 * 65521 : Int64).toInt32) / 8) / (I 63 2) * (I 63 2)) (b := ((((((((7919 * ((x1 : Int32).toInt64)) + (6151 * ((x5 : Int32).toInt64))) + 1) * (((7919 * ((x1 : Int32).toInt64)) + (6151 * ((x5 : Int32).toInt64))) + 1)) - ((((7919 * ((x1 : Int32).toInt64)) + (6151 * ((x5 : Int32).toInt64))) + 1) * (((7919 * ((x1 : Int32).toInt64)) + (6151 * ((x5 : Int32).toInt64))) + 1)) / 65521 * 65521 : Int64).toInt32) / 8) / 8) - ((((((((7919 * ((x1 : Int32).toInt64)) + (6151 * ((x5 : Int32).toInt64))) + 1) * (((7919 * ((x1 : Int32).toInt64)) + (6151 * ((x5 : Int32).toInt64))) + 1)) - ((((7919 * ((x1 : Int32).toInt64)) + (6151 * ((x5 : Int32).toInt64))) + 1) * (((7919 * ((x1 : Int32).toInt64)) + (6151 * ((x5 : Int32).toInt64))) + 1)) / 65521 * 65521 : Int64).toInt32) / 8) / 8) / (I 63 2) * (I 63 2)) (s1 := (117, [some (.ref 63), some (.int x1), some (.int x2), some (.int x3), some (.int x4), some (.int x5), some (.long (((7919 * ((x1 : Int32).toInt64)) + (6151 * ((x5 : Int32).toInt64))) + 1)), none, some (.int (((((((7919 * ((x1 : Int32).toInt64)) + (6151 * ((x5 : Int32).toInt64))) + 1) * (((7919 * ((x1 : Int32).toInt64)) + (6151 * ((x5 : Int32).toInt64))) + 1)) - ((((7919 * ((x1 : Int32).toInt64)) + (6151 * ((x5 : Int32).toInt64))) + 1) * (((7919 * ((x1 : Int32).toInt64)) + (6151 * ((x5 : Int32).toInt64))) + 1)) / 65521 * 65521 : Int64).toInt32) / 8)), some (.int ((((((((7919 * ((x1 : Int32).toInt64)) + (6151 * ((x5 : Int32).toInt64))) + 1) * (((7919 * ((x1 : Int32).toInt64)) + (6151 * ((x5 : Int32).toInt64))) + 1)) - ((((7919 * ((x1 : Int32).toInt64)) + (6151 * ((x5 : Int32).toInt64))) + 1) * (((7919 * ((x1 : Int32).toInt64)) + (6151 * ((x5 : Int32).toInt64))) + 1)) / 65521 * 65521 : Int64).toInt32) / 8) - (((((((7919 * ((x1 : Int32).toInt64)) + (6151 * ((x5 : Int32).toInt64))) + 1) * (((7919 * ((x1 : Int32).toInt64)) + (6151 * ((x5 : Int32).toInt64))) + 1)) - ((((7919 * ((x1 : Int32).toInt64)) + (6151 * ((x5 : Int32).toInt64))) + 1) * (((7919 * ((x1 : Int32).toInt64)) + (6151 * ((x5 : Int32).toInt64))) + 1)) / 65521 * 65521 : Int64).toInt32) / 8) / (I 63 2) * (I 63 2))), some (.int (((((((((7919 * ((x1 : Int32).toInt64)) + (6151 * ((x5 : Int32).toInt64))) + 1) * (((7919 * ((x1 : Int32).toInt64)) + (6151 * ((x5 : Int32).toInt64))) + 1)) - ((((7919 * ((x1 : Int32).toInt64)) + (6151 * ((x5 : Int32).toInt64))) + 1) * (((7919 * ((x1 : Int32).toInt64)) + (6151 * ((x5 : Int32).toInt64))) + 1)) / 65521 * 65521 : Int64).toInt32) / 8) / 8) - ((((((((7919 * ((x1 : Int32).toInt64)) + (6151 * ((x5 : Int32).toInt64))) + 1) * (((7919 * ((x1 : Int32).toInt64)) + (6151 * ((x5 : Int32).toInt64))) + 1)) - ((((7919 * ((x1 : Int32).toInt64)) + (6151 * ((x5 : Int32).toInt64))) + 1) * (((7919 * ((x1 : Int32).toInt64)) + (6151 * ((x5 : Int32).toInt64))) + 1)) / 65521 * 65521 : Int64).toInt32) / 8) / 8) / (I 63 2) * (I 63 2)))], [], zH I P)) (s2 := (109, [some (.ref 63), some (.int x1), some (.int x2), some (.int x3), some (.int x4), some (.int x5), some (.long (((7919 * ((x1 : Int32).toInt64)) + (6151 * ((x5 : Int32).toInt64))) + 1)), none, some (.int (((((((7919 * ((x1 : Int32).toInt64)) + (6151 * ((x5 : Int32).toInt64))) + 1) * (((7919 * ((x1 : Int32).toInt64)) + (6151 * ((x5 : Int32).toInt64))) + 1)) - ((((7919 * ((x1 : Int32).toInt64)) + (6151 * ((x5 : Int32).toInt64))) + 1) * (((7919 * ((x1 : Int32).toInt64)) + (6151 * ((x5 : Int32).toInt64))) + 1)) / 65521 * 65521 : Int64).toInt32) / 8)), some (.int ((((((((7919 * ((x1 : Int32).toInt64)) + (6151 * ((x5 : Int32).toInt64))) + 1) * (((7919 * ((x1 : Int32).toInt64)) + (6151 * ((x5 : Int32).toInt64))) + 1)) - ((((7919 * ((x1 : Int32).toInt64)) + (6151 * ((x5 : Int32).toInt64))) + 1) * (((7919 * ((x1 : Int32).toInt64)) + (6151 * ((x5 : Int32).toInt64))) + 1)) / 65521 * 65521 : Int64).toInt32) / 8) - (((((((7919 * ((x1 : Int32).toInt64)) + (6151 * ((x5 : Int32).toInt64))) + 1) * (((7919 * ((x1 : Int32).toInt64)) + (6151 * ((x5 : Int32).toInt64))) + 1)) - ((((7919 * ((x1 : Int32).toInt64)) + (6151 * ((x5 : Int32).toInt64))) + 1) * (((7919 * ((x1 : Int32).toInt64)) + (6151 * ((x5 : Int32).toInt64))) + 1)) / 65521 * 65521 : Int64).toInt32) / 8) / (I 63 2) * (I 63 2))), some (.int (((((((((7919 * ((x1 : Int32).toInt64)) + (6151 * ((x5 : Int32).toInt64))) + 1) * (((7919 * ((x1 : Int32).toInt64)) + (6151 * ((x5 : Int32).toInt64))) + 1)) - ((((7919 * ((x1 : Int32).toInt64)) + (6151 * ((x5 : Int32).toInt64))) + 1) * (((7919 * ((x1 : Int32).toInt64)) + (6151 * ((x5 : Int32).toInt64))) + 1)) / 65521 * 65521 : Int64).toInt32) / 8) / 8) - ((((((((7919 * ((x1 : Int32).toInt64)) + (6151 * ((x5 : Int32).toInt64))) + 1) * (((7919 * ((x1 : Int32).toInt64)) + (6151 * ((x5 : Int32).toInt64))) + 1)) - ((((7919 * ((x1 : Int32).toInt64)) + (6151 * ((x5 : Int32).toInt64))) + 1) * (((7919 * ((x1 : Int32).toInt64)) + (6151 * ((x5 : Int32).toInt64))) + 1)) / 65521 * 65521 : Int64).toInt32) / 8) / 8) / (I 63 2) * (I 63 2)))], [], zH I P)) rfl (fun c5 => ?_) (fun c5 => ?_)
      · rw [if_pos c5] at hx
        refine wp_blk (pc' := 118) (L' := [some (.ref 63), some (.int x1), some (.int x2), some (.int x3), some (.int x4), some (.int x5), some (.long (((7919 * ((x1 : Int32).toInt64)) + (6151 * ((x5 : Int32).toInt64))) + 1)), none, some (.int (((((((7919 * ((x1 : Int32).toInt64)) + (6151 * ((x5 : Int32).toInt64))) + 1) * (((7919 * ((x1 : Int32).toInt64)) + (6151 * ((x5 : Int32).toInt64))) + 1)) - ((((7919 * ((x1 : Int32).toInt64)) + (6151 * ((x5 : Int32).toInt64))) + 1) * (((7919 * ((x1 : Int32).toInt64)) + (6151 * ((x5 : Int32).toInt64))) + 1)) / 65521 * 65521 : Int64).toInt32) / 8)), some (.int ((((((((7919 * ((x1 : Int32).toInt64)) + (6151 * ((x5 : Int32).toInt64))) + 1) * (((7919 * ((x1 : Int32).toInt64)) + (6151 * ((x5 : Int32).toInt64))) + 1)) - ((((7919 * ((x1 : Int32).toInt64)) + (6151 * ((x5 : Int32).toInt64))) + 1) * (((7919 * ((x1 : Int32).toInt64)) + (6151 * ((x5 : Int32).toInt64))) + 1)) / 65521 * 65521 : Int64).toInt32) / 8) - (((((((7919 * ((x1 : Int32).toInt64)) + (6151 * ((x5 : Int32).toInt64))) + 1) * (((7919 * ((x1 : Int32).toInt64)) + (6151 * ((x5 : Int32).toInt64))) + 1)) - ((((7919 * ((x1 : Int32).toInt64)) + (6151 * ((x5 : Int32).toInt64))) + 1) * (((7919 * ((x1 : Int32).toInt64)) + (6151 * ((x5 : Int32).toInt64))) + 1)) / 65521 * 65521 : Int64).toInt32) / 8) / (I 63 2) * (I 63 2))), some (.int (((((((((7919 * ((x1 : Int32).toInt64)) + (6151 * ((x5 : Int32).toInt64))) + 1) * (((7919 * ((x1 : Int32).toInt64)) + (6151 * ((x5 : Int32).toInt64))) + 1)) - ((((7919 * ((x1 : Int32).toInt64)) + (6151 * ((x5 : Int32).toInt64))) + 1) * (((7919 * ((x1 : Int32).toInt64)) + (6151 * ((x5 : Int32).toInt64))) + 1)) / 65521 * 65521 : Int64).toInt32) / 8) / 8) - ((((((((7919 * ((x1 : Int32).toInt64)) + (6151 * ((x5 : Int32).toInt64))) + 1) * (((7919 * ((x1 : Int32).toInt64)) + (6151 * ((x5 : Int32).toInt64))) + 1)) - ((((7919 * ((x1 : Int32).toInt64)) + (6151 * ((x5 : Int32).toInt64))) + 1) * (((7919 * ((x1 : Int32).toInt64)) + (6151 * ((x5 : Int32).toInt64))) + 1)) / 65521 * 65521 : Int64).toInt32) / 8) / 8) / (I 63 2) * (I 63 2)))]) (st' := [.ref 63]) (h' := zH I P) 1 rfl ?_
        obtain ⟨y3, hy3, hx⟩ := zbind hx
        refine wp_callf (d := 150) (as := [.ref 63]) (rest := []) (Ld := [some (.ref 63)]) (pc' := 121) (st' := []) (r := none) (h1 := zH y3.2 P) rfl rfl rfl rfl rfl rfl rfl rfl rfl (xp_D_passes _ _  _ hy3) ?_
        refine wp_blk (pc' := 124) (L' := [some (.ref 63), some (.int x1), some (.int x2), some (.int x3), some (.int x4), some (.int x5), some (.long (((7919 * ((x1 : Int32).toInt64)) + (6151 * ((x5 : Int32).toInt64))) + 1)), none, some (.int (((((((7919 * ((x1 : Int32).toInt64)) + (6151 * ((x5 : Int32).toInt64))) + 1) * (((7919 * ((x1 : Int32).toInt64)) + (6151 * ((x5 : Int32).toInt64))) + 1)) - ((((7919 * ((x1 : Int32).toInt64)) + (6151 * ((x5 : Int32).toInt64))) + 1) * (((7919 * ((x1 : Int32).toInt64)) + (6151 * ((x5 : Int32).toInt64))) + 1)) / 65521 * 65521 : Int64).toInt32) / 8)), some (.int ((((((((7919 * ((x1 : Int32).toInt64)) + (6151 * ((x5 : Int32).toInt64))) + 1) * (((7919 * ((x1 : Int32).toInt64)) + (6151 * ((x5 : Int32).toInt64))) + 1)) - ((((7919 * ((x1 : Int32).toInt64)) + (6151 * ((x5 : Int32).toInt64))) + 1) * (((7919 * ((x1 : Int32).toInt64)) + (6151 * ((x5 : Int32).toInt64))) + 1)) / 65521 * 65521 : Int64).toInt32) / 8) - (((((((7919 * ((x1 : Int32).toInt64)) + (6151 * ((x5 : Int32).toInt64))) + 1) * (((7919 * ((x1 : Int32).toInt64)) + (6151 * ((x5 : Int32).toInt64))) + 1)) - ((((7919 * ((x1 : Int32).toInt64)) + (6151 * ((x5 : Int32).toInt64))) + 1) * (((7919 * ((x1 : Int32).toInt64)) + (6151 * ((x5 : Int32).toInt64))) + 1)) / 65521 * 65521 : Int64).toInt32) / 8) / (I 63 2) * (I 63 2))), some (.int (((((((((7919 * ((x1 : Int32).toInt64)) + (6151 * ((x5 : Int32).toInt64))) + 1) * (((7919 * ((x1 : Int32).toInt64)) + (6151 * ((x5 : Int32).toInt64))) + 1)) - ((((7919 * ((x1 : Int32).toInt64)) + (6151 * ((x5 : Int32).toInt64))) + 1) * (((7919 * ((x1 : Int32).toInt64)) + (6151 * ((x5 : Int32).toInt64))) + 1)) / 65521 * 65521 : Int64).toInt32) / 8) / 8) - ((((((((7919 * ((x1 : Int32).toInt64)) + (6151 * ((x5 : Int32).toInt64))) + 1) * (((7919 * ((x1 : Int32).toInt64)) + (6151 * ((x5 : Int32).toInt64))) + 1)) - ((((7919 * ((x1 : Int32).toInt64)) + (6151 * ((x5 : Int32).toInt64))) + 1) * (((7919 * ((x1 : Int32).toInt64)) + (6151 * ((x5 : Int32).toInt64))) + 1)) / 65521 * 65521 : Int64).toInt32) / 8) / 8) / (I 63 2) * (I 63 2)))]) (st' := [.ref 63, .int x4]) (h' := zH y3.2 P) 2 rfl ?_
        obtain ⟨y4, hy4, hx⟩ := zbind hx
        refine wp_callf (d := 160) (as := [.ref 63]) (rest := [.int x4]) (Ld := [some (.ref 63), none, none]) (pc' := 127) (st' := [.int y4.1, .int x4]) (r := some (.int y4.1)) (h1 := zH y4.2 P) rfl rfl rfl rfl rfl rfl rfl rfl rfl (xp_D_bran _ _  _ hy4) ?_
        obtain ⟨y5, hy5, hx⟩ := zbind hx
        refine wp_callf (d := 157) (as := [.int y4.1]) (rest := [.int x4]) (Ld := [some (.int y4.1), none, none]) (pc' := 130) (st' := [.int y5.1, .int x4]) (r := some (.int y5.1)) (h1 := zH y5.2 P) rfl rfl rfl rfl rfl rfl rfl rfl rfl (xp_D_ones _ _ _ _ hy5) ?_
        refine wp_blk (pc' := 42) (L' := [some (.ref 63), some (.int x1), some (.int x2), some (.int x3), some (.int (x4 + y5.1)), some (.int (x5 + 1)), some (.long (((7919 * ((x1 : Int32).toInt64)) + (6151 * ((x5 : Int32).toInt64))) + 1)), none, some (.int (((((((7919 * ((x1 : Int32).toInt64)) + (6151 * ((x5 : Int32).toInt64))) + 1) * (((7919 * ((x1 : Int32).toInt64)) + (6151 * ((x5 : Int32).toInt64))) + 1)) - ((((7919 * ((x1 : Int32).toInt64)) + (6151 * ((x5 : Int32).toInt64))) + 1) * (((7919 * ((x1 : Int32).toInt64)) + (6151 * ((x5 : Int32).toInt64))) + 1)) / 65521 * 65521 : Int64).toInt32) / 8)), some (.int ((((((((7919 * ((x1 : Int32).toInt64)) + (6151 * ((x5 : Int32).toInt64))) + 1) * (((7919 * ((x1 : Int32).toInt64)) + (6151 * ((x5 : Int32).toInt64))) + 1)) - ((((7919 * ((x1 : Int32).toInt64)) + (6151 * ((x5 : Int32).toInt64))) + 1) * (((7919 * ((x1 : Int32).toInt64)) + (6151 * ((x5 : Int32).toInt64))) + 1)) / 65521 * 65521 : Int64).toInt32) / 8) - (((((((7919 * ((x1 : Int32).toInt64)) + (6151 * ((x5 : Int32).toInt64))) + 1) * (((7919 * ((x1 : Int32).toInt64)) + (6151 * ((x5 : Int32).toInt64))) + 1)) - ((((7919 * ((x1 : Int32).toInt64)) + (6151 * ((x5 : Int32).toInt64))) + 1) * (((7919 * ((x1 : Int32).toInt64)) + (6151 * ((x5 : Int32).toInt64))) + 1)) / 65521 * 65521 : Int64).toInt32) / 8) / (I 63 2) * (I 63 2))), some (.int (((((((((7919 * ((x1 : Int32).toInt64)) + (6151 * ((x5 : Int32).toInt64))) + 1) * (((7919 * ((x1 : Int32).toInt64)) + (6151 * ((x5 : Int32).toInt64))) + 1)) - ((((7919 * ((x1 : Int32).toInt64)) + (6151 * ((x5 : Int32).toInt64))) + 1) * (((7919 * ((x1 : Int32).toInt64)) + (6151 * ((x5 : Int32).toInt64))) + 1)) / 65521 * 65521 : Int64).toInt32) / 8) / 8) - ((((((((7919 * ((x1 : Int32).toInt64)) + (6151 * ((x5 : Int32).toInt64))) + 1) * (((7919 * ((x1 : Int32).toInt64)) + (6151 * ((x5 : Int32).toInt64))) + 1)) - ((((7919 * ((x1 : Int32).toInt64)) + (6151 * ((x5 : Int32).toInt64))) + 1) * (((7919 * ((x1 : Int32).toInt64)) + (6151 * ((x5 : Int32).toInt64))) + 1)) / 65521 * 65521 : Int64).toInt32) / 8) / 8) / (I 63 2) * (I 63 2)))]) (st' := []) (h' := zH y5.2 P) 4 rfl ?_
        exact wp_forget (ih _ _ _ _ _ _ _ hx) (zle_c (zle_c (zle_c (zle_c (zle_c (zle_c (zle_n (zle_n (zle_n (zle_n (zle_n zle_nil)))))))))))
      · rw [if_neg c5] at hx
        refine wp_blk (pc' := 114) (L' := [some (.ref 63), some (.int x1), some (.int x2), some (.int x3), some (.int x4), some (.int x5), some (.long (((7919 * ((x1 : Int32).toInt64)) + (6151 * ((x5 : Int32).toInt64))) + 1)), none, some (.int (((((((7919 * ((x1 : Int32).toInt64)) + (6151 * ((x5 : Int32).toInt64))) + 1) * (((7919 * ((x1 : Int32).toInt64)) + (6151 * ((x5 : Int32).toInt64))) + 1)) - ((((7919 * ((x1 : Int32).toInt64)) + (6151 * ((x5 : Int32).toInt64))) + 1) * (((7919 * ((x1 : Int32).toInt64)) + (6151 * ((x5 : Int32).toInt64))) + 1)) / 65521 * 65521 : Int64).toInt32) / 8)), some (.int ((((((((7919 * ((x1 : Int32).toInt64)) + (6151 * ((x5 : Int32).toInt64))) + 1) * (((7919 * ((x1 : Int32).toInt64)) + (6151 * ((x5 : Int32).toInt64))) + 1)) - ((((7919 * ((x1 : Int32).toInt64)) + (6151 * ((x5 : Int32).toInt64))) + 1) * (((7919 * ((x1 : Int32).toInt64)) + (6151 * ((x5 : Int32).toInt64))) + 1)) / 65521 * 65521 : Int64).toInt32) / 8) - (((((((7919 * ((x1 : Int32).toInt64)) + (6151 * ((x5 : Int32).toInt64))) + 1) * (((7919 * ((x1 : Int32).toInt64)) + (6151 * ((x5 : Int32).toInt64))) + 1)) - ((((7919 * ((x1 : Int32).toInt64)) + (6151 * ((x5 : Int32).toInt64))) + 1) * (((7919 * ((x1 : Int32).toInt64)) + (6151 * ((x5 : Int32).toInt64))) + 1)) / 65521 * 65521 : Int64).toInt32) / 8) / (I 63 2) * (I 63 2))), some (.int (((((((((7919 * ((x1 : Int32).toInt64)) + (6151 * ((x5 : Int32).toInt64))) + 1) * (((7919 * ((x1 : Int32).toInt64)) + (6151 * ((x5 : Int32).toInt64))) + 1)) - ((((7919 * ((x1 : Int32).toInt64)) + (6151 * ((x5 : Int32).toInt64))) + 1) * (((7919 * ((x1 : Int32).toInt64)) + (6151 * ((x5 : Int32).toInt64))) + 1)) / 65521 * 65521 : Int64).toInt32) / 8) / 8) - ((((((((7919 * ((x1 : Int32).toInt64)) + (6151 * ((x5 : Int32).toInt64))) + 1) * (((7919 * ((x1 : Int32).toInt64)) + (6151 * ((x5 : Int32).toInt64))) + 1)) - ((((7919 * ((x1 : Int32).toInt64)) + (6151 * ((x5 : Int32).toInt64))) + 1) * (((7919 * ((x1 : Int32).toInt64)) + (6151 * ((x5 : Int32).toInt64))) + 1)) / 65521 * 65521 : Int64).toInt32) / 8) / 8) / (I 63 2) * (I 63 2)))]) (st' := [.int (((((((((7919 * ((x1 : Int32).toInt64)) + (6151 * ((x5 : Int32).toInt64))) + 1) * (((7919 * ((x1 : Int32).toInt64)) + (6151 * ((x5 : Int32).toInt64))) + 1)) - ((((7919 * ((x1 : Int32).toInt64)) + (6151 * ((x5 : Int32).toInt64))) + 1) * (((7919 * ((x1 : Int32).toInt64)) + (6151 * ((x5 : Int32).toInt64))) + 1)) / 65521 * 65521 : Int64).toInt32) / 8) / 8) - ((((((((7919 * ((x1 : Int32).toInt64)) + (6151 * ((x5 : Int32).toInt64))) + 1) * (((7919 * ((x1 : Int32).toInt64)) + (6151 * ((x5 : Int32).toInt64))) + 1)) - ((((7919 * ((x1 : Int32).toInt64)) + (6151 * ((x5 : Int32).toInt64))) + 1) * (((7919 * ((x1 : Int32).toInt64)) + (6151 * ((x5 : Int32).toInt64))) + 1)) / 65521 * 65521 : Int64).toInt32) / 8) / 8) / (I 63 2) * (I 63 2)), .int ((((((((7919 * ((x1 : Int32).toInt64)) + (6151 * ((x5 : Int32).toInt64))) + 1) * (((7919 * ((x1 : Int32).toInt64)) + (6151 * ((x5 : Int32).toInt64))) + 1)) - ((((7919 * ((x1 : Int32).toInt64)) + (6151 * ((x5 : Int32).toInt64))) + 1) * (((7919 * ((x1 : Int32).toInt64)) + (6151 * ((x5 : Int32).toInt64))) + 1)) / 65521 * 65521 : Int64).toInt32) / 8) - (((((((7919 * ((x1 : Int32).toInt64)) + (6151 * ((x5 : Int32).toInt64))) + 1) * (((7919 * ((x1 : Int32).toInt64)) + (6151 * ((x5 : Int32).toInt64))) + 1)) - ((((7919 * ((x1 : Int32).toInt64)) + (6151 * ((x5 : Int32).toInt64))) + 1) * (((7919 * ((x1 : Int32).toInt64)) + (6151 * ((x5 : Int32).toInt64))) + 1)) / 65521 * 65521 : Int64).toInt32) / 8) / (I 63 2) * (I 63 2)), .ref 63]) (h' := zH I P) 3 rfl ?_
        obtain ⟨y6, hy6, hx⟩ := zbind hx
        refine wp_callf (d := 146) (as := [.ref 63, .int ((((((((7919 * ((x1 : Int32).toInt64)) + (6151 * ((x5 : Int32).toInt64))) + 1) * (((7919 * ((x1 : Int32).toInt64)) + (6151 * ((x5 : Int32).toInt64))) + 1)) - ((((7919 * ((x1 : Int32).toInt64)) + (6151 * ((x5 : Int32).toInt64))) + 1) * (((7919 * ((x1 : Int32).toInt64)) + (6151 * ((x5 : Int32).toInt64))) + 1)) / 65521 * 65521 : Int64).toInt32) / 8) - (((((((7919 * ((x1 : Int32).toInt64)) + (6151 * ((x5 : Int32).toInt64))) + 1) * (((7919 * ((x1 : Int32).toInt64)) + (6151 * ((x5 : Int32).toInt64))) + 1)) - ((((7919 * ((x1 : Int32).toInt64)) + (6151 * ((x5 : Int32).toInt64))) + 1) * (((7919 * ((x1 : Int32).toInt64)) + (6151 * ((x5 : Int32).toInt64))) + 1)) / 65521 * 65521 : Int64).toInt32) / 8) / (I 63 2) * (I 63 2)), .int (((((((((7919 * ((x1 : Int32).toInt64)) + (6151 * ((x5 : Int32).toInt64))) + 1) * (((7919 * ((x1 : Int32).toInt64)) + (6151 * ((x5 : Int32).toInt64))) + 1)) - ((((7919 * ((x1 : Int32).toInt64)) + (6151 * ((x5 : Int32).toInt64))) + 1) * (((7919 * ((x1 : Int32).toInt64)) + (6151 * ((x5 : Int32).toInt64))) + 1)) / 65521 * 65521 : Int64).toInt32) / 8) / 8) - ((((((((7919 * ((x1 : Int32).toInt64)) + (6151 * ((x5 : Int32).toInt64))) + 1) * (((7919 * ((x1 : Int32).toInt64)) + (6151 * ((x5 : Int32).toInt64))) + 1)) - ((((7919 * ((x1 : Int32).toInt64)) + (6151 * ((x5 : Int32).toInt64))) + 1) * (((7919 * ((x1 : Int32).toInt64)) + (6151 * ((x5 : Int32).toInt64))) + 1)) / 65521 * 65521 : Int64).toInt32) / 8) / 8) / (I 63 2) * (I 63 2))]) (rest := []) (Ld := [some (.ref 63), some (.int ((((((((7919 * ((x1 : Int32).toInt64)) + (6151 * ((x5 : Int32).toInt64))) + 1) * (((7919 * ((x1 : Int32).toInt64)) + (6151 * ((x5 : Int32).toInt64))) + 1)) - ((((7919 * ((x1 : Int32).toInt64)) + (6151 * ((x5 : Int32).toInt64))) + 1) * (((7919 * ((x1 : Int32).toInt64)) + (6151 * ((x5 : Int32).toInt64))) + 1)) / 65521 * 65521 : Int64).toInt32) / 8) - (((((((7919 * ((x1 : Int32).toInt64)) + (6151 * ((x5 : Int32).toInt64))) + 1) * (((7919 * ((x1 : Int32).toInt64)) + (6151 * ((x5 : Int32).toInt64))) + 1)) - ((((7919 * ((x1 : Int32).toInt64)) + (6151 * ((x5 : Int32).toInt64))) + 1) * (((7919 * ((x1 : Int32).toInt64)) + (6151 * ((x5 : Int32).toInt64))) + 1)) / 65521 * 65521 : Int64).toInt32) / 8) / (I 63 2) * (I 63 2))), some (.int (((((((((7919 * ((x1 : Int32).toInt64)) + (6151 * ((x5 : Int32).toInt64))) + 1) * (((7919 * ((x1 : Int32).toInt64)) + (6151 * ((x5 : Int32).toInt64))) + 1)) - ((((7919 * ((x1 : Int32).toInt64)) + (6151 * ((x5 : Int32).toInt64))) + 1) * (((7919 * ((x1 : Int32).toInt64)) + (6151 * ((x5 : Int32).toInt64))) + 1)) / 65521 * 65521 : Int64).toInt32) / 8) / 8) - ((((((((7919 * ((x1 : Int32).toInt64)) + (6151 * ((x5 : Int32).toInt64))) + 1) * (((7919 * ((x1 : Int32).toInt64)) + (6151 * ((x5 : Int32).toInt64))) + 1)) - ((((7919 * ((x1 : Int32).toInt64)) + (6151 * ((x5 : Int32).toInt64))) + 1) * (((7919 * ((x1 : Int32).toInt64)) + (6151 * ((x5 : Int32).toInt64))) + 1)) / 65521 * 65521 : Int64).toInt32) / 8) / 8) / (I 63 2) * (I 63 2))), none, none]) (pc' := 117) (st' := []) (r := none) (h1 := zH y6.2 P) rfl rfl rfl rfl rfl rfl rfl rfl rfl (xp_D_swaps _ _ _ _ _ hy6) ?_
        refine wp_blk (pc' := 118) (L' := [some (.ref 63), some (.int x1), some (.int x2), some (.int x3), some (.int x4), some (.int x5), some (.long (((7919 * ((x1 : Int32).toInt64)) + (6151 * ((x5 : Int32).toInt64))) + 1)), none, some (.int (((((((7919 * ((x1 : Int32).toInt64)) + (6151 * ((x5 : Int32).toInt64))) + 1) * (((7919 * ((x1 : Int32).toInt64)) + (6151 * ((x5 : Int32).toInt64))) + 1)) - ((((7919 * ((x1 : Int32).toInt64)) + (6151 * ((x5 : Int32).toInt64))) + 1) * (((7919 * ((x1 : Int32).toInt64)) + (6151 * ((x5 : Int32).toInt64))) + 1)) / 65521 * 65521 : Int64).toInt32) / 8)), some (.int ((((((((7919 * ((x1 : Int32).toInt64)) + (6151 * ((x5 : Int32).toInt64))) + 1) * (((7919 * ((x1 : Int32).toInt64)) + (6151 * ((x5 : Int32).toInt64))) + 1)) - ((((7919 * ((x1 : Int32).toInt64)) + (6151 * ((x5 : Int32).toInt64))) + 1) * (((7919 * ((x1 : Int32).toInt64)) + (6151 * ((x5 : Int32).toInt64))) + 1)) / 65521 * 65521 : Int64).toInt32) / 8) - (((((((7919 * ((x1 : Int32).toInt64)) + (6151 * ((x5 : Int32).toInt64))) + 1) * (((7919 * ((x1 : Int32).toInt64)) + (6151 * ((x5 : Int32).toInt64))) + 1)) - ((((7919 * ((x1 : Int32).toInt64)) + (6151 * ((x5 : Int32).toInt64))) + 1) * (((7919 * ((x1 : Int32).toInt64)) + (6151 * ((x5 : Int32).toInt64))) + 1)) / 65521 * 65521 : Int64).toInt32) / 8) / (I 63 2) * (I 63 2))), some (.int (((((((((7919 * ((x1 : Int32).toInt64)) + (6151 * ((x5 : Int32).toInt64))) + 1) * (((7919 * ((x1 : Int32).toInt64)) + (6151 * ((x5 : Int32).toInt64))) + 1)) - ((((7919 * ((x1 : Int32).toInt64)) + (6151 * ((x5 : Int32).toInt64))) + 1) * (((7919 * ((x1 : Int32).toInt64)) + (6151 * ((x5 : Int32).toInt64))) + 1)) / 65521 * 65521 : Int64).toInt32) / 8) / 8) - ((((((((7919 * ((x1 : Int32).toInt64)) + (6151 * ((x5 : Int32).toInt64))) + 1) * (((7919 * ((x1 : Int32).toInt64)) + (6151 * ((x5 : Int32).toInt64))) + 1)) - ((((7919 * ((x1 : Int32).toInt64)) + (6151 * ((x5 : Int32).toInt64))) + 1) * (((7919 * ((x1 : Int32).toInt64)) + (6151 * ((x5 : Int32).toInt64))) + 1)) / 65521 * 65521 : Int64).toInt32) / 8) / 8) / (I 63 2) * (I 63 2)))]) (st' := [.ref 63]) (h' := zH y6.2 P) 1 rfl ?_
        obtain ⟨y7, hy7, hx⟩ := zbind hx
        refine wp_callf (d := 150) (as := [.ref 63]) (rest := []) (Ld := [some (.ref 63)]) (pc' := 121) (st' := []) (r := none) (h1 := zH y7.2 P) rfl rfl rfl rfl rfl rfl rfl rfl rfl (xp_D_passes _ _  _ hy7) ?_
        refine wp_blk (pc' := 124) (L' := [some (.ref 63), some (.int x1), some (.int x2), some (.int x3), some (.int x4), some (.int x5), some (.long (((7919 * ((x1 : Int32).toInt64)) + (6151 * ((x5 : Int32).toInt64))) + 1)), none, some (.int (((((((7919 * ((x1 : Int32).toInt64)) + (6151 * ((x5 : Int32).toInt64))) + 1) * (((7919 * ((x1 : Int32).toInt64)) + (6151 * ((x5 : Int32).toInt64))) + 1)) - ((((7919 * ((x1 : Int32).toInt64)) + (6151 * ((x5 : Int32).toInt64))) + 1) * (((7919 * ((x1 : Int32).toInt64)) + (6151 * ((x5 : Int32).toInt64))) + 1)) / 65521 * 65521 : Int64).toInt32) / 8)), some (.int ((((((((7919 * ((x1 : Int32).toInt64)) + (6151 * ((x5 : Int32).toInt64))) + 1) * (((7919 * ((x1 : Int32).toInt64)) + (6151 * ((x5 : Int32).toInt64))) + 1)) - ((((7919 * ((x1 : Int32).toInt64)) + (6151 * ((x5 : Int32).toInt64))) + 1) * (((7919 * ((x1 : Int32).toInt64)) + (6151 * ((x5 : Int32).toInt64))) + 1)) / 65521 * 65521 : Int64).toInt32) / 8) - (((((((7919 * ((x1 : Int32).toInt64)) + (6151 * ((x5 : Int32).toInt64))) + 1) * (((7919 * ((x1 : Int32).toInt64)) + (6151 * ((x5 : Int32).toInt64))) + 1)) - ((((7919 * ((x1 : Int32).toInt64)) + (6151 * ((x5 : Int32).toInt64))) + 1) * (((7919 * ((x1 : Int32).toInt64)) + (6151 * ((x5 : Int32).toInt64))) + 1)) / 65521 * 65521 : Int64).toInt32) / 8) / (I 63 2) * (I 63 2))), some (.int (((((((((7919 * ((x1 : Int32).toInt64)) + (6151 * ((x5 : Int32).toInt64))) + 1) * (((7919 * ((x1 : Int32).toInt64)) + (6151 * ((x5 : Int32).toInt64))) + 1)) - ((((7919 * ((x1 : Int32).toInt64)) + (6151 * ((x5 : Int32).toInt64))) + 1) * (((7919 * ((x1 : Int32).toInt64)) + (6151 * ((x5 : Int32).toInt64))) + 1)) / 65521 * 65521 : Int64).toInt32) / 8) / 8) - ((((((((7919 * ((x1 : Int32).toInt64)) + (6151 * ((x5 : Int32).toInt64))) + 1) * (((7919 * ((x1 : Int32).toInt64)) + (6151 * ((x5 : Int32).toInt64))) + 1)) - ((((7919 * ((x1 : Int32).toInt64)) + (6151 * ((x5 : Int32).toInt64))) + 1) * (((7919 * ((x1 : Int32).toInt64)) + (6151 * ((x5 : Int32).toInt64))) + 1)) / 65521 * 65521 : Int64).toInt32) / 8) / 8) / (I 63 2) * (I 63 2)))]) (st' := [.ref 63, .int x4]) (h' := zH y7.2 P) 2 rfl ?_
        obtain ⟨y8, hy8, hx⟩ := zbind hx
        refine wp_callf (d := 160) (as := [.ref 63]) (rest := [.int x4]) (Ld := [some (.ref 63), none, none]) (pc' := 127) (st' := [.int y8.1, .int x4]) (r := some (.int y8.1)) (h1 := zH y8.2 P) rfl rfl rfl rfl rfl rfl rfl rfl rfl (xp_D_bran _ _  _ hy8) ?_
        obtain ⟨y9, hy9, hx⟩ := zbind hx
        refine wp_callf (d := 157) (as := [.int y8.1]) (rest := [.int x4]) (Ld := [some (.int y8.1), none, none]) (pc' := 130) (st' := [.int y9.1, .int x4]) (r := some (.int y9.1)) (h1 := zH y9.2 P) rfl rfl rfl rfl rfl rfl rfl rfl rfl (xp_D_ones _ _ _ _ hy9) ?_
        refine wp_blk (pc' := 42) (L' := [some (.ref 63), some (.int x1), some (.int x2), some (.int x3), some (.int (x4 + y9.1)), some (.int (x5 + 1)), some (.long (((7919 * ((x1 : Int32).toInt64)) + (6151 * ((x5 : Int32).toInt64))) + 1)), none, some (.int (((((((7919 * ((x1 : Int32).toInt64)) + (6151 * ((x5 : Int32).toInt64))) + 1) * (((7919 * ((x1 : Int32).toInt64)) + (6151 * ((x5 : Int32).toInt64))) + 1)) - ((((7919 * ((x1 : Int32).toInt64)) + (6151 * ((x5 : Int32).toInt64))) + 1) * (((7919 * ((x1 : Int32).toInt64)) + (6151 * ((x5 : Int32).toInt64))) + 1)) / 65521 * 65521 : Int64).toInt32) / 8)), some (.int ((((((((7919 * ((x1 : Int32).toInt64)) + (6151 * ((x5 : Int32).toInt64))) + 1) * (((7919 * ((x1 : Int32).toInt64)) + (6151 * ((x5 : Int32).toInt64))) + 1)) - ((((7919 * ((x1 : Int32).toInt64)) + (6151 * ((x5 : Int32).toInt64))) + 1) * (((7919 * ((x1 : Int32).toInt64)) + (6151 * ((x5 : Int32).toInt64))) + 1)) / 65521 * 65521 : Int64).toInt32) / 8) - (((((((7919 * ((x1 : Int32).toInt64)) + (6151 * ((x5 : Int32).toInt64))) + 1) * (((7919 * ((x1 : Int32).toInt64)) + (6151 * ((x5 : Int32).toInt64))) + 1)) - ((((7919 * ((x1 : Int32).toInt64)) + (6151 * ((x5 : Int32).toInt64))) + 1) * (((7919 * ((x1 : Int32).toInt64)) + (6151 * ((x5 : Int32).toInt64))) + 1)) / 65521 * 65521 : Int64).toInt32) / 8) / (I 63 2) * (I 63 2))), some (.int (((((((((7919 * ((x1 : Int32).toInt64)) + (6151 * ((x5 : Int32).toInt64))) + 1) * (((7919 * ((x1 : Int32).toInt64)) + (6151 * ((x5 : Int32).toInt64))) + 1)) - ((((7919 * ((x1 : Int32).toInt64)) + (6151 * ((x5 : Int32).toInt64))) + 1) * (((7919 * ((x1 : Int32).toInt64)) + (6151 * ((x5 : Int32).toInt64))) + 1)) / 65521 * 65521 : Int64).toInt32) / 8) / 8) - ((((((((7919 * ((x1 : Int32).toInt64)) + (6151 * ((x5 : Int32).toInt64))) + 1) * (((7919 * ((x1 : Int32).toInt64)) + (6151 * ((x5 : Int32).toInt64))) + 1)) - ((((7919 * ((x1 : Int32).toInt64)) + (6151 * ((x5 : Int32).toInt64))) + 1) * (((7919 * ((x1 : Int32).toInt64)) + (6151 * ((x5 : Int32).toInt64))) + 1)) / 65521 * 65521 : Int64).toInt32) / 8) / 8) / (I 63 2) * (I 63 2)))]) (st' := []) (h' := zH y9.2 P) 4 rfl ?_
        exact wp_forget (ih _ _ _ _ _ _ _ hx) (zle_c (zle_c (zle_c (zle_c (zle_c (zle_c (zle_n (zle_n (zle_n (zle_n (zle_n zle_nil)))))))))))
set_option maxRecDepth 100000 in
theorem xp_D_year {X : Nat × (Nat → Int32)} (I : Nat → Nat → Int32) (P : Nat → Nat → Option Nat) (z n w : Int32) (r : Int32 × (Nat → Nat → Int32)) (hx : x_D_year I z n w = some r) : Wf X 170 [some (.ref 63), some (.int z), some (.int n), some (.int w), none, none, none, none, none, none, none] (zH I P) (some (.int r.1)) (zH r.2 P) := by
  unfold Wf
  unfold x_D_year at hx
  refine wp_blk (pc' := 5) (L' := [some (.ref 63), some (.int z), some (.int n), some (.int w), none, none, none, none, none, none, none]) (st' := [.int 9999, .int 0, .int z]) (h' := zH I P) 3 rfl ?_
  refine wp_callf (d := 123) (as := [.int z, .int 0, .int 9999]) (rest := []) (Ld := [some (.int z), some (.int 0), some (.int 9999)]) (pc' := 8) (st' := [.int (f_D_in I z 0 9999)]) (r := some (.int (f_D_in I z 0 9999))) (h1 := zH I P) rfl rfl rfl rfl rfl rfl rfl rfl rfl (sp_D_in I P z 0 9999) ?_
  refine wp_eq (a := f_D_in I z 0 9999) (b := 0) (s1 := (30, [some (.ref 63), some (.int z), some (.int n), some (.int w), none, none, none, none, none, none, none], [], zH I P)) (s2 := (11, [some (.ref 63), some (.int z), some (.int n), some (.int w), none, none, none, none, none, none, none], [], zH I P)) rfl (fun c1 => ?_) (fun c1 => ?_)
  · rw [if_pos c1] at hx
    refine wp_blk (pc' := 31) (L' := [some (.ref 63), some (.int z), some (.int n), some (.int w), none, none, none, none, none, none, none]) (st' := [.int (-1)]) (h' := zH I P) 1 rfl ?_
    cases hx
    exact wp_end rfl rfl ⟨rfl, rfl⟩
  · rw [if_neg c1] at hx
    refine wp_blk (pc' := 15) (L' := [some (.ref 63), some (.int z), some (.int n), some (.int w), none, none, none, none, none, none, none]) (st' := [.int 60, .int 1, .int n]) (h' := zH I P) 3 rfl ?_
    refine wp_callf (d := 123) (as := [.int n, .int 1, .int 60]) (rest := []) (Ld := [some (.int n), some (.int 1), some (.int 60)]) (pc' := 18) (st' := [.int (f_D_in I n 1 60)]) (r := some (.int (f_D_in I n 1 60))) (h1 := zH I P) rfl rfl rfl rfl rfl rfl rfl rfl rfl (sp_D_in I P n 1 60) ?_
    refine wp_eq (a := f_D_in I n 1 60) (b := 0) (s1 := (30, [some (.ref 63), some (.int z), some (.int n), some (.int w), none, none, none, none, none, none, none], [], zH I P)) (s2 := (21, [some (.ref 63), some (.int z), some (.int n), some (.int w), none, none, none, none, none, none, none], [], zH I P)) rfl (fun c2 => ?_) (fun c2 => ?_)
    · rw [if_pos c2] at hx
      refine wp_blk (pc' := 31) (L' := [some (.ref 63), some (.int z), some (.int n), some (.int w), none, none, none, none, none, none, none]) (st' := [.int (-1)]) (h' := zH I P) 1 rfl ?_
      cases hx
      exact wp_end rfl rfl ⟨rfl, rfl⟩
    · rw [if_neg c2] at hx
      refine wp_blk (pc' := 24) (L' := [some (.ref 63), some (.int z), some (.int n), some (.int w), none, none, none, none, none, none, none]) (st' := [.int 1, .int 0, .int w]) (h' := zH I P) 3 rfl ?_
      refine wp_callf (d := 123) (as := [.int w, .int 0, .int 1]) (rest := []) (Ld := [some (.int w), some (.int 0), some (.int 1)]) (pc' := 27) (st' := [.int (f_D_in I w 0 1)]) (r := some (.int (f_D_in I w 0 1))) (h1 := zH I P) rfl rfl rfl rfl rfl rfl rfl rfl rfl (sp_D_in I P w 0 1) ?_
      refine wp_ne (a := f_D_in I w 0 1) (b := 0) (s1 := (32, [some (.ref 63), some (.int z), some (.int n), some (.int w), none, none, none, none, none, none, none], [], zH I P)) (s2 := (30, [some (.ref 63), some (.int z), some (.int n), some (.int w), none, none, none, none, none, none, none], [], zH I P)) rfl (fun c3 => ?_) (fun c3 => ?_)
      · rw [if_neg c3] at hx
        refine wp_blk (pc' := 33) (L' := [some (.ref 63), some (.int z), some (.int n), some (.int w), none, none, none, none, none, none, none]) (st' := [.ref 63]) (h' := zH I P) 1 rfl ?_
        obtain ⟨y1, hy1, hx⟩ := zbind hx
        refine wp_callf (d := 153) (as := [.ref 63]) (rest := []) (Ld := [some (.ref 63), none]) (pc' := 36) (st' := []) (r := none) (h1 := zH y1.2 P) rfl rfl rfl rfl rfl rfl rfl rfl rfl (xp_D_holds _ _  _ hy1) ?_
        refine wp_blk (pc' := 42) (L' := [some (.ref 63), some (.int z), some (.int n), some (.int w), some (.int 0), some (.int 0), none, none, none, none, none]) (st' := []) (h' := zH y1.2 P) 4 rfl ?_
        exact lp_D_year_42 P _ _ _ _ _ _ _ _ hx
      · rw [if_pos c3] at hx
        refine wp_blk (pc' := 31) (L' := [some (.ref 63), some (.int z), some (.int n), some (.int w), none, none, none, none, none, none, none]) (st' := [.int (-1)]) (h' := zH I P) 1 rfl ?_
        cases hx
        exact wp_end rfl rfl ⟨rfl, rfl⟩
def l_D_keep_13 : Nat → (Nat → Nat → Int32) → Int32 → Option (Int32 × (Nat → Nat → Int32))
  | 0, _, _ => none
  | n + 1, I, x1 => if 45 ≤ x1 then (some ((I 63 11) + 1, (zui I 63 11 ((I 63 11) + 1)))) else (if zinb x1 45 = true then (if zinb ((45 * (I 63 11)) + x1) 90 = true then (l_D_keep_13 n (zui I 70 (((45 * (I 63 11)) + x1).toNatClampNeg) (I 68 x1.toNatClampNeg)) (x1 + 1)) else none) else none)
def x_D_keep (I : Nat → Nat → Int32) : Option (Int32 × (Nat → Nat → Int32)) := if I 63 11 = 2 then (some (-3, I)) else (l_D_keep_13 1000 I 0)
set_option maxRecDepth 100000 in
theorem lp_D_keep_13 {X : Nat × (Nat → Int32)} (P : Nat → Nat → Option Nat) : ∀ (n : Nat) (I : Nat → Nat → Int32) (x1 : Int32) (r : Int32 × (Nat → Nat → Int32)), l_D_keep_13 n I x1 = some r → Wp X 171 13 [some (.ref 63), some (.int x1)] [] (zH I P) (fun r2 h2 => r2 = some (.int r.1) ∧ h2 = zH r.2 P) := by
  intro n
  induction n with
  | zero => intro I x1 r hx; cases hx
  | succ n ih =>
    intro I x1 r hx
    rw [l_D_keep_13] at hx
    refine wp_blk (pc' := 16) (L' := [some (.ref 63), some (.int x1)]) (st' := [.int 45, .int x1]) (h' := zH I P) 2 rfl ?_
    refine wp_ge (a := x1) (b := 45) (s1 := (45, [some (.ref 63), some (.int x1)], [], zH I P)) (s2 := (19, [some (.ref 63), some (.int x1)], [], zH I P)) rfl (fun c1 => ?_) (fun c1 => ?_)
    · rw [if_pos c1] at hx
      refine wp_blk (pc' := 59) (L' := [some (.ref 63), some (.int x1)]) (st' := [.int ((I 63 11) + 1)]) (h' := zH (zui I 63 11 ((I 63 11) + 1)) P) 8 rfl ?_
      cases hx
      exact wp_end rfl rfl ⟨rfl, rfl⟩
    · rw [if_neg c1] at hx
      refine wp_blk (pc' := 37) (L' := [some (.ref 63), some (.int x1)]) (st' := [.int x1, .ref 68, .int ((45 * (I 63 11)) + x1), .ref 70]) (h' := zH I P) 11 rfl ?_
      obtain ⟨c2, hx⟩ := zite hx
      refine wp_chk (P := zinb x1 45 = true) (pc' := 38) (L' := [some (.ref 63), some (.int x1)]) (st' := [.int (I 68 x1.toNatClampNeg), .int ((45 * (I 63 11)) + x1), .ref 70]) (h' := zH I P) rfl c2 ?_
      obtain ⟨c3, hx⟩ := zite hx
      refine wp_chk (P := zinb ((45 * (I 63 11)) + x1) 90 = true) (pc' := 39) (L' := [some (.ref 63), some (.int x1)]) (st' := []) (h' := zH (zui I 70 (((45 * (I 63 11)) + x1).toNatClampNeg) (I 68 x1.toNatClampNeg)) P) rfl c3 ?_
      refine wp_blk (pc' := 13) (L' := [some (.ref 63), some (.int (x1 + 1))]) (st' := []) (h' := zH (zui I 70 (((45 * (I 63 11)) + x1).toNatClampNeg) (I 68 x1.toNatClampNeg)) P) 2 rfl ?_
      exact ih _ _ _ hx
set_option maxRecDepth 100000 in
theorem xp_D_keep {X : Nat × (Nat → Int32)} (I : Nat → Nat → Int32) (P : Nat → Nat → Option Nat) (r : Int32 × (Nat → Nat → Int32)) (hx : x_D_keep I = some r) : Wf X 171 [some (.ref 63), none] (zH I P) (some (.int r.1)) (zH r.2 P) := by
  unfold Wf
  unfold x_D_keep at hx
  refine wp_blk (pc' := 5) (L' := [some (.ref 63), none]) (st' := [.int 2, .int (I 63 11)]) (h' := zH I P) 3 rfl ?_
  refine wp_ne (a := I 63 11) (b := 2) (s1 := (11, [some (.ref 63), none], [], zH I P)) (s2 := (8, [some (.ref 63), none], [], zH I P)) rfl (fun c1 => ?_) (fun c1 => ?_)
  · rw [if_neg c1] at hx
    refine wp_blk (pc' := 13) (L' := [some (.ref 63), some (.int 0)]) (st' := []) (h' := zH I P) 2 rfl ?_
    exact lp_D_keep_13 P _ _ _ _ hx
  · rw [if_pos c1] at hx
    refine wp_blk (pc' := 10) (L' := [some (.ref 63), none]) (st' := [.int (-3)]) (h' := zH I P) 1 rfl ?_
    cases hx
    exact wp_end rfl rfl ⟨rfl, rfl⟩
def l_D_back_22 : Nat → (Nat → Nat → Int32) → Int32 → Option (Int32 × (Nat → Nat → Int32))
  | 0, _, _ => none
  | n + 1, I, x1 => if 45 ≤ x1 then (some (I 63 11, (zui I 63 9 0))) else (if zinb ((45 * (I 63 11)) + x1) 90 = true then (if zinb x1 45 = true then (l_D_back_22 n (zui I 68 x1.toNatClampNeg (I 70 (((45 * (I 63 11)) + x1).toNatClampNeg))) (x1 + 1)) else none) else none)
def x_D_back (I : Nat → Nat → Int32) : Option (Int32 × (Nat → Nat → Int32)) := if I 63 11 = 0 then (some (-2, I)) else (l_D_back_22 1000 (zui I 63 11 ((I 63 11) - 1)) 0)
set_option maxRecDepth 100000 in
theorem lp_D_back_22 {X : Nat × (Nat → Int32)} (P : Nat → Nat → Option Nat) : ∀ (n : Nat) (I : Nat → Nat → Int32) (x1 : Int32) (r : Int32 × (Nat → Nat → Int32)), l_D_back_22 n I x1 = some r → Wp X 172 22 [some (.ref 63), some (.int x1)] [] (zH I P) (fun r2 h2 => r2 = some (.int r.1) ∧ h2 = zH r.2 P) := by
  intro n
  induction n with
  | zero => intro I x1 r hx; cases hx
  | succ n ih =>
    intro I x1 r hx
    rw [l_D_back_22] at hx
    refine wp_blk (pc' := 25) (L' := [some (.ref 63), some (.int x1)]) (st' := [.int 45, .int x1]) (h' := zH I P) 2 rfl ?_
    refine wp_ge (a := x1) (b := 45) (s1 := (54, [some (.ref 63), some (.int x1)], [], zH I P)) (s2 := (28, [some (.ref 63), some (.int x1)], [], zH I P)) rfl (fun c1 => ?_) (fun c1 => ?_)
    · rw [if_pos c1] at hx
      refine wp_blk (pc' := 63) (L' := [some (.ref 63), some (.int x1)]) (st' := [.int (I 63 11)]) (h' := zH (zui I 63 9 0) P) 5 rfl ?_
      cases hx
      exact wp_end rfl rfl ⟨rfl, rfl⟩
    · rw [if_neg c1] at hx
      refine wp_blk (pc' := 46) (L' := [some (.ref 63), some (.int x1)]) (st' := [.int ((45 * (I 63 11)) + x1), .ref 70, .int x1, .ref 68]) (h' := zH I P) 11 rfl ?_
      obtain ⟨c2, hx⟩ := zite hx
      refine wp_chk (P := zinb ((45 * (I 63 11)) + x1) 90 = true) (pc' := 47) (L' := [some (.ref 63), some (.int x1)]) (st' := [.int (I 70 (((45 * (I 63 11)) + x1).toNatClampNeg)), .int x1, .ref 68]) (h' := zH I P) rfl c2 ?_
      obtain ⟨c3, hx⟩ := zite hx
      refine wp_chk (P := zinb x1 45 = true) (pc' := 48) (L' := [some (.ref 63), some (.int x1)]) (st' := []) (h' := zH (zui I 68 x1.toNatClampNeg (I 70 (((45 * (I 63 11)) + x1).toNatClampNeg))) P) rfl c3 ?_
      refine wp_blk (pc' := 22) (L' := [some (.ref 63), some (.int (x1 + 1))]) (st' := []) (h' := zH (zui I 68 x1.toNatClampNeg (I 70 (((45 * (I 63 11)) + x1).toNatClampNeg))) P) 2 rfl ?_
      exact ih _ _ _ hx
set_option maxRecDepth 100000 in
theorem xp_D_back {X : Nat × (Nat → Int32)} (I : Nat → Nat → Int32) (P : Nat → Nat → Option Nat) (r : Int32 × (Nat → Nat → Int32)) (hx : x_D_back I = some r) : Wf X 172 [some (.ref 63), none] (zH I P) (some (.int r.1)) (zH r.2 P) := by
  unfold Wf
  unfold x_D_back at hx
  refine wp_blk (pc' := 4) (L' := [some (.ref 63), none]) (st' := [.int (I 63 11)]) (h' := zH I P) 2 rfl ?_
  refine wp_ne (a := I 63 11) (b := 0) (s1 := (10, [some (.ref 63), none], [], zH I P)) (s2 := (7, [some (.ref 63), none], [], zH I P)) rfl (fun c1 => ?_) (fun c1 => ?_)
  · rw [if_neg c1] at hx
    refine wp_blk (pc' := 22) (L' := [some (.ref 63), some (.int 0)]) (st' := []) (h' := zH (zui I 63 11 ((I 63 11) - 1)) P) 8 rfl ?_
    exact lp_D_back_22 P _ _ _ _ hx
  · rw [if_pos c1] at hx
    refine wp_blk (pc' := 9) (L' := [some (.ref 63), none]) (st' := [.int (-2)]) (h' := zH I P) 1 rfl ?_
    cases hx
    exact wp_end rfl rfl ⟨rfl, rfl⟩
def x_D_count (I : Nat → Nat → Int32) (w : Int32) : Option (Int32 × (Nat → Nat → Int32)) := if w = 0 then (some (I 63 2, I)) else (if w = 1 then ((x_D_ones I (f_D_there I)).bind (fun q1 => some ((I 63 2) - q1.1, q1.2))) else (if w = 2 then (some (I 68 43, I)) else (if w = 3 then (some (I 68 44, I)) else (if w = 4 then ((x_D_today I).bind (fun q2 => (x_D_bran q2.2).bind (fun q3 => (x_D_ones q3.2 q3.1).bind (fun q4 => some (q4.1, q4.2))))) else (if w = 5 then (some (I 63 13, I)) else (if w = 6 then (some (I 63 9, I)) else (if w = 7 then (some (I 63 11, I)) else (if w = 8 then (some (I 63 1, I)) else (some (-1, I))))))))))
set_option maxRecDepth 100000 in
theorem xp_D_count {X : Nat × (Nat → Int32)} (I : Nat → Nat → Int32) (P : Nat → Nat → Option Nat) (w : Int32) (r : Int32 × (Nat → Nat → Int32)) (hx : x_D_count I w = some r) : Wf X 173 [some (.ref 63), some (.int w)] (zH I P) (some (.int r.1)) (zH r.2 P) := by
  unfold Wf
  unfold x_D_count at hx
  refine wp_blk (pc' := 1) (L' := [some (.ref 63), some (.int w)]) (st' := [.int w]) (h' := zH I P) 1 rfl ?_
  by_cases c1 : w = 0
  · rw [if_pos c1] at hx
    refine wp_swk (pc' := 52) (L' := [some (.ref 63), some (.int w)]) (st' := []) (h' := zH I P) c1 rfl ?_
    refine wp_blk (pc' := 56) (L' := [some (.ref 63), some (.int w)]) (st' := [.int (I 63 2)]) (h' := zH I P) 2 rfl ?_
    cases hx
    exact wp_end rfl rfl ⟨rfl, rfl⟩
  rw [if_neg c1] at hx
  by_cases c2 : w = 1
  · rw [if_pos c2] at hx
    refine wp_swk (pc' := 57) (L' := [some (.ref 63), some (.int w)]) (st' := []) (h' := zH I P) c2 rfl ?_
    refine wp_blk (pc' := 62) (L' := [some (.ref 63), some (.int w)]) (st' := [.ref 63, .int (I 63 2)]) (h' := zH I P) 3 rfl ?_
    refine wp_callf (d := 156) (as := [.ref 63]) (rest := [.int (I 63 2)]) (Ld := [some (.ref 63)]) (pc' := 65) (st' := [.int (f_D_there I), .int (I 63 2)]) (r := some (.int (f_D_there I))) (h1 := zH I P) rfl rfl rfl rfl rfl rfl rfl rfl rfl (sp_D_there I P) ?_
    obtain ⟨y1, hy1, hx⟩ := zbind hx
    refine wp_callf (d := 157) (as := [.int (f_D_there I)]) (rest := [.int (I 63 2)]) (Ld := [some (.int (f_D_there I)), none, none]) (pc' := 68) (st' := [.int y1.1, .int (I 63 2)]) (r := some (.int y1.1)) (h1 := zH y1.2 P) rfl rfl rfl rfl rfl rfl rfl rfl rfl (xp_D_ones _ _ _ _ hy1) ?_
    refine wp_blk (pc' := 69) (L' := [some (.ref 63), some (.int w)]) (st' := [.int ((I 63 2) - y1.1)]) (h' := zH y1.2 P) 1 rfl ?_
    cases hx
    exact wp_end rfl rfl ⟨rfl, rfl⟩
  rw [if_neg c2] at hx
  by_cases c3 : w = 2
  · rw [if_pos c3] at hx
    refine wp_swk (pc' := 70) (L' := [some (.ref 63), some (.int w)]) (st' := []) (h' := zH I P) c3 rfl ?_
    refine wp_blk (pc' := 77) (L' := [some (.ref 63), some (.int w)]) (st' := [.int (I 68 43)]) (h' := zH I P) 4 rfl ?_
    cases hx
    exact wp_end rfl rfl ⟨rfl, rfl⟩
  rw [if_neg c3] at hx
  by_cases c4 : w = 3
  · rw [if_pos c4] at hx
    refine wp_swk (pc' := 78) (L' := [some (.ref 63), some (.int w)]) (st' := []) (h' := zH I P) c4 rfl ?_
    refine wp_blk (pc' := 85) (L' := [some (.ref 63), some (.int w)]) (st' := [.int (I 68 44)]) (h' := zH I P) 4 rfl ?_
    cases hx
    exact wp_end rfl rfl ⟨rfl, rfl⟩
  rw [if_neg c4] at hx
  by_cases c5 : w = 4
  · rw [if_pos c5] at hx
    refine wp_swk (pc' := 86) (L' := [some (.ref 63), some (.int w)]) (st' := []) (h' := zH I P) c5 rfl ?_
    refine wp_blk (pc' := 87) (L' := [some (.ref 63), some (.int w)]) (st' := [.ref 63]) (h' := zH I P) 1 rfl ?_
    obtain ⟨y2, hy2, hx⟩ := zbind hx
    refine wp_callf (d := 139) (as := [.ref 63]) (rest := []) (Ld := [some (.ref 63)]) (pc' := 90) (st' := []) (r := none) (h1 := zH y2.2 P) rfl rfl rfl rfl rfl rfl rfl rfl rfl (xp_D_today _ _  _ hy2) ?_
    refine wp_blk (pc' := 91) (L' := [some (.ref 63), some (.int w)]) (st' := [.ref 63]) (h' := zH y2.2 P) 1 rfl ?_
    obtain ⟨y3, hy3, hx⟩ := zbind hx
    refine wp_callf (d := 160) (as := [.ref 63]) (rest := []) (Ld := [some (.ref 63), none, none]) (pc' := 94) (st' := [.int y3.1]) (r := some (.int y3.1)) (h1 := zH y3.2 P) rfl rfl rfl rfl rfl rfl rfl rfl rfl (xp_D_bran _ _  _ hy3) ?_
    obtain ⟨y4, hy4, hx⟩ := zbind hx
    refine wp_callf (d := 157) (as := [.int y3.1]) (rest := []) (Ld := [some (.int y3.1), none, none]) (pc' := 97) (st' := [.int y4.1]) (r := some (.int y4.1)) (h1 := zH y4.2 P) rfl rfl rfl rfl rfl rfl rfl rfl rfl (xp_D_ones _ _ _ _ hy4) ?_
    cases hx
    exact wp_end rfl rfl ⟨rfl, rfl⟩
  rw [if_neg c5] at hx
  by_cases c6 : w = 5
  · rw [if_pos c6] at hx
    refine wp_swk (pc' := 98) (L' := [some (.ref 63), some (.int w)]) (st' := []) (h' := zH I P) c6 rfl ?_
    refine wp_blk (pc' := 102) (L' := [some (.ref 63), some (.int w)]) (st' := [.int (I 63 13)]) (h' := zH I P) 2 rfl ?_
    cases hx
    exact wp_end rfl rfl ⟨rfl, rfl⟩
  rw [if_neg c6] at hx
  by_cases c7 : w = 6
  · rw [if_pos c7] at hx
    refine wp_swk (pc' := 103) (L' := [some (.ref 63), some (.int w)]) (st' := []) (h' := zH I P) c7 rfl ?_
    refine wp_blk (pc' := 107) (L' := [some (.ref 63), some (.int w)]) (st' := [.int (I 63 9)]) (h' := zH I P) 2 rfl ?_
    cases hx
    exact wp_end rfl rfl ⟨rfl, rfl⟩
  rw [if_neg c7] at hx
  by_cases c8 : w = 7
  · rw [if_pos c8] at hx
    refine wp_swk (pc' := 108) (L' := [some (.ref 63), some (.int w)]) (st' := []) (h' := zH I P) c8 rfl ?_
    refine wp_blk (pc' := 112) (L' := [some (.ref 63), some (.int w)]) (st' := [.int (I 63 11)]) (h' := zH I P) 2 rfl ?_
    cases hx
    exact wp_end rfl rfl ⟨rfl, rfl⟩
  rw [if_neg c8] at hx
  by_cases c9 : w = 8
  · rw [if_pos c9] at hx
    refine wp_swk (pc' := 113) (L' := [some (.ref 63), some (.int w)]) (st' := []) (h' := zH I P) c9 rfl ?_
    refine wp_blk (pc' := 117) (L' := [some (.ref 63), some (.int w)]) (st' := [.int (I 63 1)]) (h' := zH I P) 2 rfl ?_
    cases hx
    exact wp_end rfl rfl ⟨rfl, rfl⟩
  rw [if_neg c9] at hx
  refine wp_tabD rfl rfl rfl (pc2 := 118) (by decide) (by decide) (by have h0 : ¬ (w).toInt = 0 := lv_neT c1 rfl; have h1 : ¬ (w).toInt = 1 := lv_neT c2 rfl; have h2 : ¬ (w).toInt = 2 := lv_neT c3 rfl; have h3 : ¬ (w).toInt = 3 := lv_neT c4 rfl; have h4 : ¬ (w).toInt = 4 := lv_neT c5 rfl; have h5 : ¬ (w).toInt = 5 := lv_neT c6 rfl; have h6 : ¬ (w).toInt = 6 := lv_neT c7 rfl; have h7 : ¬ (w).toInt = 7 := lv_neT c8 rfl; have h8 : ¬ (w).toInt = 8 := lv_neT c9 rfl; omega) ?_
  refine wp_blk (pc' := 119) (L' := [some (.ref 63), some (.int w)]) (st' := [.int (-1)]) (h' := zH I P) 1 rfl ?_
  cases hx
  exact wp_end rfl rfl ⟨rfl, rfl⟩
