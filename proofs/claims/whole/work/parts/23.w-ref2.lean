/-! THE REFERENCE: the line, the changes (printed) -/
def l_D_stands_7 : Nat → (Nat → Nat → Int32) → Int32 → Int32 → Option (Int32 × (Nat → Nat → Int32))
  | 0, _, _, _ => none
  | n + 1, I, x1, x2 => if I 63 2 ≤ x2 then (some (0, I)) else (if zinb x2 45 = true then (if (x1 >>> ((I 68 x2.toNatClampNeg) &&& 31)) &&& 1 = 0 then (if zinb x2 45 = true then (if zinb (I 63 16) 6 = true then (l_D_stands_7 n (zui (zui I 72 ((I 63 16).toNatClampNeg) (I 68 x2.toNatClampNeg)) 63 16 ((I 63 16) + 1)) x1 (x2 + 1)) else none) else none) else (l_D_stands_7 n I x1 (x2 + 1))) else none)
def x_D_stands (I : Nat → Nat → Int32) (a : Int32) : Option (Int32 × (Nat → Nat → Int32)) := l_D_stands_7 1000 (zui I 63 16 0) a 0
set_option maxRecDepth 100000 in
theorem lp_D_stands_7 {X : Nat × (Nat → Int32)} (P : Nat → Nat → Option Nat) : ∀ (n : Nat) (I : Nat → Nat → Int32) (x1 : Int32) (x2 : Int32) (r : Int32 × (Nat → Nat → Int32)), l_D_stands_7 n I x1 x2 = some r → Wp X 140 7 [some (.ref 63), some (.int x1), some (.int x2)] [] (zH I P) (fun r2 h2 => r2 = none ∧ h2 = zH r.2 P) := by
  intro n
  induction n with
  | zero => intro I x1 x2 r hx; cases hx
  | succ n ih =>
    intro I x1 x2 r hx
    rw [l_D_stands_7] at hx
    refine wp_blk (pc' := 12) (L' := [some (.ref 63), some (.int x1), some (.int x2)]) (st' := [.int (I 63 2), .int x2]) (h' := zH I P) 3 rfl ?_
    refine wp_ge (a := x2) (b := I 63 2) (s1 := (59, [some (.ref 63), some (.int x1), some (.int x2)], [], zH I P)) (s2 := (15, [some (.ref 63), some (.int x1), some (.int x2)], [], zH I P)) rfl (fun c1 => ?_) (fun c1 => ?_)
    · rw [if_pos c1] at hx
      cases hx
      exact wp_end rfl rfl ⟨rfl, rfl⟩
    · rw [if_neg c1] at hx
      refine wp_blk (pc' := 21) (L' := [some (.ref 63), some (.int x1), some (.int x2)]) (st' := [.int x2, .ref 68, .int x1]) (h' := zH I P) 4 rfl ?_
      obtain ⟨c2, hx⟩ := zite hx
      refine wp_chk (P := zinb x2 45 = true) (pc' := 22) (L' := [some (.ref 63), some (.int x1), some (.int x2)]) (st' := [.int (I 68 x2.toNatClampNeg), .int x1]) (h' := zH I P) rfl c2 ?_
      refine wp_blk (pc' := 25) (L' := [some (.ref 63), some (.int x1), some (.int x2)]) (st' := [.int ((x1 >>> ((I 68 x2.toNatClampNeg) &&& 31)) &&& 1)]) (h' := zH I P) 3 rfl ?_
      refine wp_ne (a := (x1 >>> ((I 68 x2.toNatClampNeg) &&& 31)) &&& 1) (b := 0) (s1 := (53, [some (.ref 63), some (.int x1), some (.int x2)], [], zH I P)) (s2 := (28, [some (.ref 63), some (.int x1), some (.int x2)], [], zH I P)) rfl (fun c3 => ?_) (fun c3 => ?_)
      · rw [if_neg c3] at hx
        refine wp_blk (pc' := 7) (L' := [some (.ref 63), some (.int x1), some (.int (x2 + 1))]) (st' := []) (h' := zH I P) 2 rfl ?_
        exact ih _ _ _ _ hx
      · rw [if_pos c3] at hx
        refine wp_blk (pc' := 41) (L' := [some (.ref 63), some (.int x1), some (.int x2)]) (st' := [.int x2, .ref 68, .int (I 63 16), .ref 72]) (h' := zH I P) 7 rfl ?_
        obtain ⟨c4, hx⟩ := zite hx
        refine wp_chk (P := zinb x2 45 = true) (pc' := 42) (L' := [some (.ref 63), some (.int x1), some (.int x2)]) (st' := [.int (I 68 x2.toNatClampNeg), .int (I 63 16), .ref 72]) (h' := zH I P) rfl c4 ?_
        obtain ⟨c5, hx⟩ := zite hx
        refine wp_chk (P := zinb (I 63 16) 6 = true) (pc' := 43) (L' := [some (.ref 63), some (.int x1), some (.int x2)]) (st' := []) (h' := zH (zui I 72 ((I 63 16).toNatClampNeg) (I 68 x2.toNatClampNeg)) P) rfl c5 ?_
        refine wp_blk (pc' := 7) (L' := [some (.ref 63), some (.int x1), some (.int (x2 + 1))]) (st' := []) (h' := zH (zui (zui I 72 ((I 63 16).toNatClampNeg) (I 68 x2.toNatClampNeg)) 63 16 ((I 63 16) + 1)) P) 8 rfl ?_
        exact ih _ _ _ _ hx
set_option maxRecDepth 100000 in
theorem xp_D_stands {X : Nat × (Nat → Int32)} (I : Nat → Nat → Int32) (P : Nat → Nat → Option Nat) (a : Int32) (r : Int32 × (Nat → Nat → Int32)) (hx : x_D_stands I a = some r) : Wf X 140 [some (.ref 63), some (.int a), none] (zH I P) (none) (zH r.2 P) := by
  unfold Wf
  unfold x_D_stands at hx
  refine wp_blk (pc' := 7) (L' := [some (.ref 63), some (.int a), some (.int 0)]) (st' := []) (h' := zH (zui I 63 16 0) P) 5 rfl ?_
  exact lp_D_stands_7 P _ _ _ _ _ hx
def l_D_counts : Nat → Nat → (Nat → Nat → Int32) → Int32 → Int32 → Int32 → Int32 → Int32 → Int32 → Int32 → Int32 → Option (Int32 × (Nat → Nat → Int32))
  | 0, _, _, _, _, _, _, _, _, _, _ => none
  | n + 1, hd, I, x1, x2, x3, x4, x5, x6, x7, x8 => if hd = 0 then (if I 63 16 ≤ x4 then (some (x3, I)) else (if x1 + 3 < x4 then (some (x3, I)) else (if zinb x4 6 = true then (if zinb ((6 + (6 * (I 72 x4.toNatClampNeg))) + x2) 45 = true then (if zinb (I 72 x4.toNatClampNeg) 6 = true then (if I 65 ((I 72 x4.toNatClampNeg).toNatClampNeg) = 3 then (l_D_counts n 1 I x1 x2 x3 x4 (I 72 x4.toNatClampNeg) (I 68 (((6 + (6 * (I 72 x4.toNatClampNeg))) + x2).toNatClampNeg)) 0 (x1 + 1)) else (l_D_counts n 1 I x1 x2 x3 x4 (I 72 x4.toNatClampNeg) (I 68 (((6 + (6 * (I 72 x4.toNatClampNeg))) + x2).toNatClampNeg)) 1 (x1 + 1))) else none) else none) else none))) else (if hd = 1 then (if x4 ≤ x8 then (if zinb x5 6 = true then (if I 65 x5.toNatClampNeg = 1 then (if x7 = 0 then (if zinb x2 6 = true then (if x7 = 0 then (if zinb x2 6 = true then (l_D_counts n 0 (zui I 74 x2.toNatClampNeg ((I 74 x2.toNatClampNeg) ||| 0)) x1 x2 (x3 + 0) (x4 + 1) 0 0 0 0) else none) else (if zinb x2 6 = true then (l_D_counts n 0 (zui I 74 x2.toNatClampNeg ((I 74 x2.toNatClampNeg) ||| (1 <<< (x5 &&& 31)))) x1 x2 (x3 + 0) (x4 + 1) 0 0 0 0) else none)) else none) else (if zinb x2 6 = true then (if x7 = 0 then (if zinb x2 6 = true then (l_D_counts n 0 (zui I 74 x2.toNatClampNeg ((I 74 x2.toNatClampNeg) ||| 0)) x1 x2 (x3 + (2 * (x6 - 3))) (x4 + 1) 0 0 0 0) else none) else (if zinb x2 6 = true then (l_D_counts n 0 (zui I 74 x2.toNatClampNeg ((I 74 x2.toNatClampNeg) ||| (1 <<< (x5 &&& 31)))) x1 x2 (x3 + (2 * (x6 - 3))) (x4 + 1) 0 0 0 0) else none)) else none)) else (if zinb x5 6 = true then (if I 65 x5.toNatClampNeg = 4 then (if x7 = 0 then (if zinb x2 6 = true then (if x7 = 0 then (if zinb x2 6 = true then (l_D_counts n 0 (zui I 74 x2.toNatClampNeg ((I 74 x2.toNatClampNeg) ||| 0)) x1 x2 (x3 + 0) (x4 + 1) 0 0 0 0) else none) else (if zinb x2 6 = true then (l_D_counts n 0 (zui I 74 x2.toNatClampNeg ((I 74 x2.toNatClampNeg) ||| (1 <<< (x5 &&& 31)))) x1 x2 (x3 + 0) (x4 + 1) 0 0 0 0) else none)) else none) else (if zinb x2 6 = true then (if x7 = 0 then (if zinb x2 6 = true then (l_D_counts n 0 (zui I 74 x2.toNatClampNeg ((I 74 x2.toNatClampNeg) ||| 0)) x1 x2 (x3 + ((-1) * (x6 - 3))) (x4 + 1) 0 0 0 0) else none) else (if zinb x2 6 = true then (l_D_counts n 0 (zui I 74 x2.toNatClampNeg ((I 74 x2.toNatClampNeg) ||| (1 <<< (x5 &&& 31)))) x1 x2 (x3 + ((-1) * (x6 - 3))) (x4 + 1) 0 0 0 0) else none)) else none)) else (if x7 = 0 then (if zinb x2 6 = true then (if x7 = 0 then (if zinb x2 6 = true then (l_D_counts n 0 (zui I 74 x2.toNatClampNeg ((I 74 x2.toNatClampNeg) ||| 0)) x1 x2 (x3 + 0) (x4 + 1) 0 0 0 0) else none) else (if zinb x2 6 = true then (l_D_counts n 0 (zui I 74 x2.toNatClampNeg ((I 74 x2.toNatClampNeg) ||| (1 <<< (x5 &&& 31)))) x1 x2 (x3 + 0) (x4 + 1) 0 0 0 0) else none)) else none) else (if zinb x2 6 = true then (if x7 = 0 then (if zinb x2 6 = true then (l_D_counts n 0 (zui I 74 x2.toNatClampNeg ((I 74 x2.toNatClampNeg) ||| 0)) x1 x2 (x3 + (1 * (x6 - 3))) (x4 + 1) 0 0 0 0) else none) else (if zinb x2 6 = true then (l_D_counts n 0 (zui I 74 x2.toNatClampNeg ((I 74 x2.toNatClampNeg) ||| (1 <<< (x5 &&& 31)))) x1 x2 (x3 + (1 * (x6 - 3))) (x4 + 1) 0 0 0 0) else none)) else none))) else none)) else none) else (if zinb x5 6 = true then (if I 65 x5.toNatClampNeg = 2 then (if zinb x5 6 = true then (if I 65 x5.toNatClampNeg = 1 then (if x7 = 0 then (if zinb x2 6 = true then (if x7 = 0 then (if zinb x2 6 = true then (l_D_counts n 0 (zui I 74 x2.toNatClampNeg ((I 74 x2.toNatClampNeg) ||| 0)) x1 x2 (x3 + 0) (x4 + 1) 0 0 0 0) else none) else (if zinb x2 6 = true then (l_D_counts n 0 (zui I 74 x2.toNatClampNeg ((I 74 x2.toNatClampNeg) ||| (1 <<< (x5 &&& 31)))) x1 x2 (x3 + 0) (x4 + 1) 0 0 0 0) else none)) else none) else (if zinb x2 6 = true then (if x7 = 0 then (if zinb x2 6 = true then (l_D_counts n 0 (zui I 74 x2.toNatClampNeg ((I 74 x2.toNatClampNeg) ||| 0)) x1 x2 (x3 + (2 * (x6 - 3))) (x4 + 1) 0 0 0 0) else none) else (if zinb x2 6 = true then (l_D_counts n 0 (zui I 74 x2.toNatClampNeg ((I 74 x2.toNatClampNeg) ||| (1 <<< (x5 &&& 31)))) x1 x2 (x3 + (2 * (x6 - 3))) (x4 + 1) 0 0 0 0) else none)) else none)) else (if zinb x5 6 = true then (if I 65 x5.toNatClampNeg = 4 then (if x7 = 0 then (if zinb x2 6 = true then (if x7 = 0 then (if zinb x2 6 = true then (l_D_counts n 0 (zui I 74 x2.toNatClampNeg ((I 74 x2.toNatClampNeg) ||| 0)) x1 x2 (x3 + 0) (x4 + 1) 0 0 0 0) else none) else (if zinb x2 6 = true then (l_D_counts n 0 (zui I 74 x2.toNatClampNeg ((I 74 x2.toNatClampNeg) ||| (1 <<< (x5 &&& 31)))) x1 x2 (x3 + 0) (x4 + 1) 0 0 0 0) else none)) else none) else (if zinb x2 6 = true then (if x7 = 0 then (if zinb x2 6 = true then (l_D_counts n 0 (zui I 74 x2.toNatClampNeg ((I 74 x2.toNatClampNeg) ||| 0)) x1 x2 (x3 + ((-1) * (x6 - 3))) (x4 + 1) 0 0 0 0) else none) else (if zinb x2 6 = true then (l_D_counts n 0 (zui I 74 x2.toNatClampNeg ((I 74 x2.toNatClampNeg) ||| (1 <<< (x5 &&& 31)))) x1 x2 (x3 + ((-1) * (x6 - 3))) (x4 + 1) 0 0 0 0) else none)) else none)) else (if x7 = 0 then (if zinb x2 6 = true then (if x7 = 0 then (if zinb x2 6 = true then (l_D_counts n 0 (zui I 74 x2.toNatClampNeg ((I 74 x2.toNatClampNeg) ||| 0)) x1 x2 (x3 + 0) (x4 + 1) 0 0 0 0) else none) else (if zinb x2 6 = true then (l_D_counts n 0 (zui I 74 x2.toNatClampNeg ((I 74 x2.toNatClampNeg) ||| (1 <<< (x5 &&& 31)))) x1 x2 (x3 + 0) (x4 + 1) 0 0 0 0) else none)) else none) else (if zinb x2 6 = true then (if x7 = 0 then (if zinb x2 6 = true then (l_D_counts n 0 (zui I 74 x2.toNatClampNeg ((I 74 x2.toNatClampNeg) ||| 0)) x1 x2 (x3 + (1 * (x6 - 3))) (x4 + 1) 0 0 0 0) else none) else (if zinb x2 6 = true then (l_D_counts n 0 (zui I 74 x2.toNatClampNeg ((I 74 x2.toNatClampNeg) ||| (1 <<< (x5 &&& 31)))) x1 x2 (x3 + (1 * (x6 - 3))) (x4 + 1) 0 0 0 0) else none)) else none))) else none)) else none) else (if zinb x8 6 = true then (if x7 = 0 then (l_D_counts n 1 I x1 x2 x3 x4 x5 x6 0 (x8 + 1)) else (if zinb (I 72 x8.toNatClampNeg) 6 = true then (if I 65 ((I 72 x8.toNatClampNeg).toNatClampNeg) = 2 then (l_D_counts n 1 I x1 x2 x3 x4 x5 x6 1 (x8 + 1)) else (if zinb (I 72 x8.toNatClampNeg) 6 = true then (if I 65 ((I 72 x8.toNatClampNeg).toNatClampNeg) = 3 then (l_D_counts n 1 I x1 x2 x3 x4 x5 x6 1 (x8 + 1)) else (if zinb ((6 + (6 * (I 72 x8.toNatClampNeg))) + x2) 45 = true then (if I 68 (((6 + (6 * (I 72 x8.toNatClampNeg))) + x2).toNatClampNeg) = x6 then (l_D_counts n 1 I x1 x2 x3 x4 x5 x6 0 (x8 + 1)) else (l_D_counts n 1 I x1 x2 x3 x4 x5 x6 1 (x8 + 1))) else none)) else none)) else none)) else none)) else none)) else none)
def x_D_counts (I : Nat → Nat → Int32) (p : Int32) : Option (Int32 × (Nat → Nat → Int32)) := if zinb p 6 = true then (if zinb (I 72 p.toNatClampNeg) 6 = true then (l_D_counts 5000 0 (zui I 74 ((I 72 p.toNatClampNeg).toNatClampNeg) 0) p (I 72 p.toNatClampNeg) 0 (p + 1) 0 0 0 0) else none) else none
set_option maxRecDepth 100000 in
theorem lp_D_counts {X : Nat × (Nat → Int32)} (P : Nat → Nat → Option Nat) : ∀ (n : Nat), (∀ (I : Nat → Nat → Int32) (x1 : Int32) (x2 : Int32) (x3 : Int32) (x4 : Int32) (x5 : Int32) (x6 : Int32) (x7 : Int32) (x8 : Int32) (r : Int32 × (Nat → Nat → Int32)), l_D_counts n 0 I x1 x2 x3 x4 x5 x6 x7 x8 = some r → Wp X 142 21 [some (.ref 63), some (.int x1), some (.int x2), some (.int x3), some (.int x4), none, none, none, none, none] [] (zH I P) (fun r2 h2 => r2 = some (.int r.1) ∧ h2 = zH r.2 P)) ∧ (∀ (I : Nat → Nat → Int32) (x1 : Int32) (x2 : Int32) (x3 : Int32) (x4 : Int32) (x5 : Int32) (x6 : Int32) (x7 : Int32) (x8 : Int32) (r : Int32 × (Nat → Nat → Int32)), l_D_counts n 1 I x1 x2 x3 x4 x5 x6 x7 x8 = some r → Wp X 142 87 [some (.ref 63), some (.int x1), some (.int x2), some (.int x3), some (.int x4), some (.int x5), some (.int x6), some (.int x7), some (.int x8), none] [] (zH I P) (fun r2 h2 => r2 = some (.int r.1) ∧ h2 = zH r.2 P)) := by
  intro n
  induction n with
  | zero => exact ⟨fun I x1 x2 x3 x4 x5 x6 x7 x8 r hx => (by cases hx), fun I x1 x2 x3 x4 x5 x6 x7 x8 r hx => (by cases hx)⟩
  | succ n ih =>
    refine ⟨?_, ?_⟩
    · intro I x1 x2 x3 x4 x5 x6 x7 x8 r hx
      rw [l_D_counts] at hx
      rw [if_pos rfl] at hx
      refine wp_blk (pc' := 27) (L' := [some (.ref 63), some (.int x1), some (.int x2), some (.int x3), some (.int x4), none, none, none, none, none]) (st' := [.int (I 63 16), .int x4]) (h' := zH I P) 3 rfl ?_
      refine wp_ge (a := x4) (b := I 63 16) (s1 := (254, [some (.ref 63), some (.int x1), some (.int x2), some (.int x3), some (.int x4), none, none, none, none, none], [], zH I P)) (s2 := (30, [some (.ref 63), some (.int x1), some (.int x2), some (.int x3), some (.int x4), none, none, none, none, none], [], zH I P)) rfl (fun c1 => ?_) (fun c1 => ?_)
      · rw [if_pos c1] at hx
        refine wp_blk (pc' := 255) (L' := [some (.ref 63), some (.int x1), some (.int x2), some (.int x3), some (.int x4), none, none, none, none, none]) (st' := [.int x3]) (h' := zH I P) 1 rfl ?_
        cases hx
        exact wp_end rfl rfl ⟨rfl, rfl⟩
      · rw [if_neg c1] at hx
        refine wp_blk (pc' := 35) (L' := [some (.ref 63), some (.int x1), some (.int x2), some (.int x3), some (.int x4), none, none, none, none, none]) (st' := [.int (x1 + 3), .int x4]) (h' := zH I P) 4 rfl ?_
        refine wp_gt (a := x4) (b := x1 + 3) (s1 := (254, [some (.ref 63), some (.int x1), some (.int x2), some (.int x3), some (.int x4), none, none, none, none, none], [], zH I P)) (s2 := (38, [some (.ref 63), some (.int x1), some (.int x2), some (.int x3), some (.int x4), none, none, none, none, none], [], zH I P)) rfl (fun c2 => ?_) (fun c2 => ?_)
        · rw [if_pos c2] at hx
          refine wp_blk (pc' := 255) (L' := [some (.ref 63), some (.int x1), some (.int x2), some (.int x3), some (.int x4), none, none, none, none, none]) (st' := [.int x3]) (h' := zH I P) 1 rfl ?_
          cases hx
          exact wp_end rfl rfl ⟨rfl, rfl⟩
        · rw [if_neg c2] at hx
          refine wp_blk (pc' := 44) (L' := [some (.ref 63), some (.int x1), some (.int x2), some (.int x3), some (.int x4), none, none, none, none, none]) (st' := [.int x4, .ref 72]) (h' := zH I P) 3 rfl ?_
          obtain ⟨c3, hx⟩ := zite hx
          refine wp_chk (P := zinb x4 6 = true) (pc' := 45) (L' := [some (.ref 63), some (.int x1), some (.int x2), some (.int x3), some (.int x4), none, none, none, none, none]) (st' := [.int (I 72 x4.toNatClampNeg)]) (h' := zH I P) rfl c3 ?_
          refine wp_blk (pc' := 61) (L' := [some (.ref 63), some (.int x1), some (.int x2), some (.int x3), some (.int x4), some (.int (I 72 x4.toNatClampNeg)), none, none, none, none]) (st' := [.int ((6 + (6 * (I 72 x4.toNatClampNeg))) + x2), .ref 68]) (h' := zH I P) 10 rfl ?_
          obtain ⟨c4, hx⟩ := zite hx
          refine wp_chk (P := zinb ((6 + (6 * (I 72 x4.toNatClampNeg))) + x2) 45 = true) (pc' := 62) (L' := [some (.ref 63), some (.int x1), some (.int x2), some (.int x3), some (.int x4), some (.int (I 72 x4.toNatClampNeg)), none, none, none, none]) (st' := [.int (I 68 (((6 + (6 * (I 72 x4.toNatClampNeg))) + x2).toNatClampNeg))]) (h' := zH I P) rfl c4 ?_
          refine wp_blk (pc' := 70) (L' := [some (.ref 63), some (.int x1), some (.int x2), some (.int x3), some (.int x4), some (.int (I 72 x4.toNatClampNeg)), some (.int (I 68 (((6 + (6 * (I 72 x4.toNatClampNeg))) + x2).toNatClampNeg))), none, none, none]) (st' := [.int (I 72 x4.toNatClampNeg), .ref 65]) (h' := zH I P) 4 rfl ?_
          obtain ⟨c5, hx⟩ := zite hx
          refine wp_chk (P := zinb (I 72 x4.toNatClampNeg) 6 = true) (pc' := 71) (L' := [some (.ref 63), some (.int x1), some (.int x2), some (.int x3), some (.int x4), some (.int (I 72 x4.toNatClampNeg)), some (.int (I 68 (((6 + (6 * (I 72 x4.toNatClampNeg))) + x2).toNatClampNeg))), none, none, none]) (st' := [.int (I 65 ((I 72 x4.toNatClampNeg).toNatClampNeg))]) (h' := zH I P) rfl c5 ?_
          refine wp_blk (pc' := 72) (L' := [some (.ref 63), some (.int x1), some (.int x2), some (.int x3), some (.int x4), some (.int (I 72 x4.toNatClampNeg)), some (.int (I 68 (((6 + (6 * (I 72 x4.toNatClampNeg))) + x2).toNatClampNeg))), none, none, none]) (st' := [.int 3, .int (I 65 ((I 72 x4.toNatClampNeg).toNatClampNeg))]) (h' := zH I P) 1 rfl ?_
          refine wp_eq (a := I 65 ((I 72 x4.toNatClampNeg).toNatClampNeg)) (b := 3) (s1 := (79, [some (.ref 63), some (.int x1), some (.int x2), some (.int x3), some (.int x4), some (.int (I 72 x4.toNatClampNeg)), some (.int (I 68 (((6 + (6 * (I 72 x4.toNatClampNeg))) + x2).toNatClampNeg))), none, none, none], [], zH I P)) (s2 := (75, [some (.ref 63), some (.int x1), some (.int x2), some (.int x3), some (.int x4), some (.int (I 72 x4.toNatClampNeg)), some (.int (I 68 (((6 + (6 * (I 72 x4.toNatClampNeg))) + x2).toNatClampNeg))), none, none, none], [], zH I P)) rfl (fun c6 => ?_) (fun c6 => ?_)
          · rw [if_pos c6] at hx
            refine wp_blk (pc' := 87) (L' := [some (.ref 63), some (.int x1), some (.int x2), some (.int x3), some (.int x4), some (.int (I 72 x4.toNatClampNeg)), some (.int (I 68 (((6 + (6 * (I 72 x4.toNatClampNeg))) + x2).toNatClampNeg))), some (.int 0), some (.int (x1 + 1)), none]) (st' := []) (h' := zH I P) 6 rfl ?_
            exact ih.2 _ _ _ _ _ _ _ _ _ _ hx
          · rw [if_neg c6] at hx
            refine wp_blk (pc' := 87) (L' := [some (.ref 63), some (.int x1), some (.int x2), some (.int x3), some (.int x4), some (.int (I 72 x4.toNatClampNeg)), some (.int (I 68 (((6 + (6 * (I 72 x4.toNatClampNeg))) + x2).toNatClampNeg))), some (.int 1), some (.int (x1 + 1)), none]) (st' := []) (h' := zH I P) 7 rfl ?_
            exact ih.2 _ _ _ _ _ _ _ _ _ _ hx
    · intro I x1 x2 x3 x4 x5 x6 x7 x8 r hx
      rw [l_D_counts] at hx
      rw [if_neg (by decide)] at hx
      rw [if_pos rfl] at hx
      refine wp_blk (pc' := 91) (L' := [some (.ref 63), some (.int x1), some (.int x2), some (.int x3), some (.int x4), some (.int x5), some (.int x6), some (.int x7), some (.int x8), none]) (st' := [.int x4, .int x8]) (h' := zH I P) 2 rfl ?_
      refine wp_ge (a := x8) (b := x4) (s1 := (174, [some (.ref 63), some (.int x1), some (.int x2), some (.int x3), some (.int x4), some (.int x5), some (.int x6), some (.int x7), some (.int x8), none], [], zH I P)) (s2 := (94, [some (.ref 63), some (.int x1), some (.int x2), some (.int x3), some (.int x4), some (.int x5), some (.int x6), some (.int x7), some (.int x8), none], [], zH I P)) rfl (fun c1 => ?_) (fun c1 => ?_)
      · rw [if_pos c1] at hx
        refine wp_blk (pc' := 180) (L' := [some (.ref 63), some (.int x1), some (.int x2), some (.int x3), some (.int x4), some (.int x5), some (.int x6), some (.int x7), some (.int x8), none]) (st' := [.int x5, .ref 65]) (h' := zH I P) 3 rfl ?_
        obtain ⟨c2, hx⟩ := zite hx
        refine wp_chk (P := zinb x5 6 = true) (pc' := 181) (L' := [some (.ref 63), some (.int x1), some (.int x2), some (.int x3), some (.int x4), some (.int x5), some (.int x6), some (.int x7), some (.int x8), none]) (st' := [.int (I 65 x5.toNatClampNeg)]) (h' := zH I P) rfl c2 ?_
        refine wp_blk (pc' := 182) (L' := [some (.ref 63), some (.int x1), some (.int x2), some (.int x3), some (.int x4), some (.int x5), some (.int x6), some (.int x7), some (.int x8), none]) (st' := [.int 1, .int (I 65 x5.toNatClampNeg)]) (h' := zH I P) 1 rfl ?_
        refine wp_ne (a := I 65 x5.toNatClampNeg) (b := 1) (s1 := (189, [some (.ref 63), some (.int x1), some (.int x2), some (.int x3), some (.int x4), some (.int x5), some (.int x6), some (.int x7), some (.int x8), none], [], zH I P)) (s2 := (185, [some (.ref 63), some (.int x1), some (.int x2), some (.int x3), some (.int x4), some (.int x5), some (.int x6), some (.int x7), some (.int x8), none], [], zH I P)) rfl (fun c3 => ?_) (fun c3 => ?_)
        · rw [if_neg c3] at hx
          refine wp_blk (pc' := 195) (L' := [some (.ref 63), some (.int x1), some (.int x2), some (.int x3), some (.int x4), some (.int x5), some (.int x6), some (.int x7), some (.int x8), none]) (st' := [.int x5, .ref 65]) (h' := zH I P) 3 rfl ?_
          obtain ⟨c4, hx⟩ := zite hx
          refine wp_chk (P := zinb x5 6 = true) (pc' := 196) (L' := [some (.ref 63), some (.int x1), some (.int x2), some (.int x3), some (.int x4), some (.int x5), some (.int x6), some (.int x7), some (.int x8), none]) (st' := [.int (I 65 x5.toNatClampNeg)]) (h' := zH I P) rfl c4 ?_
          refine wp_blk (pc' := 197) (L' := [some (.ref 63), some (.int x1), some (.int x2), some (.int x3), some (.int x4), some (.int x5), some (.int x6), some (.int x7), some (.int x8), none]) (st' := [.int 4, .int (I 65 x5.toNatClampNeg)]) (h' := zH I P) 1 rfl ?_
          refine wp_ne (a := I 65 x5.toNatClampNeg) (b := 4) (s1 := (204, [some (.ref 63), some (.int x1), some (.int x2), some (.int x3), some (.int x4), some (.int x5), some (.int x6), some (.int x7), some (.int x8), none], [], zH I P)) (s2 := (200, [some (.ref 63), some (.int x1), some (.int x2), some (.int x3), some (.int x4), some (.int x5), some (.int x6), some (.int x7), some (.int x8), none], [], zH I P)) rfl (fun c5 => ?_) (fun c5 => ?_)
          · rw [if_neg c5] at hx
            refine wp_blk (pc' := 210) (L' := [some (.ref 63), some (.int x1), some (.int x2), some (.int x3), some (.int x4), some (.int x5), some (.int x6), some (.int x7), some (.int 1), none]) (st' := [.int x7, .int x3]) (h' := zH I P) 4 rfl ?_
            refine wp_eq (a := x7) (b := 0) (s1 := (223, [some (.ref 63), some (.int x1), some (.int x2), some (.int x3), some (.int x4), some (.int x5), some (.int x6), some (.int x7), some (.int 1), none], [.int x3], zH I P)) (s2 := (213, [some (.ref 63), some (.int x1), some (.int x2), some (.int x3), some (.int x4), some (.int x5), some (.int x6), some (.int x7), some (.int 1), none], [.int x3], zH I P)) rfl (fun c6 => ?_) (fun c6 => ?_)
            · rw [if_pos c6] at hx
              refine wp_blk (pc' := 232) (L' := [some (.ref 63), some (.int x1), some (.int x2), some (.int (x3 + 0)), some (.int x4), some (.int x5), some (.int x6), some (.int x7), some (.int 1), none]) (st' := [.int x2, .ref 74, .int x2, .ref 74]) (h' := zH I P) 7 rfl ?_
              obtain ⟨c7, hx⟩ := zite hx
              refine wp_chk (P := zinb x2 6 = true) (pc' := 233) (L' := [some (.ref 63), some (.int x1), some (.int x2), some (.int (x3 + 0)), some (.int x4), some (.int x5), some (.int x6), some (.int x7), some (.int 1), none]) (st' := [.int (I 74 x2.toNatClampNeg), .int x2, .ref 74]) (h' := zH I P) rfl c7 ?_
              refine wp_blk (pc' := 235) (L' := [some (.ref 63), some (.int x1), some (.int x2), some (.int (x3 + 0)), some (.int x4), some (.int x5), some (.int x6), some (.int x7), some (.int 1), none]) (st' := [.int x7, .int (I 74 x2.toNatClampNeg), .int x2, .ref 74]) (h' := zH I P) 1 rfl ?_
              refine wp_eq (a := x7) (b := 0) (s1 := (245, [some (.ref 63), some (.int x1), some (.int x2), some (.int (x3 + 0)), some (.int x4), some (.int x5), some (.int x6), some (.int x7), some (.int 1), none], [.int (I 74 x2.toNatClampNeg), .int x2, .ref 74], zH I P)) (s2 := (238, [some (.ref 63), some (.int x1), some (.int x2), some (.int (x3 + 0)), some (.int x4), some (.int x5), some (.int x6), some (.int x7), some (.int 1), none], [.int (I 74 x2.toNatClampNeg), .int x2, .ref 74], zH I P)) rfl (fun c8 => ?_) (fun c8 => ?_)
              · rw [if_pos c8] at hx
                refine wp_blk (pc' := 247) (L' := [some (.ref 63), some (.int x1), some (.int x2), some (.int (x3 + 0)), some (.int x4), some (.int x5), some (.int x6), some (.int x7), some (.int 1), none]) (st' := [.int ((I 74 x2.toNatClampNeg) ||| 0), .int x2, .ref 74]) (h' := zH I P) 2 rfl ?_
                obtain ⟨c9, hx⟩ := zite hx
                refine wp_chk (P := zinb x2 6 = true) (pc' := 248) (L' := [some (.ref 63), some (.int x1), some (.int x2), some (.int (x3 + 0)), some (.int x4), some (.int x5), some (.int x6), some (.int x7), some (.int 1), none]) (st' := []) (h' := zH (zui I 74 x2.toNatClampNeg ((I 74 x2.toNatClampNeg) ||| 0)) P) rfl c9 ?_
                refine wp_blk (pc' := 21) (L' := [some (.ref 63), some (.int x1), some (.int x2), some (.int (x3 + 0)), some (.int (x4 + 1)), some (.int x5), some (.int x6), some (.int x7), some (.int 1), none]) (st' := []) (h' := zH (zui I 74 x2.toNatClampNeg ((I 74 x2.toNatClampNeg) ||| 0)) P) 2 rfl ?_
                exact wp_forget (ih.1 _ _ _ _ _ _ _ _ _ _ hx) (zle_c (zle_c (zle_c (zle_c (zle_c (zle_n (zle_n (zle_n (zle_n (zle_n zle_nil))))))))))
              · rw [if_neg c8] at hx
                refine wp_blk (pc' := 247) (L' := [some (.ref 63), some (.int x1), some (.int x2), some (.int (x3 + 0)), some (.int x4), some (.int x5), some (.int x6), some (.int x7), some (.int 1), none]) (st' := [.int ((I 74 x2.toNatClampNeg) ||| (1 <<< (x5 &&& 31))), .int x2, .ref 74]) (h' := zH I P) 5 rfl ?_
                obtain ⟨c10, hx⟩ := zite hx
                refine wp_chk (P := zinb x2 6 = true) (pc' := 248) (L' := [some (.ref 63), some (.int x1), some (.int x2), some (.int (x3 + 0)), some (.int x4), some (.int x5), some (.int x6), some (.int x7), some (.int 1), none]) (st' := []) (h' := zH (zui I 74 x2.toNatClampNeg ((I 74 x2.toNatClampNeg) ||| (1 <<< (x5 &&& 31)))) P) rfl c10 ?_
                refine wp_blk (pc' := 21) (L' := [some (.ref 63), some (.int x1), some (.int x2), some (.int (x3 + 0)), some (.int (x4 + 1)), some (.int x5), some (.int x6), some (.int x7), some (.int 1), none]) (st' := []) (h' := zH (zui I 74 x2.toNatClampNeg ((I 74 x2.toNatClampNeg) ||| (1 <<< (x5 &&& 31)))) P) 2 rfl ?_
                exact wp_forget (ih.1 _ _ _ _ _ _ _ _ _ _ hx) (zle_c (zle_c (zle_c (zle_c (zle_c (zle_n (zle_n (zle_n (zle_n (zle_n zle_nil))))))))))
            · rw [if_neg c6] at hx
              refine wp_blk (pc' := 232) (L' := [some (.ref 63), some (.int x1), some (.int x2), some (.int (x3 + (1 * (x6 - 3)))), some (.int x4), some (.int x5), some (.int x6), some (.int x7), some (.int 1), none]) (st' := [.int x2, .ref 74, .int x2, .ref 74]) (h' := zH I P) 12 rfl ?_
              obtain ⟨c11, hx⟩ := zite hx
              refine wp_chk (P := zinb x2 6 = true) (pc' := 233) (L' := [some (.ref 63), some (.int x1), some (.int x2), some (.int (x3 + (1 * (x6 - 3)))), some (.int x4), some (.int x5), some (.int x6), some (.int x7), some (.int 1), none]) (st' := [.int (I 74 x2.toNatClampNeg), .int x2, .ref 74]) (h' := zH I P) rfl c11 ?_
              refine wp_blk (pc' := 235) (L' := [some (.ref 63), some (.int x1), some (.int x2), some (.int (x3 + (1 * (x6 - 3)))), some (.int x4), some (.int x5), some (.int x6), some (.int x7), some (.int 1), none]) (st' := [.int x7, .int (I 74 x2.toNatClampNeg), .int x2, .ref 74]) (h' := zH I P) 1 rfl ?_
              refine wp_eq (a := x7) (b := 0) (s1 := (245, [some (.ref 63), some (.int x1), some (.int x2), some (.int (x3 + (1 * (x6 - 3)))), some (.int x4), some (.int x5), some (.int x6), some (.int x7), some (.int 1), none], [.int (I 74 x2.toNatClampNeg), .int x2, .ref 74], zH I P)) (s2 := (238, [some (.ref 63), some (.int x1), some (.int x2), some (.int (x3 + (1 * (x6 - 3)))), some (.int x4), some (.int x5), some (.int x6), some (.int x7), some (.int 1), none], [.int (I 74 x2.toNatClampNeg), .int x2, .ref 74], zH I P)) rfl (fun c12 => ?_) (fun c12 => ?_)
              · rw [if_pos c12] at hx
                refine wp_blk (pc' := 247) (L' := [some (.ref 63), some (.int x1), some (.int x2), some (.int (x3 + (1 * (x6 - 3)))), some (.int x4), some (.int x5), some (.int x6), some (.int x7), some (.int 1), none]) (st' := [.int ((I 74 x2.toNatClampNeg) ||| 0), .int x2, .ref 74]) (h' := zH I P) 2 rfl ?_
                obtain ⟨c13, hx⟩ := zite hx
                refine wp_chk (P := zinb x2 6 = true) (pc' := 248) (L' := [some (.ref 63), some (.int x1), some (.int x2), some (.int (x3 + (1 * (x6 - 3)))), some (.int x4), some (.int x5), some (.int x6), some (.int x7), some (.int 1), none]) (st' := []) (h' := zH (zui I 74 x2.toNatClampNeg ((I 74 x2.toNatClampNeg) ||| 0)) P) rfl c13 ?_
                refine wp_blk (pc' := 21) (L' := [some (.ref 63), some (.int x1), some (.int x2), some (.int (x3 + (1 * (x6 - 3)))), some (.int (x4 + 1)), some (.int x5), some (.int x6), some (.int x7), some (.int 1), none]) (st' := []) (h' := zH (zui I 74 x2.toNatClampNeg ((I 74 x2.toNatClampNeg) ||| 0)) P) 2 rfl ?_
                exact wp_forget (ih.1 _ _ _ _ _ _ _ _ _ _ hx) (zle_c (zle_c (zle_c (zle_c (zle_c (zle_n (zle_n (zle_n (zle_n (zle_n zle_nil))))))))))
              · rw [if_neg c12] at hx
                refine wp_blk (pc' := 247) (L' := [some (.ref 63), some (.int x1), some (.int x2), some (.int (x3 + (1 * (x6 - 3)))), some (.int x4), some (.int x5), some (.int x6), some (.int x7), some (.int 1), none]) (st' := [.int ((I 74 x2.toNatClampNeg) ||| (1 <<< (x5 &&& 31))), .int x2, .ref 74]) (h' := zH I P) 5 rfl ?_
                obtain ⟨c14, hx⟩ := zite hx
                refine wp_chk (P := zinb x2 6 = true) (pc' := 248) (L' := [some (.ref 63), some (.int x1), some (.int x2), some (.int (x3 + (1 * (x6 - 3)))), some (.int x4), some (.int x5), some (.int x6), some (.int x7), some (.int 1), none]) (st' := []) (h' := zH (zui I 74 x2.toNatClampNeg ((I 74 x2.toNatClampNeg) ||| (1 <<< (x5 &&& 31)))) P) rfl c14 ?_
                refine wp_blk (pc' := 21) (L' := [some (.ref 63), some (.int x1), some (.int x2), some (.int (x3 + (1 * (x6 - 3)))), some (.int (x4 + 1)), some (.int x5), some (.int x6), some (.int x7), some (.int 1), none]) (st' := []) (h' := zH (zui I 74 x2.toNatClampNeg ((I 74 x2.toNatClampNeg) ||| (1 <<< (x5 &&& 31)))) P) 2 rfl ?_
                exact wp_forget (ih.1 _ _ _ _ _ _ _ _ _ _ hx) (zle_c (zle_c (zle_c (zle_c (zle_c (zle_n (zle_n (zle_n (zle_n (zle_n zle_nil))))))))))
          · rw [if_pos c5] at hx
            refine wp_blk (pc' := 210) (L' := [some (.ref 63), some (.int x1), some (.int x2), some (.int x3), some (.int x4), some (.int x5), some (.int x6), some (.int x7), some (.int (-1)), none]) (st' := [.int x7, .int x3]) (h' := zH I P) 5 rfl ?_
            refine wp_eq (a := x7) (b := 0) (s1 := (223, [some (.ref 63), some (.int x1), some (.int x2), some (.int x3), some (.int x4), some (.int x5), some (.int x6), some (.int x7), some (.int (-1)), none], [.int x3], zH I P)) (s2 := (213, [some (.ref 63), some (.int x1), some (.int x2), some (.int x3), some (.int x4), some (.int x5), some (.int x6), some (.int x7), some (.int (-1)), none], [.int x3], zH I P)) rfl (fun c15 => ?_) (fun c15 => ?_)
            · rw [if_pos c15] at hx
              refine wp_blk (pc' := 232) (L' := [some (.ref 63), some (.int x1), some (.int x2), some (.int (x3 + 0)), some (.int x4), some (.int x5), some (.int x6), some (.int x7), some (.int (-1)), none]) (st' := [.int x2, .ref 74, .int x2, .ref 74]) (h' := zH I P) 7 rfl ?_
              obtain ⟨c16, hx⟩ := zite hx
              refine wp_chk (P := zinb x2 6 = true) (pc' := 233) (L' := [some (.ref 63), some (.int x1), some (.int x2), some (.int (x3 + 0)), some (.int x4), some (.int x5), some (.int x6), some (.int x7), some (.int (-1)), none]) (st' := [.int (I 74 x2.toNatClampNeg), .int x2, .ref 74]) (h' := zH I P) rfl c16 ?_
              refine wp_blk (pc' := 235) (L' := [some (.ref 63), some (.int x1), some (.int x2), some (.int (x3 + 0)), some (.int x4), some (.int x5), some (.int x6), some (.int x7), some (.int (-1)), none]) (st' := [.int x7, .int (I 74 x2.toNatClampNeg), .int x2, .ref 74]) (h' := zH I P) 1 rfl ?_
              refine wp_eq (a := x7) (b := 0) (s1 := (245, [some (.ref 63), some (.int x1), some (.int x2), some (.int (x3 + 0)), some (.int x4), some (.int x5), some (.int x6), some (.int x7), some (.int (-1)), none], [.int (I 74 x2.toNatClampNeg), .int x2, .ref 74], zH I P)) (s2 := (238, [some (.ref 63), some (.int x1), some (.int x2), some (.int (x3 + 0)), some (.int x4), some (.int x5), some (.int x6), some (.int x7), some (.int (-1)), none], [.int (I 74 x2.toNatClampNeg), .int x2, .ref 74], zH I P)) rfl (fun c17 => ?_) (fun c17 => ?_)
              · rw [if_pos c17] at hx
                refine wp_blk (pc' := 247) (L' := [some (.ref 63), some (.int x1), some (.int x2), some (.int (x3 + 0)), some (.int x4), some (.int x5), some (.int x6), some (.int x7), some (.int (-1)), none]) (st' := [.int ((I 74 x2.toNatClampNeg) ||| 0), .int x2, .ref 74]) (h' := zH I P) 2 rfl ?_
                obtain ⟨c18, hx⟩ := zite hx
                refine wp_chk (P := zinb x2 6 = true) (pc' := 248) (L' := [some (.ref 63), some (.int x1), some (.int x2), some (.int (x3 + 0)), some (.int x4), some (.int x5), some (.int x6), some (.int x7), some (.int (-1)), none]) (st' := []) (h' := zH (zui I 74 x2.toNatClampNeg ((I 74 x2.toNatClampNeg) ||| 0)) P) rfl c18 ?_
                refine wp_blk (pc' := 21) (L' := [some (.ref 63), some (.int x1), some (.int x2), some (.int (x3 + 0)), some (.int (x4 + 1)), some (.int x5), some (.int x6), some (.int x7), some (.int (-1)), none]) (st' := []) (h' := zH (zui I 74 x2.toNatClampNeg ((I 74 x2.toNatClampNeg) ||| 0)) P) 2 rfl ?_
                exact wp_forget (ih.1 _ _ _ _ _ _ _ _ _ _ hx) (zle_c (zle_c (zle_c (zle_c (zle_c (zle_n (zle_n (zle_n (zle_n (zle_n zle_nil))))))))))
              · rw [if_neg c17] at hx
                refine wp_blk (pc' := 247) (L' := [some (.ref 63), some (.int x1), some (.int x2), some (.int (x3 + 0)), some (.int x4), some (.int x5), some (.int x6), some (.int x7), some (.int (-1)), none]) (st' := [.int ((I 74 x2.toNatClampNeg) ||| (1 <<< (x5 &&& 31))), .int x2, .ref 74]) (h' := zH I P) 5 rfl ?_
                obtain ⟨c19, hx⟩ := zite hx
                refine wp_chk (P := zinb x2 6 = true) (pc' := 248) (L' := [some (.ref 63), some (.int x1), some (.int x2), some (.int (x3 + 0)), some (.int x4), some (.int x5), some (.int x6), some (.int x7), some (.int (-1)), none]) (st' := []) (h' := zH (zui I 74 x2.toNatClampNeg ((I 74 x2.toNatClampNeg) ||| (1 <<< (x5 &&& 31)))) P) rfl c19 ?_
                refine wp_blk (pc' := 21) (L' := [some (.ref 63), some (.int x1), some (.int x2), some (.int (x3 + 0)), some (.int (x4 + 1)), some (.int x5), some (.int x6), some (.int x7), some (.int (-1)), none]) (st' := []) (h' := zH (zui I 74 x2.toNatClampNeg ((I 74 x2.toNatClampNeg) ||| (1 <<< (x5 &&& 31)))) P) 2 rfl ?_
                exact wp_forget (ih.1 _ _ _ _ _ _ _ _ _ _ hx) (zle_c (zle_c (zle_c (zle_c (zle_c (zle_n (zle_n (zle_n (zle_n (zle_n zle_nil))))))))))
            · rw [if_neg c15] at hx
              refine wp_blk (pc' := 232) (L' := [some (.ref 63), some (.int x1), some (.int x2), some (.int (x3 + ((-1) * (x6 - 3)))), some (.int x4), some (.int x5), some (.int x6), some (.int x7), some (.int (-1)), none]) (st' := [.int x2, .ref 74, .int x2, .ref 74]) (h' := zH I P) 12 rfl ?_
              obtain ⟨c20, hx⟩ := zite hx
              refine wp_chk (P := zinb x2 6 = true) (pc' := 233) (L' := [some (.ref 63), some (.int x1), some (.int x2), some (.int (x3 + ((-1) * (x6 - 3)))), some (.int x4), some (.int x5), some (.int x6), some (.int x7), some (.int (-1)), none]) (st' := [.int (I 74 x2.toNatClampNeg), .int x2, .ref 74]) (h' := zH I P) rfl c20 ?_
              refine wp_blk (pc' := 235) (L' := [some (.ref 63), some (.int x1), some (.int x2), some (.int (x3 + ((-1) * (x6 - 3)))), some (.int x4), some (.int x5), some (.int x6), some (.int x7), some (.int (-1)), none]) (st' := [.int x7, .int (I 74 x2.toNatClampNeg), .int x2, .ref 74]) (h' := zH I P) 1 rfl ?_
              refine wp_eq (a := x7) (b := 0) (s1 := (245, [some (.ref 63), some (.int x1), some (.int x2), some (.int (x3 + ((-1) * (x6 - 3)))), some (.int x4), some (.int x5), some (.int x6), some (.int x7), some (.int (-1)), none], [.int (I 74 x2.toNatClampNeg), .int x2, .ref 74], zH I P)) (s2 := (238, [some (.ref 63), some (.int x1), some (.int x2), some (.int (x3 + ((-1) * (x6 - 3)))), some (.int x4), some (.int x5), some (.int x6), some (.int x7), some (.int (-1)), none], [.int (I 74 x2.toNatClampNeg), .int x2, .ref 74], zH I P)) rfl (fun c21 => ?_) (fun c21 => ?_)
              · rw [if_pos c21] at hx
                refine wp_blk (pc' := 247) (L' := [some (.ref 63), some (.int x1), some (.int x2), some (.int (x3 + ((-1) * (x6 - 3)))), some (.int x4), some (.int x5), some (.int x6), some (.int x7), some (.int (-1)), none]) (st' := [.int ((I 74 x2.toNatClampNeg) ||| 0), .int x2, .ref 74]) (h' := zH I P) 2 rfl ?_
                obtain ⟨c22, hx⟩ := zite hx
                refine wp_chk (P := zinb x2 6 = true) (pc' := 248) (L' := [some (.ref 63), some (.int x1), some (.int x2), some (.int (x3 + ((-1) * (x6 - 3)))), some (.int x4), some (.int x5), some (.int x6), some (.int x7), some (.int (-1)), none]) (st' := []) (h' := zH (zui I 74 x2.toNatClampNeg ((I 74 x2.toNatClampNeg) ||| 0)) P) rfl c22 ?_
                refine wp_blk (pc' := 21) (L' := [some (.ref 63), some (.int x1), some (.int x2), some (.int (x3 + ((-1) * (x6 - 3)))), some (.int (x4 + 1)), some (.int x5), some (.int x6), some (.int x7), some (.int (-1)), none]) (st' := []) (h' := zH (zui I 74 x2.toNatClampNeg ((I 74 x2.toNatClampNeg) ||| 0)) P) 2 rfl ?_
                exact wp_forget (ih.1 _ _ _ _ _ _ _ _ _ _ hx) (zle_c (zle_c (zle_c (zle_c (zle_c (zle_n (zle_n (zle_n (zle_n (zle_n zle_nil))))))))))
              · rw [if_neg c21] at hx
                refine wp_blk (pc' := 247) (L' := [some (.ref 63), some (.int x1), some (.int x2), some (.int (x3 + ((-1) * (x6 - 3)))), some (.int x4), some (.int x5), some (.int x6), some (.int x7), some (.int (-1)), none]) (st' := [.int ((I 74 x2.toNatClampNeg) ||| (1 <<< (x5 &&& 31))), .int x2, .ref 74]) (h' := zH I P) 5 rfl ?_
                obtain ⟨c23, hx⟩ := zite hx
                refine wp_chk (P := zinb x2 6 = true) (pc' := 248) (L' := [some (.ref 63), some (.int x1), some (.int x2), some (.int (x3 + ((-1) * (x6 - 3)))), some (.int x4), some (.int x5), some (.int x6), some (.int x7), some (.int (-1)), none]) (st' := []) (h' := zH (zui I 74 x2.toNatClampNeg ((I 74 x2.toNatClampNeg) ||| (1 <<< (x5 &&& 31)))) P) rfl c23 ?_
                refine wp_blk (pc' := 21) (L' := [some (.ref 63), some (.int x1), some (.int x2), some (.int (x3 + ((-1) * (x6 - 3)))), some (.int (x4 + 1)), some (.int x5), some (.int x6), some (.int x7), some (.int (-1)), none]) (st' := []) (h' := zH (zui I 74 x2.toNatClampNeg ((I 74 x2.toNatClampNeg) ||| (1 <<< (x5 &&& 31)))) P) 2 rfl ?_
                exact wp_forget (ih.1 _ _ _ _ _ _ _ _ _ _ hx) (zle_c (zle_c (zle_c (zle_c (zle_c (zle_n (zle_n (zle_n (zle_n (zle_n zle_nil))))))))))
        · rw [if_pos c3] at hx
          refine wp_blk (pc' := 210) (L' := [some (.ref 63), some (.int x1), some (.int x2), some (.int x3), some (.int x4), some (.int x5), some (.int x6), some (.int x7), some (.int 2), none]) (st' := [.int x7, .int x3]) (h' := zH I P) 5 rfl ?_
          refine wp_eq (a := x7) (b := 0) (s1 := (223, [some (.ref 63), some (.int x1), some (.int x2), some (.int x3), some (.int x4), some (.int x5), some (.int x6), some (.int x7), some (.int 2), none], [.int x3], zH I P)) (s2 := (213, [some (.ref 63), some (.int x1), some (.int x2), some (.int x3), some (.int x4), some (.int x5), some (.int x6), some (.int x7), some (.int 2), none], [.int x3], zH I P)) rfl (fun c24 => ?_) (fun c24 => ?_)
          · rw [if_pos c24] at hx
            refine wp_blk (pc' := 232) (L' := [some (.ref 63), some (.int x1), some (.int x2), some (.int (x3 + 0)), some (.int x4), some (.int x5), some (.int x6), some (.int x7), some (.int 2), none]) (st' := [.int x2, .ref 74, .int x2, .ref 74]) (h' := zH I P) 7 rfl ?_
            obtain ⟨c25, hx⟩ := zite hx
            refine wp_chk (P := zinb x2 6 = true) (pc' := 233) (L' := [some (.ref 63), some (.int x1), some (.int x2), some (.int (x3 + 0)), some (.int x4), some (.int x5), some (.int x6), some (.int x7), some (.int 2), none]) (st' := [.int (I 74 x2.toNatClampNeg), .int x2, .ref 74]) (h' := zH I P) rfl c25 ?_
            refine wp_blk (pc' := 235) (L' := [some (.ref 63), some (.int x1), some (.int x2), some (.int (x3 + 0)), some (.int x4), some (.int x5), some (.int x6), some (.int x7), some (.int 2), none]) (st' := [.int x7, .int (I 74 x2.toNatClampNeg), .int x2, .ref 74]) (h' := zH I P) 1 rfl ?_
            refine wp_eq (a := x7) (b := 0) (s1 := (245, [some (.ref 63), some (.int x1), some (.int x2), some (.int (x3 + 0)), some (.int x4), some (.int x5), some (.int x6), some (.int x7), some (.int 2), none], [.int (I 74 x2.toNatClampNeg), .int x2, .ref 74], zH I P)) (s2 := (238, [some (.ref 63), some (.int x1), some (.int x2), some (.int (x3 + 0)), some (.int x4), some (.int x5), some (.int x6), some (.int x7), some (.int 2), none], [.int (I 74 x2.toNatClampNeg), .int x2, .ref 74], zH I P)) rfl (fun c26 => ?_) (fun c26 => ?_)
            · rw [if_pos c26] at hx
              refine wp_blk (pc' := 247) (L' := [some (.ref 63), some (.int x1), some (.int x2), some (.int (x3 + 0)), some (.int x4), some (.int x5), some (.int x6), some (.int x7), some (.int 2), none]) (st' := [.int ((I 74 x2.toNatClampNeg) ||| 0), .int x2, .ref 74]) (h' := zH I P) 2 rfl ?_
              obtain ⟨c27, hx⟩ := zite hx
              refine wp_chk (P := zinb x2 6 = true) (pc' := 248) (L' := [some (.ref 63), some (.int x1), some (.int x2), some (.int (x3 + 0)), some (.int x4), some (.int x5), some (.int x6), some (.int x7), some (.int 2), none]) (st' := []) (h' := zH (zui I 74 x2.toNatClampNeg ((I 74 x2.toNatClampNeg) ||| 0)) P) rfl c27 ?_
              refine wp_blk (pc' := 21) (L' := [some (.ref 63), some (.int x1), some (.int x2), some (.int (x3 + 0)), some (.int (x4 + 1)), some (.int x5), some (.int x6), some (.int x7), some (.int 2), none]) (st' := []) (h' := zH (zui I 74 x2.toNatClampNeg ((I 74 x2.toNatClampNeg) ||| 0)) P) 2 rfl ?_
              exact wp_forget (ih.1 _ _ _ _ _ _ _ _ _ _ hx) (zle_c (zle_c (zle_c (zle_c (zle_c (zle_n (zle_n (zle_n (zle_n (zle_n zle_nil))))))))))
            · rw [if_neg c26] at hx
              refine wp_blk (pc' := 247) (L' := [some (.ref 63), some (.int x1), some (.int x2), some (.int (x3 + 0)), some (.int x4), some (.int x5), some (.int x6), some (.int x7), some (.int 2), none]) (st' := [.int ((I 74 x2.toNatClampNeg) ||| (1 <<< (x5 &&& 31))), .int x2, .ref 74]) (h' := zH I P) 5 rfl ?_
              obtain ⟨c28, hx⟩ := zite hx
              refine wp_chk (P := zinb x2 6 = true) (pc' := 248) (L' := [some (.ref 63), some (.int x1), some (.int x2), some (.int (x3 + 0)), some (.int x4), some (.int x5), some (.int x6), some (.int x7), some (.int 2), none]) (st' := []) (h' := zH (zui I 74 x2.toNatClampNeg ((I 74 x2.toNatClampNeg) ||| (1 <<< (x5 &&& 31)))) P) rfl c28 ?_
              refine wp_blk (pc' := 21) (L' := [some (.ref 63), some (.int x1), some (.int x2), some (.int (x3 + 0)), some (.int (x4 + 1)), some (.int x5), some (.int x6), some (.int x7), some (.int 2), none]) (st' := []) (h' := zH (zui I 74 x2.toNatClampNeg ((I 74 x2.toNatClampNeg) ||| (1 <<< (x5 &&& 31)))) P) 2 rfl ?_
              exact wp_forget (ih.1 _ _ _ _ _ _ _ _ _ _ hx) (zle_c (zle_c (zle_c (zle_c (zle_c (zle_n (zle_n (zle_n (zle_n (zle_n zle_nil))))))))))
          · rw [if_neg c24] at hx
            refine wp_blk (pc' := 232) (L' := [some (.ref 63), some (.int x1), some (.int x2), some (.int (x3 + (2 * (x6 - 3)))), some (.int x4), some (.int x5), some (.int x6), some (.int x7), some (.int 2), none]) (st' := [.int x2, .ref 74, .int x2, .ref 74]) (h' := zH I P) 12 rfl ?_
            obtain ⟨c29, hx⟩ := zite hx
            refine wp_chk (P := zinb x2 6 = true) (pc' := 233) (L' := [some (.ref 63), some (.int x1), some (.int x2), some (.int (x3 + (2 * (x6 - 3)))), some (.int x4), some (.int x5), some (.int x6), some (.int x7), some (.int 2), none]) (st' := [.int (I 74 x2.toNatClampNeg), .int x2, .ref 74]) (h' := zH I P) rfl c29 ?_
            refine wp_blk (pc' := 235) (L' := [some (.ref 63), some (.int x1), some (.int x2), some (.int (x3 + (2 * (x6 - 3)))), some (.int x4), some (.int x5), some (.int x6), some (.int x7), some (.int 2), none]) (st' := [.int x7, .int (I 74 x2.toNatClampNeg), .int x2, .ref 74]) (h' := zH I P) 1 rfl ?_
            refine wp_eq (a := x7) (b := 0) (s1 := (245, [some (.ref 63), some (.int x1), some (.int x2), some (.int (x3 + (2 * (x6 - 3)))), some (.int x4), some (.int x5), some (.int x6), some (.int x7), some (.int 2), none], [.int (I 74 x2.toNatClampNeg), .int x2, .ref 74], zH I P)) (s2 := (238, [some (.ref 63), some (.int x1), some (.int x2), some (.int (x3 + (2 * (x6 - 3)))), some (.int x4), some (.int x5), some (.int x6), some (.int x7), some (.int 2), none], [.int (I 74 x2.toNatClampNeg), .int x2, .ref 74], zH I P)) rfl (fun c30 => ?_) (fun c30 => ?_)
            · rw [if_pos c30] at hx
              refine wp_blk (pc' := 247) (L' := [some (.ref 63), some (.int x1), some (.int x2), some (.int (x3 + (2 * (x6 - 3)))), some (.int x4), some (.int x5), some (.int x6), some (.int x7), some (.int 2), none]) (st' := [.int ((I 74 x2.toNatClampNeg) ||| 0), .int x2, .ref 74]) (h' := zH I P) 2 rfl ?_
              obtain ⟨c31, hx⟩ := zite hx
              refine wp_chk (P := zinb x2 6 = true) (pc' := 248) (L' := [some (.ref 63), some (.int x1), some (.int x2), some (.int (x3 + (2 * (x6 - 3)))), some (.int x4), some (.int x5), some (.int x6), some (.int x7), some (.int 2), none]) (st' := []) (h' := zH (zui I 74 x2.toNatClampNeg ((I 74 x2.toNatClampNeg) ||| 0)) P) rfl c31 ?_
              refine wp_blk (pc' := 21) (L' := [some (.ref 63), some (.int x1), some (.int x2), some (.int (x3 + (2 * (x6 - 3)))), some (.int (x4 + 1)), some (.int x5), some (.int x6), some (.int x7), some (.int 2), none]) (st' := []) (h' := zH (zui I 74 x2.toNatClampNeg ((I 74 x2.toNatClampNeg) ||| 0)) P) 2 rfl ?_
              exact wp_forget (ih.1 _ _ _ _ _ _ _ _ _ _ hx) (zle_c (zle_c (zle_c (zle_c (zle_c (zle_n (zle_n (zle_n (zle_n (zle_n zle_nil))))))))))
            · rw [if_neg c30] at hx
              refine wp_blk (pc' := 247) (L' := [some (.ref 63), some (.int x1), some (.int x2), some (.int (x3 + (2 * (x6 - 3)))), some (.int x4), some (.int x5), some (.int x6), some (.int x7), some (.int 2), none]) (st' := [.int ((I 74 x2.toNatClampNeg) ||| (1 <<< (x5 &&& 31))), .int x2, .ref 74]) (h' := zH I P) 5 rfl ?_
              obtain ⟨c32, hx⟩ := zite hx
              refine wp_chk (P := zinb x2 6 = true) (pc' := 248) (L' := [some (.ref 63), some (.int x1), some (.int x2), some (.int (x3 + (2 * (x6 - 3)))), some (.int x4), some (.int x5), some (.int x6), some (.int x7), some (.int 2), none]) (st' := []) (h' := zH (zui I 74 x2.toNatClampNeg ((I 74 x2.toNatClampNeg) ||| (1 <<< (x5 &&& 31)))) P) rfl c32 ?_
              refine wp_blk (pc' := 21) (L' := [some (.ref 63), some (.int x1), some (.int x2), some (.int (x3 + (2 * (x6 - 3)))), some (.int (x4 + 1)), some (.int x5), some (.int x6), some (.int x7), some (.int 2), none]) (st' := []) (h' := zH (zui I 74 x2.toNatClampNeg ((I 74 x2.toNatClampNeg) ||| (1 <<< (x5 &&& 31)))) P) 2 rfl ?_
              exact wp_forget (ih.1 _ _ _ _ _ _ _ _ _ _ hx) (zle_c (zle_c (zle_c (zle_c (zle_c (zle_n (zle_n (zle_n (zle_n (zle_n zle_nil))))))))))
      · rw [if_neg c1] at hx
        refine wp_blk (pc' := 100) (L' := [some (.ref 63), some (.int x1), some (.int x2), some (.int x3), some (.int x4), some (.int x5), some (.int x6), some (.int x7), some (.int x8), none]) (st' := [.int x5, .ref 65]) (h' := zH I P) 3 rfl ?_
        obtain ⟨c33, hx⟩ := zite hx
        refine wp_chk (P := zinb x5 6 = true) (pc' := 101) (L' := [some (.ref 63), some (.int x1), some (.int x2), some (.int x3), some (.int x4), some (.int x5), some (.int x6), some (.int x7), some (.int x8), none]) (st' := [.int (I 65 x5.toNatClampNeg)]) (h' := zH I P) rfl c33 ?_
        refine wp_blk (pc' := 102) (L' := [some (.ref 63), some (.int x1), some (.int x2), some (.int x3), some (.int x4), some (.int x5), some (.int x6), some (.int x7), some (.int x8), none]) (st' := [.int 2, .int (I 65 x5.toNatClampNeg)]) (h' := zH I P) 1 rfl ?_
        refine wp_eq (a := I 65 x5.toNatClampNeg) (b := 2) (s1 := (174, [some (.ref 63), some (.int x1), some (.int x2), some (.int x3), some (.int x4), some (.int x5), some (.int x6), some (.int x7), some (.int x8), none], [], zH I P)) (s2 := (105, [some (.ref 63), some (.int x1), some (.int x2), some (.int x3), some (.int x4), some (.int x5), some (.int x6), some (.int x7), some (.int x8), none], [], zH I P)) rfl (fun c34 => ?_) (fun c34 => ?_)
        · rw [if_pos c34] at hx
          refine wp_blk (pc' := 180) (L' := [some (.ref 63), some (.int x1), some (.int x2), some (.int x3), some (.int x4), some (.int x5), some (.int x6), some (.int x7), some (.int x8), none]) (st' := [.int x5, .ref 65]) (h' := zH I P) 3 rfl ?_
          obtain ⟨c35, hx⟩ := zite hx
          refine wp_chk (P := zinb x5 6 = true) (pc' := 181) (L' := [some (.ref 63), some (.int x1), some (.int x2), some (.int x3), some (.int x4), some (.int x5), some (.int x6), some (.int x7), some (.int x8), none]) (st' := [.int (I 65 x5.toNatClampNeg)]) (h' := zH I P) rfl c35 ?_
          refine wp_blk (pc' := 182) (L' := [some (.ref 63), some (.int x1), some (.int x2), some (.int x3), some (.int x4), some (.int x5), some (.int x6), some (.int x7), some (.int x8), none]) (st' := [.int 1, .int (I 65 x5.toNatClampNeg)]) (h' := zH I P) 1 rfl ?_
          refine wp_ne (a := I 65 x5.toNatClampNeg) (b := 1) (s1 := (189, [some (.ref 63), some (.int x1), some (.int x2), some (.int x3), some (.int x4), some (.int x5), some (.int x6), some (.int x7), some (.int x8), none], [], zH I P)) (s2 := (185, [some (.ref 63), some (.int x1), some (.int x2), some (.int x3), some (.int x4), some (.int x5), some (.int x6), some (.int x7), some (.int x8), none], [], zH I P)) rfl (fun c36 => ?_) (fun c36 => ?_)
          · rw [if_neg c36] at hx
            refine wp_blk (pc' := 195) (L' := [some (.ref 63), some (.int x1), some (.int x2), some (.int x3), some (.int x4), some (.int x5), some (.int x6), some (.int x7), some (.int x8), none]) (st' := [.int x5, .ref 65]) (h' := zH I P) 3 rfl ?_
            obtain ⟨c37, hx⟩ := zite hx
            refine wp_chk (P := zinb x5 6 = true) (pc' := 196) (L' := [some (.ref 63), some (.int x1), some (.int x2), some (.int x3), some (.int x4), some (.int x5), some (.int x6), some (.int x7), some (.int x8), none]) (st' := [.int (I 65 x5.toNatClampNeg)]) (h' := zH I P) rfl c37 ?_
            refine wp_blk (pc' := 197) (L' := [some (.ref 63), some (.int x1), some (.int x2), some (.int x3), some (.int x4), some (.int x5), some (.int x6), some (.int x7), some (.int x8), none]) (st' := [.int 4, .int (I 65 x5.toNatClampNeg)]) (h' := zH I P) 1 rfl ?_
            refine wp_ne (a := I 65 x5.toNatClampNeg) (b := 4) (s1 := (204, [some (.ref 63), some (.int x1), some (.int x2), some (.int x3), some (.int x4), some (.int x5), some (.int x6), some (.int x7), some (.int x8), none], [], zH I P)) (s2 := (200, [some (.ref 63), some (.int x1), some (.int x2), some (.int x3), some (.int x4), some (.int x5), some (.int x6), some (.int x7), some (.int x8), none], [], zH I P)) rfl (fun c38 => ?_) (fun c38 => ?_)
            · rw [if_neg c38] at hx
              refine wp_blk (pc' := 210) (L' := [some (.ref 63), some (.int x1), some (.int x2), some (.int x3), some (.int x4), some (.int x5), some (.int x6), some (.int x7), some (.int 1), none]) (st' := [.int x7, .int x3]) (h' := zH I P) 4 rfl ?_
              refine wp_eq (a := x7) (b := 0) (s1 := (223, [some (.ref 63), some (.int x1), some (.int x2), some (.int x3), some (.int x4), some (.int x5), some (.int x6), some (.int x7), some (.int 1), none], [.int x3], zH I P)) (s2 := (213, [some (.ref 63), some (.int x1), some (.int x2), some (.int x3), some (.int x4), some (.int x5), some (.int x6), some (.int x7), some (.int 1), none], [.int x3], zH I P)) rfl (fun c39 => ?_) (fun c39 => ?_)
              · rw [if_pos c39] at hx
                refine wp_blk (pc' := 232) (L' := [some (.ref 63), some (.int x1), some (.int x2), some (.int (x3 + 0)), some (.int x4), some (.int x5), some (.int x6), some (.int x7), some (.int 1), none]) (st' := [.int x2, .ref 74, .int x2, .ref 74]) (h' := zH I P) 7 rfl ?_
                obtain ⟨c40, hx⟩ := zite hx
                refine wp_chk (P := zinb x2 6 = true) (pc' := 233) (L' := [some (.ref 63), some (.int x1), some (.int x2), some (.int (x3 + 0)), some (.int x4), some (.int x5), some (.int x6), some (.int x7), some (.int 1), none]) (st' := [.int (I 74 x2.toNatClampNeg), .int x2, .ref 74]) (h' := zH I P) rfl c40 ?_
                refine wp_blk (pc' := 235) (L' := [some (.ref 63), some (.int x1), some (.int x2), some (.int (x3 + 0)), some (.int x4), some (.int x5), some (.int x6), some (.int x7), some (.int 1), none]) (st' := [.int x7, .int (I 74 x2.toNatClampNeg), .int x2, .ref 74]) (h' := zH I P) 1 rfl ?_
                refine wp_eq (a := x7) (b := 0) (s1 := (245, [some (.ref 63), some (.int x1), some (.int x2), some (.int (x3 + 0)), some (.int x4), some (.int x5), some (.int x6), some (.int x7), some (.int 1), none], [.int (I 74 x2.toNatClampNeg), .int x2, .ref 74], zH I P)) (s2 := (238, [some (.ref 63), some (.int x1), some (.int x2), some (.int (x3 + 0)), some (.int x4), some (.int x5), some (.int x6), some (.int x7), some (.int 1), none], [.int (I 74 x2.toNatClampNeg), .int x2, .ref 74], zH I P)) rfl (fun c41 => ?_) (fun c41 => ?_)
                · rw [if_pos c41] at hx
                  refine wp_blk (pc' := 247) (L' := [some (.ref 63), some (.int x1), some (.int x2), some (.int (x3 + 0)), some (.int x4), some (.int x5), some (.int x6), some (.int x7), some (.int 1), none]) (st' := [.int ((I 74 x2.toNatClampNeg) ||| 0), .int x2, .ref 74]) (h' := zH I P) 2 rfl ?_
                  obtain ⟨c42, hx⟩ := zite hx
                  refine wp_chk (P := zinb x2 6 = true) (pc' := 248) (L' := [some (.ref 63), some (.int x1), some (.int x2), some (.int (x3 + 0)), some (.int x4), some (.int x5), some (.int x6), some (.int x7), some (.int 1), none]) (st' := []) (h' := zH (zui I 74 x2.toNatClampNeg ((I 74 x2.toNatClampNeg) ||| 0)) P) rfl c42 ?_
                  refine wp_blk (pc' := 21) (L' := [some (.ref 63), some (.int x1), some (.int x2), some (.int (x3 + 0)), some (.int (x4 + 1)), some (.int x5), some (.int x6), some (.int x7), some (.int 1), none]) (st' := []) (h' := zH (zui I 74 x2.toNatClampNeg ((I 74 x2.toNatClampNeg) ||| 0)) P) 2 rfl ?_
                  exact wp_forget (ih.1 _ _ _ _ _ _ _ _ _ _ hx) (zle_c (zle_c (zle_c (zle_c (zle_c (zle_n (zle_n (zle_n (zle_n (zle_n zle_nil))))))))))
                · rw [if_neg c41] at hx
                  refine wp_blk (pc' := 247) (L' := [some (.ref 63), some (.int x1), some (.int x2), some (.int (x3 + 0)), some (.int x4), some (.int x5), some (.int x6), some (.int x7), some (.int 1), none]) (st' := [.int ((I 74 x2.toNatClampNeg) ||| (1 <<< (x5 &&& 31))), .int x2, .ref 74]) (h' := zH I P) 5 rfl ?_
                  obtain ⟨c43, hx⟩ := zite hx
                  refine wp_chk (P := zinb x2 6 = true) (pc' := 248) (L' := [some (.ref 63), some (.int x1), some (.int x2), some (.int (x3 + 0)), some (.int x4), some (.int x5), some (.int x6), some (.int x7), some (.int 1), none]) (st' := []) (h' := zH (zui I 74 x2.toNatClampNeg ((I 74 x2.toNatClampNeg) ||| (1 <<< (x5 &&& 31)))) P) rfl c43 ?_
                  refine wp_blk (pc' := 21) (L' := [some (.ref 63), some (.int x1), some (.int x2), some (.int (x3 + 0)), some (.int (x4 + 1)), some (.int x5), some (.int x6), some (.int x7), some (.int 1), none]) (st' := []) (h' := zH (zui I 74 x2.toNatClampNeg ((I 74 x2.toNatClampNeg) ||| (1 <<< (x5 &&& 31)))) P) 2 rfl ?_
                  exact wp_forget (ih.1 _ _ _ _ _ _ _ _ _ _ hx) (zle_c (zle_c (zle_c (zle_c (zle_c (zle_n (zle_n (zle_n (zle_n (zle_n zle_nil))))))))))
              · rw [if_neg c39] at hx
                refine wp_blk (pc' := 232) (L' := [some (.ref 63), some (.int x1), some (.int x2), some (.int (x3 + (1 * (x6 - 3)))), some (.int x4), some (.int x5), some (.int x6), some (.int x7), some (.int 1), none]) (st' := [.int x2, .ref 74, .int x2, .ref 74]) (h' := zH I P) 12 rfl ?_
                obtain ⟨c44, hx⟩ := zite hx
                refine wp_chk (P := zinb x2 6 = true) (pc' := 233) (L' := [some (.ref 63), some (.int x1), some (.int x2), some (.int (x3 + (1 * (x6 - 3)))), some (.int x4), some (.int x5), some (.int x6), some (.int x7), some (.int 1), none]) (st' := [.int (I 74 x2.toNatClampNeg), .int x2, .ref 74]) (h' := zH I P) rfl c44 ?_
                refine wp_blk (pc' := 235) (L' := [some (.ref 63), some (.int x1), some (.int x2), some (.int (x3 + (1 * (x6 - 3)))), some (.int x4), some (.int x5), some (.int x6), some (.int x7), some (.int 1), none]) (st' := [.int x7, .int (I 74 x2.toNatClampNeg), .int x2, .ref 74]) (h' := zH I P) 1 rfl ?_
                refine wp_eq (a := x7) (b := 0) (s1 := (245, [some (.ref 63), some (.int x1), some (.int x2), some (.int (x3 + (1 * (x6 - 3)))), some (.int x4), some (.int x5), some (.int x6), some (.int x7), some (.int 1), none], [.int (I 74 x2.toNatClampNeg), .int x2, .ref 74], zH I P)) (s2 := (238, [some (.ref 63), some (.int x1), some (.int x2), some (.int (x3 + (1 * (x6 - 3)))), some (.int x4), some (.int x5), some (.int x6), some (.int x7), some (.int 1), none], [.int (I 74 x2.toNatClampNeg), .int x2, .ref 74], zH I P)) rfl (fun c45 => ?_) (fun c45 => ?_)
                · rw [if_pos c45] at hx
                  refine wp_blk (pc' := 247) (L' := [some (.ref 63), some (.int x1), some (.int x2), some (.int (x3 + (1 * (x6 - 3)))), some (.int x4), some (.int x5), some (.int x6), some (.int x7), some (.int 1), none]) (st' := [.int ((I 74 x2.toNatClampNeg) ||| 0), .int x2, .ref 74]) (h' := zH I P) 2 rfl ?_
                  obtain ⟨c46, hx⟩ := zite hx
                  refine wp_chk (P := zinb x2 6 = true) (pc' := 248) (L' := [some (.ref 63), some (.int x1), some (.int x2), some (.int (x3 + (1 * (x6 - 3)))), some (.int x4), some (.int x5), some (.int x6), some (.int x7), some (.int 1), none]) (st' := []) (h' := zH (zui I 74 x2.toNatClampNeg ((I 74 x2.toNatClampNeg) ||| 0)) P) rfl c46 ?_
                  refine wp_blk (pc' := 21) (L' := [some (.ref 63), some (.int x1), some (.int x2), some (.int (x3 + (1 * (x6 - 3)))), some (.int (x4 + 1)), some (.int x5), some (.int x6), some (.int x7), some (.int 1), none]) (st' := []) (h' := zH (zui I 74 x2.toNatClampNeg ((I 74 x2.toNatClampNeg) ||| 0)) P) 2 rfl ?_
                  exact wp_forget (ih.1 _ _ _ _ _ _ _ _ _ _ hx) (zle_c (zle_c (zle_c (zle_c (zle_c (zle_n (zle_n (zle_n (zle_n (zle_n zle_nil))))))))))
                · rw [if_neg c45] at hx
                  refine wp_blk (pc' := 247) (L' := [some (.ref 63), some (.int x1), some (.int x2), some (.int (x3 + (1 * (x6 - 3)))), some (.int x4), some (.int x5), some (.int x6), some (.int x7), some (.int 1), none]) (st' := [.int ((I 74 x2.toNatClampNeg) ||| (1 <<< (x5 &&& 31))), .int x2, .ref 74]) (h' := zH I P) 5 rfl ?_
                  obtain ⟨c47, hx⟩ := zite hx
                  refine wp_chk (P := zinb x2 6 = true) (pc' := 248) (L' := [some (.ref 63), some (.int x1), some (.int x2), some (.int (x3 + (1 * (x6 - 3)))), some (.int x4), some (.int x5), some (.int x6), some (.int x7), some (.int 1), none]) (st' := []) (h' := zH (zui I 74 x2.toNatClampNeg ((I 74 x2.toNatClampNeg) ||| (1 <<< (x5 &&& 31)))) P) rfl c47 ?_
                  refine wp_blk (pc' := 21) (L' := [some (.ref 63), some (.int x1), some (.int x2), some (.int (x3 + (1 * (x6 - 3)))), some (.int (x4 + 1)), some (.int x5), some (.int x6), some (.int x7), some (.int 1), none]) (st' := []) (h' := zH (zui I 74 x2.toNatClampNeg ((I 74 x2.toNatClampNeg) ||| (1 <<< (x5 &&& 31)))) P) 2 rfl ?_
                  exact wp_forget (ih.1 _ _ _ _ _ _ _ _ _ _ hx) (zle_c (zle_c (zle_c (zle_c (zle_c (zle_n (zle_n (zle_n (zle_n (zle_n zle_nil))))))))))
            · rw [if_pos c38] at hx
              refine wp_blk (pc' := 210) (L' := [some (.ref 63), some (.int x1), some (.int x2), some (.int x3), some (.int x4), some (.int x5), some (.int x6), some (.int x7), some (.int (-1)), none]) (st' := [.int x7, .int x3]) (h' := zH I P) 5 rfl ?_
              refine wp_eq (a := x7) (b := 0) (s1 := (223, [some (.ref 63), some (.int x1), some (.int x2), some (.int x3), some (.int x4), some (.int x5), some (.int x6), some (.int x7), some (.int (-1)), none], [.int x3], zH I P)) (s2 := (213, [some (.ref 63), some (.int x1), some (.int x2), some (.int x3), some (.int x4), some (.int x5), some (.int x6), some (.int x7), some (.int (-1)), none], [.int x3], zH I P)) rfl (fun c48 => ?_) (fun c48 => ?_)
              · rw [if_pos c48] at hx
                refine wp_blk (pc' := 232) (L' := [some (.ref 63), some (.int x1), some (.int x2), some (.int (x3 + 0)), some (.int x4), some (.int x5), some (.int x6), some (.int x7), some (.int (-1)), none]) (st' := [.int x2, .ref 74, .int x2, .ref 74]) (h' := zH I P) 7 rfl ?_
                obtain ⟨c49, hx⟩ := zite hx
                refine wp_chk (P := zinb x2 6 = true) (pc' := 233) (L' := [some (.ref 63), some (.int x1), some (.int x2), some (.int (x3 + 0)), some (.int x4), some (.int x5), some (.int x6), some (.int x7), some (.int (-1)), none]) (st' := [.int (I 74 x2.toNatClampNeg), .int x2, .ref 74]) (h' := zH I P) rfl c49 ?_
                refine wp_blk (pc' := 235) (L' := [some (.ref 63), some (.int x1), some (.int x2), some (.int (x3 + 0)), some (.int x4), some (.int x5), some (.int x6), some (.int x7), some (.int (-1)), none]) (st' := [.int x7, .int (I 74 x2.toNatClampNeg), .int x2, .ref 74]) (h' := zH I P) 1 rfl ?_
                refine wp_eq (a := x7) (b := 0) (s1 := (245, [some (.ref 63), some (.int x1), some (.int x2), some (.int (x3 + 0)), some (.int x4), some (.int x5), some (.int x6), some (.int x7), some (.int (-1)), none], [.int (I 74 x2.toNatClampNeg), .int x2, .ref 74], zH I P)) (s2 := (238, [some (.ref 63), some (.int x1), some (.int x2), some (.int (x3 + 0)), some (.int x4), some (.int x5), some (.int x6), some (.int x7), some (.int (-1)), none], [.int (I 74 x2.toNatClampNeg), .int x2, .ref 74], zH I P)) rfl (fun c50 => ?_) (fun c50 => ?_)
                · rw [if_pos c50] at hx
                  refine wp_blk (pc' := 247) (L' := [some (.ref 63), some (.int x1), some (.int x2), some (.int (x3 + 0)), some (.int x4), some (.int x5), some (.int x6), some (.int x7), some (.int (-1)), none]) (st' := [.int ((I 74 x2.toNatClampNeg) ||| 0), .int x2, .ref 74]) (h' := zH I P) 2 rfl ?_
                  obtain ⟨c51, hx⟩ := zite hx
                  refine wp_chk (P := zinb x2 6 = true) (pc' := 248) (L' := [some (.ref 63), some (.int x1), some (.int x2), some (.int (x3 + 0)), some (.int x4), some (.int x5), some (.int x6), some (.int x7), some (.int (-1)), none]) (st' := []) (h' := zH (zui I 74 x2.toNatClampNeg ((I 74 x2.toNatClampNeg) ||| 0)) P) rfl c51 ?_
                  refine wp_blk (pc' := 21) (L' := [some (.ref 63), some (.int x1), some (.int x2), some (.int (x3 + 0)), some (.int (x4 + 1)), some (.int x5), some (.int x6), some (.int x7), some (.int (-1)), none]) (st' := []) (h' := zH (zui I 74 x2.toNatClampNeg ((I 74 x2.toNatClampNeg) ||| 0)) P) 2 rfl ?_
                  exact wp_forget (ih.1 _ _ _ _ _ _ _ _ _ _ hx) (zle_c (zle_c (zle_c (zle_c (zle_c (zle_n (zle_n (zle_n (zle_n (zle_n zle_nil))))))))))
                · rw [if_neg c50] at hx
                  refine wp_blk (pc' := 247) (L' := [some (.ref 63), some (.int x1), some (.int x2), some (.int (x3 + 0)), some (.int x4), some (.int x5), some (.int x6), some (.int x7), some (.int (-1)), none]) (st' := [.int ((I 74 x2.toNatClampNeg) ||| (1 <<< (x5 &&& 31))), .int x2, .ref 74]) (h' := zH I P) 5 rfl ?_
                  obtain ⟨c52, hx⟩ := zite hx
                  refine wp_chk (P := zinb x2 6 = true) (pc' := 248) (L' := [some (.ref 63), some (.int x1), some (.int x2), some (.int (x3 + 0)), some (.int x4), some (.int x5), some (.int x6), some (.int x7), some (.int (-1)), none]) (st' := []) (h' := zH (zui I 74 x2.toNatClampNeg ((I 74 x2.toNatClampNeg) ||| (1 <<< (x5 &&& 31)))) P) rfl c52 ?_
                  refine wp_blk (pc' := 21) (L' := [some (.ref 63), some (.int x1), some (.int x2), some (.int (x3 + 0)), some (.int (x4 + 1)), some (.int x5), some (.int x6), some (.int x7), some (.int (-1)), none]) (st' := []) (h' := zH (zui I 74 x2.toNatClampNeg ((I 74 x2.toNatClampNeg) ||| (1 <<< (x5 &&& 31)))) P) 2 rfl ?_
                  exact wp_forget (ih.1 _ _ _ _ _ _ _ _ _ _ hx) (zle_c (zle_c (zle_c (zle_c (zle_c (zle_n (zle_n (zle_n (zle_n (zle_n zle_nil))))))))))
              · rw [if_neg c48] at hx
                refine wp_blk (pc' := 232) (L' := [some (.ref 63), some (.int x1), some (.int x2), some (.int (x3 + ((-1) * (x6 - 3)))), some (.int x4), some (.int x5), some (.int x6), some (.int x7), some (.int (-1)), none]) (st' := [.int x2, .ref 74, .int x2, .ref 74]) (h' := zH I P) 12 rfl ?_
                obtain ⟨c53, hx⟩ := zite hx
                refine wp_chk (P := zinb x2 6 = true) (pc' := 233) (L' := [some (.ref 63), some (.int x1), some (.int x2), some (.int (x3 + ((-1) * (x6 - 3)))), some (.int x4), some (.int x5), some (.int x6), some (.int x7), some (.int (-1)), none]) (st' := [.int (I 74 x2.toNatClampNeg), .int x2, .ref 74]) (h' := zH I P) rfl c53 ?_
                refine wp_blk (pc' := 235) (L' := [some (.ref 63), some (.int x1), some (.int x2), some (.int (x3 + ((-1) * (x6 - 3)))), some (.int x4), some (.int x5), some (.int x6), some (.int x7), some (.int (-1)), none]) (st' := [.int x7, .int (I 74 x2.toNatClampNeg), .int x2, .ref 74]) (h' := zH I P) 1 rfl ?_
                refine wp_eq (a := x7) (b := 0) (s1 := (245, [some (.ref 63), some (.int x1), some (.int x2), some (.int (x3 + ((-1) * (x6 - 3)))), some (.int x4), some (.int x5), some (.int x6), some (.int x7), some (.int (-1)), none], [.int (I 74 x2.toNatClampNeg), .int x2, .ref 74], zH I P)) (s2 := (238, [some (.ref 63), some (.int x1), some (.int x2), some (.int (x3 + ((-1) * (x6 - 3)))), some (.int x4), some (.int x5), some (.int x6), some (.int x7), some (.int (-1)), none], [.int (I 74 x2.toNatClampNeg), .int x2, .ref 74], zH I P)) rfl (fun c54 => ?_) (fun c54 => ?_)
                · rw [if_pos c54] at hx
                  refine wp_blk (pc' := 247) (L' := [some (.ref 63), some (.int x1), some (.int x2), some (.int (x3 + ((-1) * (x6 - 3)))), some (.int x4), some (.int x5), some (.int x6), some (.int x7), some (.int (-1)), none]) (st' := [.int ((I 74 x2.toNatClampNeg) ||| 0), .int x2, .ref 74]) (h' := zH I P) 2 rfl ?_
                  obtain ⟨c55, hx⟩ := zite hx
                  refine wp_chk (P := zinb x2 6 = true) (pc' := 248) (L' := [some (.ref 63), some (.int x1), some (.int x2), some (.int (x3 + ((-1) * (x6 - 3)))), some (.int x4), some (.int x5), some (.int x6), some (.int x7), some (.int (-1)), none]) (st' := []) (h' := zH (zui I 74 x2.toNatClampNeg ((I 74 x2.toNatClampNeg) ||| 0)) P) rfl c55 ?_
                  refine wp_blk (pc' := 21) (L' := [some (.ref 63), some (.int x1), some (.int x2), some (.int (x3 + ((-1) * (x6 - 3)))), some (.int (x4 + 1)), some (.int x5), some (.int x6), some (.int x7), some (.int (-1)), none]) (st' := []) (h' := zH (zui I 74 x2.toNatClampNeg ((I 74 x2.toNatClampNeg) ||| 0)) P) 2 rfl ?_
                  exact wp_forget (ih.1 _ _ _ _ _ _ _ _ _ _ hx) (zle_c (zle_c (zle_c (zle_c (zle_c (zle_n (zle_n (zle_n (zle_n (zle_n zle_nil))))))))))
                · rw [if_neg c54] at hx
                  refine wp_blk (pc' := 247) (L' := [some (.ref 63), some (.int x1), some (.int x2), some (.int (x3 + ((-1) * (x6 - 3)))), some (.int x4), some (.int x5), some (.int x6), some (.int x7), some (.int (-1)), none]) (st' := [.int ((I 74 x2.toNatClampNeg) ||| (1 <<< (x5 &&& 31))), .int x2, .ref 74]) (h' := zH I P) 5 rfl ?_
                  obtain ⟨c56, hx⟩ := zite hx
                  refine wp_chk (P := zinb x2 6 = true) (pc' := 248) (L' := [some (.ref 63), some (.int x1), some (.int x2), some (.int (x3 + ((-1) * (x6 - 3)))), some (.int x4), some (.int x5), some (.int x6), some (.int x7), some (.int (-1)), none]) (st' := []) (h' := zH (zui I 74 x2.toNatClampNeg ((I 74 x2.toNatClampNeg) ||| (1 <<< (x5 &&& 31)))) P) rfl c56 ?_
                  refine wp_blk (pc' := 21) (L' := [some (.ref 63), some (.int x1), some (.int x2), some (.int (x3 + ((-1) * (x6 - 3)))), some (.int (x4 + 1)), some (.int x5), some (.int x6), some (.int x7), some (.int (-1)), none]) (st' := []) (h' := zH (zui I 74 x2.toNatClampNeg ((I 74 x2.toNatClampNeg) ||| (1 <<< (x5 &&& 31)))) P) 2 rfl ?_
                  exact wp_forget (ih.1 _ _ _ _ _ _ _ _ _ _ hx) (zle_c (zle_c (zle_c (zle_c (zle_c (zle_n (zle_n (zle_n (zle_n (zle_n zle_nil))))))))))
          · rw [if_pos c36] at hx
            refine wp_blk (pc' := 210) (L' := [some (.ref 63), some (.int x1), some (.int x2), some (.int x3), some (.int x4), some (.int x5), some (.int x6), some (.int x7), some (.int 2), none]) (st' := [.int x7, .int x3]) (h' := zH I P) 5 rfl ?_
            refine wp_eq (a := x7) (b := 0) (s1 := (223, [some (.ref 63), some (.int x1), some (.int x2), some (.int x3), some (.int x4), some (.int x5), some (.int x6), some (.int x7), some (.int 2), none], [.int x3], zH I P)) (s2 := (213, [some (.ref 63), some (.int x1), some (.int x2), some (.int x3), some (.int x4), some (.int x5), some (.int x6), some (.int x7), some (.int 2), none], [.int x3], zH I P)) rfl (fun c57 => ?_) (fun c57 => ?_)
            · rw [if_pos c57] at hx
              refine wp_blk (pc' := 232) (L' := [some (.ref 63), some (.int x1), some (.int x2), some (.int (x3 + 0)), some (.int x4), some (.int x5), some (.int x6), some (.int x7), some (.int 2), none]) (st' := [.int x2, .ref 74, .int x2, .ref 74]) (h' := zH I P) 7 rfl ?_
              obtain ⟨c58, hx⟩ := zite hx
              refine wp_chk (P := zinb x2 6 = true) (pc' := 233) (L' := [some (.ref 63), some (.int x1), some (.int x2), some (.int (x3 + 0)), some (.int x4), some (.int x5), some (.int x6), some (.int x7), some (.int 2), none]) (st' := [.int (I 74 x2.toNatClampNeg), .int x2, .ref 74]) (h' := zH I P) rfl c58 ?_
              refine wp_blk (pc' := 235) (L' := [some (.ref 63), some (.int x1), some (.int x2), some (.int (x3 + 0)), some (.int x4), some (.int x5), some (.int x6), some (.int x7), some (.int 2), none]) (st' := [.int x7, .int (I 74 x2.toNatClampNeg), .int x2, .ref 74]) (h' := zH I P) 1 rfl ?_
              refine wp_eq (a := x7) (b := 0) (s1 := (245, [some (.ref 63), some (.int x1), some (.int x2), some (.int (x3 + 0)), some (.int x4), some (.int x5), some (.int x6), some (.int x7), some (.int 2), none], [.int (I 74 x2.toNatClampNeg), .int x2, .ref 74], zH I P)) (s2 := (238, [some (.ref 63), some (.int x1), some (.int x2), some (.int (x3 + 0)), some (.int x4), some (.int x5), some (.int x6), some (.int x7), some (.int 2), none], [.int (I 74 x2.toNatClampNeg), .int x2, .ref 74], zH I P)) rfl (fun c59 => ?_) (fun c59 => ?_)
              · rw [if_pos c59] at hx
                refine wp_blk (pc' := 247) (L' := [some (.ref 63), some (.int x1), some (.int x2), some (.int (x3 + 0)), some (.int x4), some (.int x5), some (.int x6), some (.int x7), some (.int 2), none]) (st' := [.int ((I 74 x2.toNatClampNeg) ||| 0), .int x2, .ref 74]) (h' := zH I P) 2 rfl ?_
                obtain ⟨c60, hx⟩ := zite hx
                refine wp_chk (P := zinb x2 6 = true) (pc' := 248) (L' := [some (.ref 63), some (.int x1), some (.int x2), some (.int (x3 + 0)), some (.int x4), some (.int x5), some (.int x6), some (.int x7), some (.int 2), none]) (st' := []) (h' := zH (zui I 74 x2.toNatClampNeg ((I 74 x2.toNatClampNeg) ||| 0)) P) rfl c60 ?_
                refine wp_blk (pc' := 21) (L' := [some (.ref 63), some (.int x1), some (.int x2), some (.int (x3 + 0)), some (.int (x4 + 1)), some (.int x5), some (.int x6), some (.int x7), some (.int 2), none]) (st' := []) (h' := zH (zui I 74 x2.toNatClampNeg ((I 74 x2.toNatClampNeg) ||| 0)) P) 2 rfl ?_
                exact wp_forget (ih.1 _ _ _ _ _ _ _ _ _ _ hx) (zle_c (zle_c (zle_c (zle_c (zle_c (zle_n (zle_n (zle_n (zle_n (zle_n zle_nil))))))))))
              · rw [if_neg c59] at hx
                refine wp_blk (pc' := 247) (L' := [some (.ref 63), some (.int x1), some (.int x2), some (.int (x3 + 0)), some (.int x4), some (.int x5), some (.int x6), some (.int x7), some (.int 2), none]) (st' := [.int ((I 74 x2.toNatClampNeg) ||| (1 <<< (x5 &&& 31))), .int x2, .ref 74]) (h' := zH I P) 5 rfl ?_
                obtain ⟨c61, hx⟩ := zite hx
                refine wp_chk (P := zinb x2 6 = true) (pc' := 248) (L' := [some (.ref 63), some (.int x1), some (.int x2), some (.int (x3 + 0)), some (.int x4), some (.int x5), some (.int x6), some (.int x7), some (.int 2), none]) (st' := []) (h' := zH (zui I 74 x2.toNatClampNeg ((I 74 x2.toNatClampNeg) ||| (1 <<< (x5 &&& 31)))) P) rfl c61 ?_
                refine wp_blk (pc' := 21) (L' := [some (.ref 63), some (.int x1), some (.int x2), some (.int (x3 + 0)), some (.int (x4 + 1)), some (.int x5), some (.int x6), some (.int x7), some (.int 2), none]) (st' := []) (h' := zH (zui I 74 x2.toNatClampNeg ((I 74 x2.toNatClampNeg) ||| (1 <<< (x5 &&& 31)))) P) 2 rfl ?_
                exact wp_forget (ih.1 _ _ _ _ _ _ _ _ _ _ hx) (zle_c (zle_c (zle_c (zle_c (zle_c (zle_n (zle_n (zle_n (zle_n (zle_n zle_nil))))))))))
            · rw [if_neg c57] at hx
              refine wp_blk (pc' := 232) (L' := [some (.ref 63), some (.int x1), some (.int x2), some (.int (x3 + (2 * (x6 - 3)))), some (.int x4), some (.int x5), some (.int x6), some (.int x7), some (.int 2), none]) (st' := [.int x2, .ref 74, .int x2, .ref 74]) (h' := zH I P) 12 rfl ?_
              obtain ⟨c62, hx⟩ := zite hx
              refine wp_chk (P := zinb x2 6 = true) (pc' := 233) (L' := [some (.ref 63), some (.int x1), some (.int x2), some (.int (x3 + (2 * (x6 - 3)))), some (.int x4), some (.int x5), some (.int x6), some (.int x7), some (.int 2), none]) (st' := [.int (I 74 x2.toNatClampNeg), .int x2, .ref 74]) (h' := zH I P) rfl c62 ?_
              refine wp_blk (pc' := 235) (L' := [some (.ref 63), some (.int x1), some (.int x2), some (.int (x3 + (2 * (x6 - 3)))), some (.int x4), some (.int x5), some (.int x6), some (.int x7), some (.int 2), none]) (st' := [.int x7, .int (I 74 x2.toNatClampNeg), .int x2, .ref 74]) (h' := zH I P) 1 rfl ?_
              refine wp_eq (a := x7) (b := 0) (s1 := (245, [some (.ref 63), some (.int x1), some (.int x2), some (.int (x3 + (2 * (x6 - 3)))), some (.int x4), some (.int x5), some (.int x6), some (.int x7), some (.int 2), none], [.int (I 74 x2.toNatClampNeg), .int x2, .ref 74], zH I P)) (s2 := (238, [some (.ref 63), some (.int x1), some (.int x2), some (.int (x3 + (2 * (x6 - 3)))), some (.int x4), some (.int x5), some (.int x6), some (.int x7), some (.int 2), none], [.int (I 74 x2.toNatClampNeg), .int x2, .ref 74], zH I P)) rfl (fun c63 => ?_) (fun c63 => ?_)
              · rw [if_pos c63] at hx
                refine wp_blk (pc' := 247) (L' := [some (.ref 63), some (.int x1), some (.int x2), some (.int (x3 + (2 * (x6 - 3)))), some (.int x4), some (.int x5), some (.int x6), some (.int x7), some (.int 2), none]) (st' := [.int ((I 74 x2.toNatClampNeg) ||| 0), .int x2, .ref 74]) (h' := zH I P) 2 rfl ?_
                obtain ⟨c64, hx⟩ := zite hx
                refine wp_chk (P := zinb x2 6 = true) (pc' := 248) (L' := [some (.ref 63), some (.int x1), some (.int x2), some (.int (x3 + (2 * (x6 - 3)))), some (.int x4), some (.int x5), some (.int x6), some (.int x7), some (.int 2), none]) (st' := []) (h' := zH (zui I 74 x2.toNatClampNeg ((I 74 x2.toNatClampNeg) ||| 0)) P) rfl c64 ?_
                refine wp_blk (pc' := 21) (L' := [some (.ref 63), some (.int x1), some (.int x2), some (.int (x3 + (2 * (x6 - 3)))), some (.int (x4 + 1)), some (.int x5), some (.int x6), some (.int x7), some (.int 2), none]) (st' := []) (h' := zH (zui I 74 x2.toNatClampNeg ((I 74 x2.toNatClampNeg) ||| 0)) P) 2 rfl ?_
                exact wp_forget (ih.1 _ _ _ _ _ _ _ _ _ _ hx) (zle_c (zle_c (zle_c (zle_c (zle_c (zle_n (zle_n (zle_n (zle_n (zle_n zle_nil))))))))))
              · rw [if_neg c63] at hx
                refine wp_blk (pc' := 247) (L' := [some (.ref 63), some (.int x1), some (.int x2), some (.int (x3 + (2 * (x6 - 3)))), some (.int x4), some (.int x5), some (.int x6), some (.int x7), some (.int 2), none]) (st' := [.int ((I 74 x2.toNatClampNeg) ||| (1 <<< (x5 &&& 31))), .int x2, .ref 74]) (h' := zH I P) 5 rfl ?_
                obtain ⟨c65, hx⟩ := zite hx
                refine wp_chk (P := zinb x2 6 = true) (pc' := 248) (L' := [some (.ref 63), some (.int x1), some (.int x2), some (.int (x3 + (2 * (x6 - 3)))), some (.int x4), some (.int x5), some (.int x6), some (.int x7), some (.int 2), none]) (st' := []) (h' := zH (zui I 74 x2.toNatClampNeg ((I 74 x2.toNatClampNeg) ||| (1 <<< (x5 &&& 31)))) P) rfl c65 ?_
                refine wp_blk (pc' := 21) (L' := [some (.ref 63), some (.int x1), some (.int x2), some (.int (x3 + (2 * (x6 - 3)))), some (.int (x4 + 1)), some (.int x5), some (.int x6), some (.int x7), some (.int 2), none]) (st' := []) (h' := zH (zui I 74 x2.toNatClampNeg ((I 74 x2.toNatClampNeg) ||| (1 <<< (x5 &&& 31)))) P) 2 rfl ?_
                exact wp_forget (ih.1 _ _ _ _ _ _ _ _ _ _ hx) (zle_c (zle_c (zle_c (zle_c (zle_c (zle_n (zle_n (zle_n (zle_n (zle_n zle_nil))))))))))
        · rw [if_neg c34] at hx
          refine wp_blk (pc' := 111) (L' := [some (.ref 63), some (.int x1), some (.int x2), some (.int x3), some (.int x4), some (.int x5), some (.int x6), some (.int x7), some (.int x8), none]) (st' := [.int x8, .ref 72]) (h' := zH I P) 3 rfl ?_
          obtain ⟨c66, hx⟩ := zite hx
          refine wp_chk (P := zinb x8 6 = true) (pc' := 112) (L' := [some (.ref 63), some (.int x1), some (.int x2), some (.int x3), some (.int x4), some (.int x5), some (.int x6), some (.int x7), some (.int x8), none]) (st' := [.int (I 72 x8.toNatClampNeg)]) (h' := zH I P) rfl c66 ?_
          refine wp_blk (pc' := 116) (L' := [some (.ref 63), some (.int x1), some (.int x2), some (.int x3), some (.int x4), some (.int x5), some (.int x6), some (.int x7), some (.int x8), some (.int (I 72 x8.toNatClampNeg))]) (st' := [.int x7]) (h' := zH I P) 2 rfl ?_
          refine wp_eq (a := x7) (b := 0) (s1 := (165, [some (.ref 63), some (.int x1), some (.int x2), some (.int x3), some (.int x4), some (.int x5), some (.int x6), some (.int x7), some (.int x8), some (.int (I 72 x8.toNatClampNeg))], [], zH I P)) (s2 := (119, [some (.ref 63), some (.int x1), some (.int x2), some (.int x3), some (.int x4), some (.int x5), some (.int x6), some (.int x7), some (.int x8), some (.int (I 72 x8.toNatClampNeg))], [], zH I P)) rfl (fun c67 => ?_) (fun c67 => ?_)
          · rw [if_pos c67] at hx
            refine wp_blk (pc' := 87) (L' := [some (.ref 63), some (.int x1), some (.int x2), some (.int x3), some (.int x4), some (.int x5), some (.int x6), some (.int 0), some (.int (x8 + 1)), some (.int (I 72 x8.toNatClampNeg))]) (st' := []) (h' := zH I P) 4 rfl ?_
            exact wp_forget (ih.2 _ _ _ _ _ _ _ _ _ _ hx) (zle_c (zle_c (zle_c (zle_c (zle_c (zle_c (zle_c (zle_c (zle_c (zle_n zle_nil))))))))))
          · rw [if_neg c67] at hx
            refine wp_blk (pc' := 125) (L' := [some (.ref 63), some (.int x1), some (.int x2), some (.int x3), some (.int x4), some (.int x5), some (.int x6), some (.int x7), some (.int x8), some (.int (I 72 x8.toNatClampNeg))]) (st' := [.int (I 72 x8.toNatClampNeg), .ref 65]) (h' := zH I P) 3 rfl ?_
            obtain ⟨c68, hx⟩ := zite hx
            refine wp_chk (P := zinb (I 72 x8.toNatClampNeg) 6 = true) (pc' := 126) (L' := [some (.ref 63), some (.int x1), some (.int x2), some (.int x3), some (.int x4), some (.int x5), some (.int x6), some (.int x7), some (.int x8), some (.int (I 72 x8.toNatClampNeg))]) (st' := [.int (I 65 ((I 72 x8.toNatClampNeg).toNatClampNeg))]) (h' := zH I P) rfl c68 ?_
            refine wp_blk (pc' := 127) (L' := [some (.ref 63), some (.int x1), some (.int x2), some (.int x3), some (.int x4), some (.int x5), some (.int x6), some (.int x7), some (.int x8), some (.int (I 72 x8.toNatClampNeg))]) (st' := [.int 2, .int (I 65 ((I 72 x8.toNatClampNeg).toNatClampNeg))]) (h' := zH I P) 1 rfl ?_
            refine wp_eq (a := I 65 ((I 72 x8.toNatClampNeg).toNatClampNeg)) (b := 2) (s1 := (161, [some (.ref 63), some (.int x1), some (.int x2), some (.int x3), some (.int x4), some (.int x5), some (.int x6), some (.int x7), some (.int x8), some (.int (I 72 x8.toNatClampNeg))], [], zH I P)) (s2 := (130, [some (.ref 63), some (.int x1), some (.int x2), some (.int x3), some (.int x4), some (.int x5), some (.int x6), some (.int x7), some (.int x8), some (.int (I 72 x8.toNatClampNeg))], [], zH I P)) rfl (fun c69 => ?_) (fun c69 => ?_)
            · rw [if_pos c69] at hx
              refine wp_blk (pc' := 87) (L' := [some (.ref 63), some (.int x1), some (.int x2), some (.int x3), some (.int x4), some (.int x5), some (.int x6), some (.int 1), some (.int (x8 + 1)), some (.int (I 72 x8.toNatClampNeg))]) (st' := []) (h' := zH I P) 5 rfl ?_
              exact wp_forget (ih.2 _ _ _ _ _ _ _ _ _ _ hx) (zle_c (zle_c (zle_c (zle_c (zle_c (zle_c (zle_c (zle_c (zle_c (zle_n zle_nil))))))))))
            · rw [if_neg c69] at hx
              refine wp_blk (pc' := 136) (L' := [some (.ref 63), some (.int x1), some (.int x2), some (.int x3), some (.int x4), some (.int x5), some (.int x6), some (.int x7), some (.int x8), some (.int (I 72 x8.toNatClampNeg))]) (st' := [.int (I 72 x8.toNatClampNeg), .ref 65]) (h' := zH I P) 3 rfl ?_
              obtain ⟨c70, hx⟩ := zite hx
              refine wp_chk (P := zinb (I 72 x8.toNatClampNeg) 6 = true) (pc' := 137) (L' := [some (.ref 63), some (.int x1), some (.int x2), some (.int x3), some (.int x4), some (.int x5), some (.int x6), some (.int x7), some (.int x8), some (.int (I 72 x8.toNatClampNeg))]) (st' := [.int (I 65 ((I 72 x8.toNatClampNeg).toNatClampNeg))]) (h' := zH I P) rfl c70 ?_
              refine wp_blk (pc' := 138) (L' := [some (.ref 63), some (.int x1), some (.int x2), some (.int x3), some (.int x4), some (.int x5), some (.int x6), some (.int x7), some (.int x8), some (.int (I 72 x8.toNatClampNeg))]) (st' := [.int 3, .int (I 65 ((I 72 x8.toNatClampNeg).toNatClampNeg))]) (h' := zH I P) 1 rfl ?_
              refine wp_eq (a := I 65 ((I 72 x8.toNatClampNeg).toNatClampNeg)) (b := 3) (s1 := (161, [some (.ref 63), some (.int x1), some (.int x2), some (.int x3), some (.int x4), some (.int x5), some (.int x6), some (.int x7), some (.int x8), some (.int (I 72 x8.toNatClampNeg))], [], zH I P)) (s2 := (141, [some (.ref 63), some (.int x1), some (.int x2), some (.int x3), some (.int x4), some (.int x5), some (.int x6), some (.int x7), some (.int x8), some (.int (I 72 x8.toNatClampNeg))], [], zH I P)) rfl (fun c71 => ?_) (fun c71 => ?_)
              · rw [if_pos c71] at hx
                refine wp_blk (pc' := 87) (L' := [some (.ref 63), some (.int x1), some (.int x2), some (.int x3), some (.int x4), some (.int x5), some (.int x6), some (.int 1), some (.int (x8 + 1)), some (.int (I 72 x8.toNatClampNeg))]) (st' := []) (h' := zH I P) 5 rfl ?_
                exact wp_forget (ih.2 _ _ _ _ _ _ _ _ _ _ hx) (zle_c (zle_c (zle_c (zle_c (zle_c (zle_c (zle_c (zle_c (zle_c (zle_n zle_nil))))))))))
              · rw [if_neg c71] at hx
                refine wp_blk (pc' := 155) (L' := [some (.ref 63), some (.int x1), some (.int x2), some (.int x3), some (.int x4), some (.int x5), some (.int x6), some (.int x7), some (.int x8), some (.int (I 72 x8.toNatClampNeg))]) (st' := [.int ((6 + (6 * (I 72 x8.toNatClampNeg))) + x2), .ref 68]) (h' := zH I P) 9 rfl ?_
                obtain ⟨c72, hx⟩ := zite hx
                refine wp_chk (P := zinb ((6 + (6 * (I 72 x8.toNatClampNeg))) + x2) 45 = true) (pc' := 156) (L' := [some (.ref 63), some (.int x1), some (.int x2), some (.int x3), some (.int x4), some (.int x5), some (.int x6), some (.int x7), some (.int x8), some (.int (I 72 x8.toNatClampNeg))]) (st' := [.int (I 68 (((6 + (6 * (I 72 x8.toNatClampNeg))) + x2).toNatClampNeg))]) (h' := zH I P) rfl c72 ?_
                refine wp_blk (pc' := 158) (L' := [some (.ref 63), some (.int x1), some (.int x2), some (.int x3), some (.int x4), some (.int x5), some (.int x6), some (.int x7), some (.int x8), some (.int (I 72 x8.toNatClampNeg))]) (st' := [.int x6, .int (I 68 (((6 + (6 * (I 72 x8.toNatClampNeg))) + x2).toNatClampNeg))]) (h' := zH I P) 1 rfl ?_
                refine wp_eq (a := I 68 (((6 + (6 * (I 72 x8.toNatClampNeg))) + x2).toNatClampNeg)) (b := x6) (s1 := (165, [some (.ref 63), some (.int x1), some (.int x2), some (.int x3), some (.int x4), some (.int x5), some (.int x6), some (.int x7), some (.int x8), some (.int (I 72 x8.toNatClampNeg))], [], zH I P)) (s2 := (161, [some (.ref 63), some (.int x1), some (.int x2), some (.int x3), some (.int x4), some (.int x5), some (.int x6), some (.int x7), some (.int x8), some (.int (I 72 x8.toNatClampNeg))], [], zH I P)) rfl (fun c73 => ?_) (fun c73 => ?_)
                · rw [if_pos c73] at hx
                  refine wp_blk (pc' := 87) (L' := [some (.ref 63), some (.int x1), some (.int x2), some (.int x3), some (.int x4), some (.int x5), some (.int x6), some (.int 0), some (.int (x8 + 1)), some (.int (I 72 x8.toNatClampNeg))]) (st' := []) (h' := zH I P) 4 rfl ?_
                  exact wp_forget (ih.2 _ _ _ _ _ _ _ _ _ _ hx) (zle_c (zle_c (zle_c (zle_c (zle_c (zle_c (zle_c (zle_c (zle_c (zle_n zle_nil))))))))))
                · rw [if_neg c73] at hx
                  refine wp_blk (pc' := 87) (L' := [some (.ref 63), some (.int x1), some (.int x2), some (.int x3), some (.int x4), some (.int x5), some (.int x6), some (.int 1), some (.int (x8 + 1)), some (.int (I 72 x8.toNatClampNeg))]) (st' := []) (h' := zH I P) 5 rfl ?_
                  exact wp_forget (ih.2 _ _ _ _ _ _ _ _ _ _ hx) (zle_c (zle_c (zle_c (zle_c (zle_c (zle_c (zle_c (zle_c (zle_c (zle_n zle_nil))))))))))
set_option maxRecDepth 100000 in
theorem xp_D_counts {X : Nat × (Nat → Int32)} (I : Nat → Nat → Int32) (P : Nat → Nat → Option Nat) (p : Int32) (r : Int32 × (Nat → Nat → Int32)) (hx : x_D_counts I p = some r) : Wf X 142 [some (.ref 63), some (.int p), none, none, none, none, none, none, none, none] (zH I P) (some (.int r.1)) (zH r.2 P) := by
  unfold Wf
  unfold x_D_counts at hx
  refine wp_blk (pc' := 5) (L' := [some (.ref 63), some (.int p), none, none, none, none, none, none, none, none]) (st' := [.int p, .ref 72]) (h' := zH I P) 3 rfl ?_
  obtain ⟨c1, hx⟩ := zite hx
  refine wp_chk (P := zinb p 6 = true) (pc' := 6) (L' := [some (.ref 63), some (.int p), none, none, none, none, none, none, none, none]) (st' := [.int (I 72 p.toNatClampNeg)]) (h' := zH I P) rfl c1 ?_
  refine wp_blk (pc' := 15) (L' := [some (.ref 63), some (.int p), some (.int (I 72 p.toNatClampNeg)), some (.int 0), none, none, none, none, none, none]) (st' := [.int 0, .int (I 72 p.toNatClampNeg), .ref 74]) (h' := zH I P) 7 rfl ?_
  obtain ⟨c2, hx⟩ := zite hx
  refine wp_chk (P := zinb (I 72 p.toNatClampNeg) 6 = true) (pc' := 16) (L' := [some (.ref 63), some (.int p), some (.int (I 72 p.toNatClampNeg)), some (.int 0), none, none, none, none, none, none]) (st' := []) (h' := zH (zui I 74 ((I 72 p.toNatClampNeg).toNatClampNeg) 0) P) rfl c2 ?_
  refine wp_blk (pc' := 21) (L' := [some (.ref 63), some (.int p), some (.int (I 72 p.toNatClampNeg)), some (.int 0), some (.int (p + 1)), none, none, none, none, none]) (st' := []) (h' := zH (zui I 74 ((I 72 p.toNatClampNeg).toNatClampNeg) 0) P) 4 rfl ?_
  exact (lp_D_counts P _).1 _ _ _ _ _ _ _ _ _ _ hx
def l_D_grinds_34 : Nat → (Nat → Nat → Int32) → Int32 → Int32 → Option (Int32 × (Nat → Nat → Int32))
  | 0, _, _, _ => none
  | n + 1, I, x1, x2 => if I 63 16 ≤ x2 then (some (0, I)) else (if zinb x2 6 = true then (if I 72 x2.toNatClampNeg = x1 then (l_D_grinds_34 n I x1 (x2 + 1)) else ((x_D_counts I x2).bind (fun q1 => if 0 ≤ (I 63 19) + q1.1 then (if (I 63 19) + q1.1 ≤ 9 then (if zinb x2 6 = true then (if zinb (q1.2 72 x2.toNatClampNeg) 6 = true then (if (I 63 19) + q1.1 ≤ q1.2 63 19 then (if q1.2 63 19 ≤ (I 63 19) + q1.1 then (l_D_grinds_34 n (zui (zui q1.2 73 ((q1.2 72 x2.toNatClampNeg).toNatClampNeg) ((I 63 19) + q1.1)) 63 19 ((q1.2 63 19) + 0)) x1 (x2 + 1)) else (l_D_grinds_34 n (zui (zui q1.2 73 ((q1.2 72 x2.toNatClampNeg).toNatClampNeg) ((I 63 19) + q1.1)) 63 19 ((q1.2 63 19) + (-1))) x1 (x2 + 1))) else (l_D_grinds_34 n (zui (zui q1.2 73 ((q1.2 72 x2.toNatClampNeg).toNatClampNeg) ((I 63 19) + q1.1)) 63 19 ((q1.2 63 19) + 1)) x1 (x2 + 1))) else none) else none) else (if zinb x2 6 = true then (if zinb (q1.2 72 x2.toNatClampNeg) 6 = true then (if 9 ≤ q1.2 63 19 then (if q1.2 63 19 ≤ 9 then (l_D_grinds_34 n (zui (zui q1.2 73 ((q1.2 72 x2.toNatClampNeg).toNatClampNeg) 9) 63 19 ((q1.2 63 19) + 0)) x1 (x2 + 1)) else (l_D_grinds_34 n (zui (zui q1.2 73 ((q1.2 72 x2.toNatClampNeg).toNatClampNeg) 9) 63 19 ((q1.2 63 19) + (-1))) x1 (x2 + 1))) else (l_D_grinds_34 n (zui (zui q1.2 73 ((q1.2 72 x2.toNatClampNeg).toNatClampNeg) 9) 63 19 ((q1.2 63 19) + 1)) x1 (x2 + 1))) else none) else none)) else (if zinb x2 6 = true then (if zinb (q1.2 72 x2.toNatClampNeg) 6 = true then (if 0 ≤ q1.2 63 19 then (if q1.2 63 19 ≤ 0 then (l_D_grinds_34 n (zui (zui q1.2 73 ((q1.2 72 x2.toNatClampNeg).toNatClampNeg) 0) 63 19 ((q1.2 63 19) + 0)) x1 (x2 + 1)) else (l_D_grinds_34 n (zui (zui q1.2 73 ((q1.2 72 x2.toNatClampNeg).toNatClampNeg) 0) 63 19 ((q1.2 63 19) + (-1))) x1 (x2 + 1))) else (l_D_grinds_34 n (zui (zui q1.2 73 ((q1.2 72 x2.toNatClampNeg).toNatClampNeg) 0) 63 19 ((q1.2 63 19) + 1)) x1 (x2 + 1))) else none) else none)))) else none)
def l_D_grinds_13 : Nat → (Nat → Nat → Int32) → Int32 → Int32 → Option (Int32 × (Nat → Nat → Int32))
  | 0, _, _, _ => none
  | n + 1, I, x1, x2 => if 6 ≤ x2 then (l_D_grinds_34 1000 I x1 0) else (if zinb x2 6 = true then (l_D_grinds_13 n (zui I 73 x2.toNatClampNeg (-1)) x1 (x2 + 1)) else none)
def x_D_grinds (I : Nat → Nat → Int32) (b : Int32) : Option (Int32 × (Nat → Nat → Int32)) := l_D_grinds_13 1000 (zui I 63 19 (I 68 43)) b 0
set_option maxRecDepth 100000 in
theorem lp_D_grinds_34 {X : Nat × (Nat → Int32)} (P : Nat → Nat → Option Nat) : ∀ (n : Nat) (I : Nat → Nat → Int32) (x1 : Int32) (x2 : Int32) (r : Int32 × (Nat → Nat → Int32)), l_D_grinds_34 n I x1 x2 = some r → Wp X 141 34 [some (.ref 63), some (.int x1), some (.int x2), none] [] (zH I P) (fun r2 h2 => r2 = none ∧ h2 = zH r.2 P) := by
  intro n
  induction n with
  | zero => intro I x1 x2 r hx; cases hx
  | succ n ih =>
    intro I x1 x2 r hx
    rw [l_D_grinds_34] at hx
    refine wp_blk (pc' := 39) (L' := [some (.ref 63), some (.int x1), some (.int x2), none]) (st' := [.int (I 63 16), .int x2]) (h' := zH I P) 3 rfl ?_
    refine wp_ge (a := x2) (b := I 63 16) (s1 := (136, [some (.ref 63), some (.int x1), some (.int x2), none], [], zH I P)) (s2 := (42, [some (.ref 63), some (.int x1), some (.int x2), none], [], zH I P)) rfl (fun c1 => ?_) (fun c1 => ?_)
    · rw [if_pos c1] at hx
      cases hx
      exact wp_end rfl rfl ⟨rfl, rfl⟩
    · rw [if_neg c1] at hx
      refine wp_blk (pc' := 47) (L' := [some (.ref 63), some (.int x1), some (.int x2), none]) (st' := [.int x2, .ref 72]) (h' := zH I P) 3 rfl ?_
      obtain ⟨c2, hx⟩ := zite hx
      refine wp_chk (P := zinb x2 6 = true) (pc' := 48) (L' := [some (.ref 63), some (.int x1), some (.int x2), none]) (st' := [.int (I 72 x2.toNatClampNeg)]) (h' := zH I P) rfl c2 ?_
      refine wp_blk (pc' := 49) (L' := [some (.ref 63), some (.int x1), some (.int x2), none]) (st' := [.int x1, .int (I 72 x2.toNatClampNeg)]) (h' := zH I P) 1 rfl ?_
      refine wp_eq (a := I 72 x2.toNatClampNeg) (b := x1) (s1 := (130, [some (.ref 63), some (.int x1), some (.int x2), none], [], zH I P)) (s2 := (52, [some (.ref 63), some (.int x1), some (.int x2), none], [], zH I P)) rfl (fun c3 => ?_) (fun c3 => ?_)
      · rw [if_pos c3] at hx
        refine wp_blk (pc' := 34) (L' := [some (.ref 63), some (.int x1), some (.int (x2 + 1)), none]) (st' := []) (h' := zH I P) 2 rfl ?_
        exact ih _ _ _ _ hx
      · rw [if_neg c3] at hx
        refine wp_blk (pc' := 58) (L' := [some (.ref 63), some (.int x1), some (.int x2), none]) (st' := [.int x2, .ref 63, .int (I 63 19)]) (h' := zH I P) 4 rfl ?_
        obtain ⟨y1, hy1, hx⟩ := zbind hx
        refine wp_callf (d := 142) (as := [.ref 63, .int x2]) (rest := [.int (I 63 19)]) (Ld := [some (.ref 63), some (.int x2), none, none, none, none, none, none, none, none]) (pc' := 61) (st' := [.int y1.1, .int (I 63 19)]) (r := some (.int y1.1)) (h1 := zH y1.2 P) rfl rfl rfl rfl rfl rfl rfl rfl rfl (xp_D_counts _ _ _ _ hy1) ?_
        refine wp_blk (pc' := 64) (L' := [some (.ref 63), some (.int x1), some (.int x2), some (.int ((I 63 19) + y1.1))]) (st' := [.int ((I 63 19) + y1.1)]) (h' := zH y1.2 P) 3 rfl ?_
        refine wp_ge (a := (I 63 19) + y1.1) (b := 0) (s1 := (71, [some (.ref 63), some (.int x1), some (.int x2), some (.int ((I 63 19) + y1.1))], [], zH y1.2 P)) (s2 := (67, [some (.ref 63), some (.int x1), some (.int x2), some (.int ((I 63 19) + y1.1))], [], zH y1.2 P)) rfl (fun c4 => ?_) (fun c4 => ?_)
        · rw [if_pos c4] at hx
          refine wp_blk (pc' := 74) (L' := [some (.ref 63), some (.int x1), some (.int x2), some (.int ((I 63 19) + y1.1))]) (st' := [.int 9, .int ((I 63 19) + y1.1)]) (h' := zH y1.2 P) 2 rfl ?_
          refine wp_le (a := (I 63 19) + y1.1) (b := 9) (s1 := (82, [some (.ref 63), some (.int x1), some (.int x2), some (.int ((I 63 19) + y1.1))], [], zH y1.2 P)) (s2 := (77, [some (.ref 63), some (.int x1), some (.int x2), some (.int ((I 63 19) + y1.1))], [], zH y1.2 P)) rfl (fun c5 => ?_) (fun c5 => ?_)
          · rw [if_pos c5] at hx
            refine wp_blk (pc' := 93) (L' := [some (.ref 63), some (.int x1), some (.int x2), some (.int ((I 63 19) + y1.1))]) (st' := [.int x2, .ref 72, .ref 73]) (h' := zH y1.2 P) 7 rfl ?_
            obtain ⟨c6, hx⟩ := zite hx
            refine wp_chk (P := zinb x2 6 = true) (pc' := 94) (L' := [some (.ref 63), some (.int x1), some (.int x2), some (.int ((I 63 19) + y1.1))]) (st' := [.int (y1.2 72 x2.toNatClampNeg), .ref 73]) (h' := zH y1.2 P) rfl c6 ?_
            refine wp_blk (pc' := 95) (L' := [some (.ref 63), some (.int x1), some (.int x2), some (.int ((I 63 19) + y1.1))]) (st' := [.int ((I 63 19) + y1.1), .int (y1.2 72 x2.toNatClampNeg), .ref 73]) (h' := zH y1.2 P) 1 rfl ?_
            obtain ⟨c7, hx⟩ := zite hx
            refine wp_chk (P := zinb (y1.2 72 x2.toNatClampNeg) 6 = true) (pc' := 96) (L' := [some (.ref 63), some (.int x1), some (.int x2), some (.int ((I 63 19) + y1.1))]) (st' := []) (h' := zH (zui y1.2 73 ((y1.2 72 x2.toNatClampNeg).toNatClampNeg) ((I 63 19) + y1.1)) P) rfl c7 ?_
            refine wp_blk (pc' := 106) (L' := [some (.ref 63), some (.int x1), some (.int x2), some (.int ((I 63 19) + y1.1))]) (st' := [.int (y1.2 63 19), .int ((I 63 19) + y1.1), .int (y1.2 63 19), .ref 63]) (h' := zH (zui y1.2 73 ((y1.2 72 x2.toNatClampNeg).toNatClampNeg) ((I 63 19) + y1.1)) P) 6 rfl ?_
            refine wp_le (a := (I 63 19) + y1.1) (b := y1.2 63 19) (s1 := (113, [some (.ref 63), some (.int x1), some (.int x2), some (.int ((I 63 19) + y1.1))], [.int (y1.2 63 19), .ref 63], zH (zui y1.2 73 ((y1.2 72 x2.toNatClampNeg).toNatClampNeg) ((I 63 19) + y1.1)) P)) (s2 := (109, [some (.ref 63), some (.int x1), some (.int x2), some (.int ((I 63 19) + y1.1))], [.int (y1.2 63 19), .ref 63], zH (zui y1.2 73 ((y1.2 72 x2.toNatClampNeg).toNatClampNeg) ((I 63 19) + y1.1)) P)) rfl (fun c8 => ?_) (fun c8 => ?_)
            · rw [if_pos c8] at hx
              refine wp_blk (pc' := 118) (L' := [some (.ref 63), some (.int x1), some (.int x2), some (.int ((I 63 19) + y1.1))]) (st' := [.int (y1.2 63 19), .int ((I 63 19) + y1.1), .int (y1.2 63 19), .ref 63]) (h' := zH (zui y1.2 73 ((y1.2 72 x2.toNatClampNeg).toNatClampNeg) ((I 63 19) + y1.1)) P) 3 rfl ?_
              refine wp_ge (a := (I 63 19) + y1.1) (b := y1.2 63 19) (s1 := (125, [some (.ref 63), some (.int x1), some (.int x2), some (.int ((I 63 19) + y1.1))], [.int (y1.2 63 19), .ref 63], zH (zui y1.2 73 ((y1.2 72 x2.toNatClampNeg).toNatClampNeg) ((I 63 19) + y1.1)) P)) (s2 := (121, [some (.ref 63), some (.int x1), some (.int x2), some (.int ((I 63 19) + y1.1))], [.int (y1.2 63 19), .ref 63], zH (zui y1.2 73 ((y1.2 72 x2.toNatClampNeg).toNatClampNeg) ((I 63 19) + y1.1)) P)) rfl (fun c9 => ?_) (fun c9 => ?_)
              · rw [if_pos c9] at hx
                refine wp_blk (pc' := 34) (L' := [some (.ref 63), some (.int x1), some (.int (x2 + 1)), some (.int ((I 63 19) + y1.1))]) (st' := []) (h' := zH (zui (zui y1.2 73 ((y1.2 72 x2.toNatClampNeg).toNatClampNeg) ((I 63 19) + y1.1)) 63 19 ((y1.2 63 19) + 0)) P) 5 rfl ?_
                exact wp_forget (ih _ _ _ _ hx) (zle_c (zle_c (zle_c (zle_n zle_nil))))
              · rw [if_neg c9] at hx
                refine wp_blk (pc' := 34) (L' := [some (.ref 63), some (.int x1), some (.int (x2 + 1)), some (.int ((I 63 19) + y1.1))]) (st' := []) (h' := zH (zui (zui y1.2 73 ((y1.2 72 x2.toNatClampNeg).toNatClampNeg) ((I 63 19) + y1.1)) 63 19 ((y1.2 63 19) + (-1))) P) 6 rfl ?_
                exact wp_forget (ih _ _ _ _ hx) (zle_c (zle_c (zle_c (zle_n zle_nil))))
            · rw [if_neg c8] at hx
              refine wp_blk (pc' := 34) (L' := [some (.ref 63), some (.int x1), some (.int (x2 + 1)), some (.int ((I 63 19) + y1.1))]) (st' := []) (h' := zH (zui (zui y1.2 73 ((y1.2 72 x2.toNatClampNeg).toNatClampNeg) ((I 63 19) + y1.1)) 63 19 ((y1.2 63 19) + 1)) P) 6 rfl ?_
              exact wp_forget (ih _ _ _ _ hx) (zle_c (zle_c (zle_c (zle_n zle_nil))))
          · rw [if_neg c5] at hx
            refine wp_blk (pc' := 93) (L' := [some (.ref 63), some (.int x1), some (.int x2), some (.int 9)]) (st' := [.int x2, .ref 72, .ref 73]) (h' := zH y1.2 P) 8 rfl ?_
            obtain ⟨c10, hx⟩ := zite hx
            refine wp_chk (P := zinb x2 6 = true) (pc' := 94) (L' := [some (.ref 63), some (.int x1), some (.int x2), some (.int 9)]) (st' := [.int (y1.2 72 x2.toNatClampNeg), .ref 73]) (h' := zH y1.2 P) rfl c10 ?_
            refine wp_blk (pc' := 95) (L' := [some (.ref 63), some (.int x1), some (.int x2), some (.int 9)]) (st' := [.int 9, .int (y1.2 72 x2.toNatClampNeg), .ref 73]) (h' := zH y1.2 P) 1 rfl ?_
            obtain ⟨c11, hx⟩ := zite hx
            refine wp_chk (P := zinb (y1.2 72 x2.toNatClampNeg) 6 = true) (pc' := 96) (L' := [some (.ref 63), some (.int x1), some (.int x2), some (.int 9)]) (st' := []) (h' := zH (zui y1.2 73 ((y1.2 72 x2.toNatClampNeg).toNatClampNeg) 9) P) rfl c11 ?_
            refine wp_blk (pc' := 106) (L' := [some (.ref 63), some (.int x1), some (.int x2), some (.int 9)]) (st' := [.int (y1.2 63 19), .int 9, .int (y1.2 63 19), .ref 63]) (h' := zH (zui y1.2 73 ((y1.2 72 x2.toNatClampNeg).toNatClampNeg) 9) P) 6 rfl ?_
            refine wp_le (a := 9) (b := y1.2 63 19) (s1 := (113, [some (.ref 63), some (.int x1), some (.int x2), some (.int 9)], [.int (y1.2 63 19), .ref 63], zH (zui y1.2 73 ((y1.2 72 x2.toNatClampNeg).toNatClampNeg) 9) P)) (s2 := (109, [some (.ref 63), some (.int x1), some (.int x2), some (.int 9)], [.int (y1.2 63 19), .ref 63], zH (zui y1.2 73 ((y1.2 72 x2.toNatClampNeg).toNatClampNeg) 9) P)) rfl (fun c12 => ?_) (fun c12 => ?_)
            · rw [if_pos c12] at hx
              refine wp_blk (pc' := 118) (L' := [some (.ref 63), some (.int x1), some (.int x2), some (.int 9)]) (st' := [.int (y1.2 63 19), .int 9, .int (y1.2 63 19), .ref 63]) (h' := zH (zui y1.2 73 ((y1.2 72 x2.toNatClampNeg).toNatClampNeg) 9) P) 3 rfl ?_
              refine wp_ge (a := 9) (b := y1.2 63 19) (s1 := (125, [some (.ref 63), some (.int x1), some (.int x2), some (.int 9)], [.int (y1.2 63 19), .ref 63], zH (zui y1.2 73 ((y1.2 72 x2.toNatClampNeg).toNatClampNeg) 9) P)) (s2 := (121, [some (.ref 63), some (.int x1), some (.int x2), some (.int 9)], [.int (y1.2 63 19), .ref 63], zH (zui y1.2 73 ((y1.2 72 x2.toNatClampNeg).toNatClampNeg) 9) P)) rfl (fun c13 => ?_) (fun c13 => ?_)
              · rw [if_pos c13] at hx
                refine wp_blk (pc' := 34) (L' := [some (.ref 63), some (.int x1), some (.int (x2 + 1)), some (.int 9)]) (st' := []) (h' := zH (zui (zui y1.2 73 ((y1.2 72 x2.toNatClampNeg).toNatClampNeg) 9) 63 19 ((y1.2 63 19) + 0)) P) 5 rfl ?_
                exact wp_forget (ih _ _ _ _ hx) (zle_c (zle_c (zle_c (zle_n zle_nil))))
              · rw [if_neg c13] at hx
                refine wp_blk (pc' := 34) (L' := [some (.ref 63), some (.int x1), some (.int (x2 + 1)), some (.int 9)]) (st' := []) (h' := zH (zui (zui y1.2 73 ((y1.2 72 x2.toNatClampNeg).toNatClampNeg) 9) 63 19 ((y1.2 63 19) + (-1))) P) 6 rfl ?_
                exact wp_forget (ih _ _ _ _ hx) (zle_c (zle_c (zle_c (zle_n zle_nil))))
            · rw [if_neg c12] at hx
              refine wp_blk (pc' := 34) (L' := [some (.ref 63), some (.int x1), some (.int (x2 + 1)), some (.int 9)]) (st' := []) (h' := zH (zui (zui y1.2 73 ((y1.2 72 x2.toNatClampNeg).toNatClampNeg) 9) 63 19 ((y1.2 63 19) + 1)) P) 6 rfl ?_
              exact wp_forget (ih _ _ _ _ hx) (zle_c (zle_c (zle_c (zle_n zle_nil))))
        · rw [if_neg c4] at hx
          refine wp_blk (pc' := 93) (L' := [some (.ref 63), some (.int x1), some (.int x2), some (.int 0)]) (st' := [.int x2, .ref 72, .ref 73]) (h' := zH y1.2 P) 8 rfl ?_
          obtain ⟨c14, hx⟩ := zite hx
          refine wp_chk (P := zinb x2 6 = true) (pc' := 94) (L' := [some (.ref 63), some (.int x1), some (.int x2), some (.int 0)]) (st' := [.int (y1.2 72 x2.toNatClampNeg), .ref 73]) (h' := zH y1.2 P) rfl c14 ?_
          refine wp_blk (pc' := 95) (L' := [some (.ref 63), some (.int x1), some (.int x2), some (.int 0)]) (st' := [.int 0, .int (y1.2 72 x2.toNatClampNeg), .ref 73]) (h' := zH y1.2 P) 1 rfl ?_
          obtain ⟨c15, hx⟩ := zite hx
          refine wp_chk (P := zinb (y1.2 72 x2.toNatClampNeg) 6 = true) (pc' := 96) (L' := [some (.ref 63), some (.int x1), some (.int x2), some (.int 0)]) (st' := []) (h' := zH (zui y1.2 73 ((y1.2 72 x2.toNatClampNeg).toNatClampNeg) 0) P) rfl c15 ?_
          refine wp_blk (pc' := 106) (L' := [some (.ref 63), some (.int x1), some (.int x2), some (.int 0)]) (st' := [.int (y1.2 63 19), .int 0, .int (y1.2 63 19), .ref 63]) (h' := zH (zui y1.2 73 ((y1.2 72 x2.toNatClampNeg).toNatClampNeg) 0) P) 6 rfl ?_
          refine wp_le (a := 0) (b := y1.2 63 19) (s1 := (113, [some (.ref 63), some (.int x1), some (.int x2), some (.int 0)], [.int (y1.2 63 19), .ref 63], zH (zui y1.2 73 ((y1.2 72 x2.toNatClampNeg).toNatClampNeg) 0) P)) (s2 := (109, [some (.ref 63), some (.int x1), some (.int x2), some (.int 0)], [.int (y1.2 63 19), .ref 63], zH (zui y1.2 73 ((y1.2 72 x2.toNatClampNeg).toNatClampNeg) 0) P)) rfl (fun c16 => ?_) (fun c16 => ?_)
          · rw [if_pos c16] at hx
            refine wp_blk (pc' := 118) (L' := [some (.ref 63), some (.int x1), some (.int x2), some (.int 0)]) (st' := [.int (y1.2 63 19), .int 0, .int (y1.2 63 19), .ref 63]) (h' := zH (zui y1.2 73 ((y1.2 72 x2.toNatClampNeg).toNatClampNeg) 0) P) 3 rfl ?_
            refine wp_ge (a := 0) (b := y1.2 63 19) (s1 := (125, [some (.ref 63), some (.int x1), some (.int x2), some (.int 0)], [.int (y1.2 63 19), .ref 63], zH (zui y1.2 73 ((y1.2 72 x2.toNatClampNeg).toNatClampNeg) 0) P)) (s2 := (121, [some (.ref 63), some (.int x1), some (.int x2), some (.int 0)], [.int (y1.2 63 19), .ref 63], zH (zui y1.2 73 ((y1.2 72 x2.toNatClampNeg).toNatClampNeg) 0) P)) rfl (fun c17 => ?_) (fun c17 => ?_)
            · rw [if_pos c17] at hx
              refine wp_blk (pc' := 34) (L' := [some (.ref 63), some (.int x1), some (.int (x2 + 1)), some (.int 0)]) (st' := []) (h' := zH (zui (zui y1.2 73 ((y1.2 72 x2.toNatClampNeg).toNatClampNeg) 0) 63 19 ((y1.2 63 19) + 0)) P) 5 rfl ?_
              exact wp_forget (ih _ _ _ _ hx) (zle_c (zle_c (zle_c (zle_n zle_nil))))
            · rw [if_neg c17] at hx
              refine wp_blk (pc' := 34) (L' := [some (.ref 63), some (.int x1), some (.int (x2 + 1)), some (.int 0)]) (st' := []) (h' := zH (zui (zui y1.2 73 ((y1.2 72 x2.toNatClampNeg).toNatClampNeg) 0) 63 19 ((y1.2 63 19) + (-1))) P) 6 rfl ?_
              exact wp_forget (ih _ _ _ _ hx) (zle_c (zle_c (zle_c (zle_n zle_nil))))
          · rw [if_neg c16] at hx
            refine wp_blk (pc' := 34) (L' := [some (.ref 63), some (.int x1), some (.int (x2 + 1)), some (.int 0)]) (st' := []) (h' := zH (zui (zui y1.2 73 ((y1.2 72 x2.toNatClampNeg).toNatClampNeg) 0) 63 19 ((y1.2 63 19) + 1)) P) 6 rfl ?_
            exact wp_forget (ih _ _ _ _ hx) (zle_c (zle_c (zle_c (zle_n zle_nil))))
set_option maxRecDepth 100000 in
theorem lp_D_grinds_13 {X : Nat × (Nat → Int32)} (P : Nat → Nat → Option Nat) : ∀ (n : Nat) (I : Nat → Nat → Int32) (x1 : Int32) (x2 : Int32) (r : Int32 × (Nat → Nat → Int32)), l_D_grinds_13 n I x1 x2 = some r → Wp X 141 13 [some (.ref 63), some (.int x1), some (.int x2), none] [] (zH I P) (fun r2 h2 => r2 = none ∧ h2 = zH r.2 P) := by
  intro n
  induction n with
  | zero => intro I x1 x2 r hx; cases hx
  | succ n ih =>
    intro I x1 x2 r hx
    rw [l_D_grinds_13] at hx
    refine wp_blk (pc' := 16) (L' := [some (.ref 63), some (.int x1), some (.int x2), none]) (st' := [.int 6, .int x2]) (h' := zH I P) 2 rfl ?_
    refine wp_ge (a := x2) (b := 6) (s1 := (32, [some (.ref 63), some (.int x1), some (.int x2), none], [], zH I P)) (s2 := (19, [some (.ref 63), some (.int x1), some (.int x2), none], [], zH I P)) rfl (fun c1 => ?_) (fun c1 => ?_)
    · rw [if_pos c1] at hx
      refine wp_blk (pc' := 34) (L' := [some (.ref 63), some (.int x1), some (.int 0), none]) (st' := []) (h' := zH I P) 2 rfl ?_
      exact lp_D_grinds_34 P _ _ _ _ _ hx
    · rw [if_neg c1] at hx
      refine wp_blk (pc' := 25) (L' := [some (.ref 63), some (.int x1), some (.int x2), none]) (st' := [.int (-1), .int x2, .ref 73]) (h' := zH I P) 4 rfl ?_
      obtain ⟨c2, hx⟩ := zite hx
      refine wp_chk (P := zinb x2 6 = true) (pc' := 26) (L' := [some (.ref 63), some (.int x1), some (.int x2), none]) (st' := []) (h' := zH (zui I 73 x2.toNatClampNeg (-1)) P) rfl c2 ?_
      refine wp_blk (pc' := 13) (L' := [some (.ref 63), some (.int x1), some (.int (x2 + 1)), none]) (st' := []) (h' := zH (zui I 73 x2.toNatClampNeg (-1)) P) 2 rfl ?_
      exact ih _ _ _ _ hx
set_option maxRecDepth 100000 in
theorem xp_D_grinds {X : Nat × (Nat → Int32)} (I : Nat → Nat → Int32) (P : Nat → Nat → Option Nat) (b : Int32) (r : Int32 × (Nat → Nat → Int32)) (hx : x_D_grinds I b = some r) : Wf X 141 [some (.ref 63), some (.int b), none, none] (zH I P) (none) (zH r.2 P) := by
  unfold Wf
  unfold x_D_grinds at hx
  refine wp_blk (pc' := 13) (L' := [some (.ref 63), some (.int b), some (.int 0), none]) (st' := []) (h' := zH (zui I 63 19 (I 68 43)) P) 8 rfl ?_
  exact lp_D_grinds_13 P _ _ _ _ _ hx
def x_D_today (I : Nat → Nat → Int32) : Option (Int32 × (Nat → Nat → Int32)) := (x_D_stands I (I 68 42)).bind (fun q1 => (x_D_grinds q1.2 (-1)).bind (fun q2 => some (0, q2.2)))
set_option maxRecDepth 100000 in
theorem xp_D_today {X : Nat × (Nat → Int32)} (I : Nat → Nat → Int32) (P : Nat → Nat → Option Nat) (r : Int32 × (Nat → Nat → Int32)) (hx : x_D_today I = some r) : Wf X 139 [some (.ref 63)] (zH I P) (none) (zH r.2 P) := by
  unfold Wf
  unfold x_D_today at hx
  refine wp_blk (pc' := 8) (L' := [some (.ref 63)]) (st' := [.int (I 68 42), .ref 63]) (h' := zH I P) 5 rfl ?_
  obtain ⟨y1, hy1, hx⟩ := zbind hx
  refine wp_callf (d := 140) (as := [.ref 63, .int (I 68 42)]) (rest := []) (Ld := [some (.ref 63), some (.int (I 68 42)), none]) (pc' := 11) (st' := []) (r := none) (h1 := zH y1.2 P) rfl rfl rfl rfl rfl rfl rfl rfl rfl (xp_D_stands _ _ _ _ hy1) ?_
  refine wp_blk (pc' := 13) (L' := [some (.ref 63)]) (st' := [.int (-1), .ref 63]) (h' := zH y1.2 P) 2 rfl ?_
  obtain ⟨y2, hy2, hx⟩ := zbind hx
  refine wp_callf (d := 141) (as := [.ref 63, .int (-1)]) (rest := []) (Ld := [some (.ref 63), some (.int (-1)), none, none]) (pc' := 16) (st' := []) (r := none) (h1 := zH y2.2 P) rfl rfl rfl rfl rfl rfl rfl rfl rfl (xp_D_grinds _ _ _ _ hy2) ?_
  cases hx
  exact wp_end rfl rfl ⟨rfl, rfl⟩
def f_D_breadOf (I : Nat → Nat → Int32) (f : Int32) : Int32 := if 2 ≤ f then (if 5 ≤ f then (if 8 ≤ f then 3 else 2) else 1) else 0
set_option maxRecDepth 100000 in
theorem sp_D_breadOf {X : Nat × (Nat → Int32)} (I : Nat → Nat → Int32) (P : Nat → Nat → Option Nat) (f : Int32) : Wf X 143 [some (.int f)] (zH I P) (some (.int (f_D_breadOf I f))) (zH I P) := by
  unfold Wf
  refine wp_blk (pc' := 2) (L' := [some (.int f)]) (st' := [.int 2, .int f]) (h' := zH I P) 2 rfl ?_
  refine wp_ge (a := f) (b := 2) (s1 := (9, [some (.int f)], [], zH I P)) (s2 := (5, [some (.int f)], [], zH I P)) rfl (fun c1 => ?_) (fun c1 => ?_)
  · refine wp_blk (pc' := 11) (L' := [some (.int f)]) (st' := [.int 5, .int f]) (h' := zH I P) 2 rfl ?_
    refine wp_ge (a := f) (b := 5) (s1 := (18, [some (.int f)], [], zH I P)) (s2 := (14, [some (.int f)], [], zH I P)) rfl (fun c2 => ?_) (fun c2 => ?_)
    · refine wp_blk (pc' := 21) (L' := [some (.int f)]) (st' := [.int 8, .int f]) (h' := zH I P) 2 rfl ?_
      refine wp_ge (a := f) (b := 8) (s1 := (28, [some (.int f)], [], zH I P)) (s2 := (24, [some (.int f)], [], zH I P)) rfl (fun c3 => ?_) (fun c3 => ?_)
      · refine wp_blk (pc' := 29) (L' := [some (.int f)]) (st' := [.int 3]) (h' := zH I P) 1 rfl ?_
        exact wp_end rfl rfl ⟨by rw [f_D_breadOf, if_pos c1, if_pos c2, if_pos c3], rfl⟩
      · refine wp_blk (pc' := 29) (L' := [some (.int f)]) (st' := [.int 2]) (h' := zH I P) 2 rfl ?_
        exact wp_end rfl rfl ⟨by rw [f_D_breadOf, if_pos c1, if_pos c2, if_neg c3], rfl⟩
    · refine wp_blk (pc' := 29) (L' := [some (.int f)]) (st' := [.int 1]) (h' := zH I P) 2 rfl ?_
      exact wp_end rfl rfl ⟨by rw [f_D_breadOf, if_pos c1, if_neg c2], rfl⟩
  · refine wp_blk (pc' := 29) (L' := [some (.int f)]) (st' := [.int 0]) (h' := zH I P) 2 rfl ?_
    exact wp_end rfl rfl ⟨by rw [f_D_breadOf, if_neg c1], rfl⟩
def x_D_fine (I : Nat → Nat → Int32) (c w : Int32) : Option (Int32 × (Nat → Nat → Int32)) := if f_D_isOne I c = 0 then (some (-1, I)) else (if f_D_in I w 0 1 = 0 then (some (-1, I)) else (if f_D_isAway I c = 0 then ((x_D_today I).bind (fun q1 => if w = 0 then (if zinb c 6 = true then (some (q1.2 73 c.toNatClampNeg, q1.2)) else none) else (if zinb c 6 = true then (some (f_D_breadOf q1.2 (q1.2 73 c.toNatClampNeg), q1.2)) else none))) else (some (-2, I))))
set_option maxRecDepth 100000 in
theorem xp_D_fine {X : Nat × (Nat → Int32)} (I : Nat → Nat → Int32) (P : Nat → Nat → Option Nat) (c w : Int32) (r : Int32 × (Nat → Nat → Int32)) (hx : x_D_fine I c w = some r) : Wf X 138 [some (.ref 63), some (.int c), some (.int w)] (zH I P) (some (.int r.1)) (zH r.2 P) := by
  unfold Wf
  unfold x_D_fine at hx
  refine wp_blk (pc' := 2) (L' := [some (.ref 63), some (.int c), some (.int w)]) (st' := [.int c, .ref 63]) (h' := zH I P) 2 rfl ?_
  refine wp_callf (d := 133) (as := [.ref 63, .int c]) (rest := []) (Ld := [some (.ref 63), some (.int c)]) (pc' := 5) (st' := [.int (f_D_isOne I c)]) (r := some (.int (f_D_isOne I c))) (h1 := zH I P) rfl rfl rfl rfl rfl rfl rfl rfl rfl (sp_D_isOne I P c) ?_
  refine wp_eq (a := f_D_isOne I c) (b := 0) (s1 := (17, [some (.ref 63), some (.int c), some (.int w)], [], zH I P)) (s2 := (8, [some (.ref 63), some (.int c), some (.int w)], [], zH I P)) rfl (fun c1 => ?_) (fun c1 => ?_)
  · rw [if_pos c1] at hx
    refine wp_blk (pc' := 18) (L' := [some (.ref 63), some (.int c), some (.int w)]) (st' := [.int (-1)]) (h' := zH I P) 1 rfl ?_
    cases hx
    exact wp_end rfl rfl ⟨rfl, rfl⟩
  · rw [if_neg c1] at hx
    refine wp_blk (pc' := 11) (L' := [some (.ref 63), some (.int c), some (.int w)]) (st' := [.int 1, .int 0, .int w]) (h' := zH I P) 3 rfl ?_
    refine wp_callf (d := 123) (as := [.int w, .int 0, .int 1]) (rest := []) (Ld := [some (.int w), some (.int 0), some (.int 1)]) (pc' := 14) (st' := [.int (f_D_in I w 0 1)]) (r := some (.int (f_D_in I w 0 1))) (h1 := zH I P) rfl rfl rfl rfl rfl rfl rfl rfl rfl (sp_D_in I P w 0 1) ?_
    refine wp_ne (a := f_D_in I w 0 1) (b := 0) (s1 := (19, [some (.ref 63), some (.int c), some (.int w)], [], zH I P)) (s2 := (17, [some (.ref 63), some (.int c), some (.int w)], [], zH I P)) rfl (fun c2 => ?_) (fun c2 => ?_)
    · rw [if_neg c2] at hx
      refine wp_blk (pc' := 21) (L' := [some (.ref 63), some (.int c), some (.int w)]) (st' := [.int c, .ref 63]) (h' := zH I P) 2 rfl ?_
      refine wp_callf (d := 135) (as := [.ref 63, .int c]) (rest := []) (Ld := [some (.ref 63), some (.int c)]) (pc' := 24) (st' := [.int (f_D_isAway I c)]) (r := some (.int (f_D_isAway I c))) (h1 := zH I P) rfl rfl rfl rfl rfl rfl rfl rfl rfl (sp_D_isAway I P c) ?_
      refine wp_eq (a := f_D_isAway I c) (b := 0) (s1 := (30, [some (.ref 63), some (.int c), some (.int w)], [], zH I P)) (s2 := (27, [some (.ref 63), some (.int c), some (.int w)], [], zH I P)) rfl (fun c3 => ?_) (fun c3 => ?_)
      · rw [if_pos c3] at hx
        refine wp_blk (pc' := 31) (L' := [some (.ref 63), some (.int c), some (.int w)]) (st' := [.ref 63]) (h' := zH I P) 1 rfl ?_
        obtain ⟨y1, hy1, hx⟩ := zbind hx
        refine wp_callf (d := 139) (as := [.ref 63]) (rest := []) (Ld := [some (.ref 63)]) (pc' := 34) (st' := []) (r := none) (h1 := zH y1.2 P) rfl rfl rfl rfl rfl rfl rfl rfl rfl (xp_D_today _ _  _ hy1) ?_
        refine wp_blk (pc' := 35) (L' := [some (.ref 63), some (.int c), some (.int w)]) (st' := [.int w]) (h' := zH y1.2 P) 1 rfl ?_
        refine wp_ne (a := w) (b := 0) (s1 := (47, [some (.ref 63), some (.int c), some (.int w)], [], zH y1.2 P)) (s2 := (38, [some (.ref 63), some (.int c), some (.int w)], [], zH y1.2 P)) rfl (fun c4 => ?_) (fun c4 => ?_)
        · rw [if_neg c4] at hx
          refine wp_blk (pc' := 52) (L' := [some (.ref 63), some (.int c), some (.int w)]) (st' := [.int c, .ref 73]) (h' := zH y1.2 P) 3 rfl ?_
          obtain ⟨c5, hx⟩ := zite hx
          refine wp_chk (P := zinb c 6 = true) (pc' := 53) (L' := [some (.ref 63), some (.int c), some (.int w)]) (st' := [.int (y1.2 73 c.toNatClampNeg)]) (h' := zH y1.2 P) rfl c5 ?_
          refine wp_callf (d := 143) (as := [.int (y1.2 73 c.toNatClampNeg)]) (rest := []) (Ld := [some (.int (y1.2 73 c.toNatClampNeg))]) (pc' := 56) (st' := [.int (f_D_breadOf y1.2 (y1.2 73 c.toNatClampNeg))]) (r := some (.int (f_D_breadOf y1.2 (y1.2 73 c.toNatClampNeg)))) (h1 := zH y1.2 P) rfl rfl rfl rfl rfl rfl rfl rfl rfl (sp_D_breadOf y1.2 P (y1.2 73 c.toNatClampNeg)) ?_
          cases hx
          exact wp_end rfl rfl ⟨rfl, rfl⟩
        · rw [if_pos c4] at hx
          refine wp_blk (pc' := 43) (L' := [some (.ref 63), some (.int c), some (.int w)]) (st' := [.int c, .ref 73]) (h' := zH y1.2 P) 3 rfl ?_
          obtain ⟨c6, hx⟩ := zite hx
          refine wp_chk (P := zinb c 6 = true) (pc' := 44) (L' := [some (.ref 63), some (.int c), some (.int w)]) (st' := [.int (y1.2 73 c.toNatClampNeg)]) (h' := zH y1.2 P) rfl c6 ?_
          refine wp_blk (pc' := 56) (L' := [some (.ref 63), some (.int c), some (.int w)]) (st' := [.int (y1.2 73 c.toNatClampNeg)]) (h' := zH y1.2 P) 1 rfl ?_
          cases hx
          exact wp_end rfl rfl ⟨rfl, rfl⟩
      · rw [if_neg c3] at hx
        refine wp_blk (pc' := 29) (L' := [some (.ref 63), some (.int c), some (.int w)]) (st' := [.int (-2)]) (h' := zH I P) 1 rfl ?_
        cases hx
        exact wp_end rfl rfl ⟨rfl, rfl⟩
    · rw [if_pos c2] at hx
      refine wp_blk (pc' := 18) (L' := [some (.ref 63), some (.int c), some (.int w)]) (st' := [.int (-1)]) (h' := zH I P) 1 rfl ?_
      cases hx
      exact wp_end rfl rfl ⟨rfl, rfl⟩
def l_D_keeps_51 : Nat → (Nat → Nat → Int32) → Int32 → Option (Int32 × (Nat → Nat → Int32))
  | 0, _, _ => none
  | n + 1, I, x1 => if 45 ≤ x1 then (some (0, (zui I 63 9 ((I 63 9) + 1)))) else (if zinb x1 45 = true then (if zinb ((45 * (I 63 9)) + x1) 360 = true then (l_D_keeps_51 n (zui I 69 (((45 * (I 63 9)) + x1).toNatClampNeg) (I 68 x1.toNatClampNeg)) (x1 + 1)) else none) else none)
def l_D_keeps_11 : Nat → (Nat → Nat → Int32) → Int32 → Option (Int32 × (Nat → Nat → Int32))
  | 0, _, _ => none
  | n + 1, I, x1 => if 315 ≤ x1 then (l_D_keeps_51 1000 (zui I 63 9 ((I 63 9) - 1)) 0) else (if zinb (x1 + 45) 360 = true then (if zinb x1 360 = true then (l_D_keeps_11 n (zui I 69 x1.toNatClampNeg (I 69 ((x1 + 45).toNatClampNeg))) (x1 + 1)) else none) else none)
def x_D_keeps (I : Nat → Nat → Int32) : Option (Int32 × (Nat → Nat → Int32)) := if I 63 9 = 8 then (l_D_keeps_11 1000 I 0) else (l_D_keeps_51 1000 I 0)
set_option maxRecDepth 100000 in
theorem lp_D_keeps_51 {X : Nat × (Nat → Int32)} (P : Nat → Nat → Option Nat) : ∀ (n : Nat) (I : Nat → Nat → Int32) (x1 : Int32) (r : Int32 × (Nat → Nat → Int32)), l_D_keeps_51 n I x1 = some r → Wp X 145 51 [some (.ref 63), some (.int x1)] [] (zH I P) (fun r2 h2 => r2 = none ∧ h2 = zH r.2 P) := by
  intro n
  induction n with
  | zero => intro I x1 r hx; cases hx
  | succ n ih =>
    intro I x1 r hx
    rw [l_D_keeps_51] at hx
    refine wp_blk (pc' := 54) (L' := [some (.ref 63), some (.int x1)]) (st' := [.int 45, .int x1]) (h' := zH I P) 2 rfl ?_
    refine wp_ge (a := x1) (b := 45) (s1 := (83, [some (.ref 63), some (.int x1)], [], zH I P)) (s2 := (57, [some (.ref 63), some (.int x1)], [], zH I P)) rfl (fun c1 => ?_) (fun c1 => ?_)
    · rw [if_pos c1] at hx
      refine wp_blk (pc' := 93) (L' := [some (.ref 63), some (.int x1)]) (st' := []) (h' := zH (zui I 63 9 ((I 63 9) + 1)) P) 6 rfl ?_
      cases hx
      exact wp_end rfl rfl ⟨rfl, rfl⟩
    · rw [if_neg c1] at hx
      refine wp_blk (pc' := 75) (L' := [some (.ref 63), some (.int x1)]) (st' := [.int x1, .ref 68, .int ((45 * (I 63 9)) + x1), .ref 69]) (h' := zH I P) 11 rfl ?_
      obtain ⟨c2, hx⟩ := zite hx
      refine wp_chk (P := zinb x1 45 = true) (pc' := 76) (L' := [some (.ref 63), some (.int x1)]) (st' := [.int (I 68 x1.toNatClampNeg), .int ((45 * (I 63 9)) + x1), .ref 69]) (h' := zH I P) rfl c2 ?_
      obtain ⟨c3, hx⟩ := zite hx
      refine wp_chk (P := zinb ((45 * (I 63 9)) + x1) 360 = true) (pc' := 77) (L' := [some (.ref 63), some (.int x1)]) (st' := []) (h' := zH (zui I 69 (((45 * (I 63 9)) + x1).toNatClampNeg) (I 68 x1.toNatClampNeg)) P) rfl c3 ?_
      refine wp_blk (pc' := 51) (L' := [some (.ref 63), some (.int (x1 + 1))]) (st' := []) (h' := zH (zui I 69 (((45 * (I 63 9)) + x1).toNatClampNeg) (I 68 x1.toNatClampNeg)) P) 2 rfl ?_
      exact ih _ _ _ hx
set_option maxRecDepth 100000 in
theorem lp_D_keeps_11 {X : Nat × (Nat → Int32)} (P : Nat → Nat → Option Nat) : ∀ (n : Nat) (I : Nat → Nat → Int32) (x1 : Int32) (r : Int32 × (Nat → Nat → Int32)), l_D_keeps_11 n I x1 = some r → Wp X 145 11 [some (.ref 63), some (.int x1)] [] (zH I P) (fun r2 h2 => r2 = none ∧ h2 = zH r.2 P) := by
  intro n
  induction n with
  | zero => intro I x1 r hx; cases hx
  | succ n ih =>
    intro I x1 r hx
    rw [l_D_keeps_11] at hx
    refine wp_blk (pc' := 15) (L' := [some (.ref 63), some (.int x1)]) (st' := [.int 315, .int x1]) (h' := zH I P) 2 rfl ?_
    refine wp_ge (a := x1) (b := 315) (s1 := (39, [some (.ref 63), some (.int x1)], [], zH I P)) (s2 := (18, [some (.ref 63), some (.int x1)], [], zH I P)) rfl (fun c1 => ?_) (fun c1 => ?_)
    · rw [if_pos c1] at hx
      refine wp_blk (pc' := 51) (L' := [some (.ref 63), some (.int 0)]) (st' := []) (h' := zH (zui I 63 9 ((I 63 9) - 1)) P) 8 rfl ?_
      exact lp_D_keeps_51 P _ _ _ _ hx
    · rw [if_neg c1] at hx
      refine wp_blk (pc' := 31) (L' := [some (.ref 63), some (.int x1)]) (st' := [.int (x1 + 45), .ref 69, .int x1, .ref 69]) (h' := zH I P) 8 rfl ?_
      obtain ⟨c2, hx⟩ := zite hx
      refine wp_chk (P := zinb (x1 + 45) 360 = true) (pc' := 32) (L' := [some (.ref 63), some (.int x1)]) (st' := [.int (I 69 ((x1 + 45).toNatClampNeg)), .int x1, .ref 69]) (h' := zH I P) rfl c2 ?_
      obtain ⟨c3, hx⟩ := zite hx
      refine wp_chk (P := zinb x1 360 = true) (pc' := 33) (L' := [some (.ref 63), some (.int x1)]) (st' := []) (h' := zH (zui I 69 x1.toNatClampNeg (I 69 ((x1 + 45).toNatClampNeg))) P) rfl c3 ?_
      refine wp_blk (pc' := 11) (L' := [some (.ref 63), some (.int (x1 + 1))]) (st' := []) (h' := zH (zui I 69 x1.toNatClampNeg (I 69 ((x1 + 45).toNatClampNeg))) P) 2 rfl ?_
      exact ih _ _ _ hx
set_option maxRecDepth 100000 in
theorem xp_D_keeps {X : Nat × (Nat → Int32)} (I : Nat → Nat → Int32) (P : Nat → Nat → Option Nat) (r : Int32 × (Nat → Nat → Int32)) (hx : x_D_keeps I = some r) : Wf X 145 [some (.ref 63), none] (zH I P) (none) (zH r.2 P) := by
  unfold Wf
  unfold x_D_keeps at hx
  refine wp_blk (pc' := 6) (L' := [some (.ref 63), none]) (st' := [.int 8, .int (I 63 9)]) (h' := zH I P) 3 rfl ?_
  refine wp_ne (a := I 63 9) (b := 8) (s1 := (49, [some (.ref 63), none], [], zH I P)) (s2 := (9, [some (.ref 63), none], [], zH I P)) rfl (fun c1 => ?_) (fun c1 => ?_)
  · rw [if_neg c1] at hx
    refine wp_blk (pc' := 51) (L' := [some (.ref 63), some (.int 0)]) (st' := []) (h' := zH I P) 2 rfl ?_
    exact lp_D_keeps_51 P _ _ _ _ hx
  · rw [if_pos c1] at hx
    refine wp_blk (pc' := 11) (L' := [some (.ref 63), some (.int 0)]) (st' := []) (h' := zH I P) 2 rfl ?_
    exact lp_D_keeps_11 P _ _ _ _ hx
def x_D_swaps (I : Nat → Nat → Int32) (a b : Int32) : Option (Int32 × (Nat → Nat → Int32)) := (x_D_placeOf I a).bind (fun q1 => (x_D_placeOf q1.2 b).bind (fun q2 => if zinb q1.1 45 = true then (if zinb q2.1 45 = true then (some (0, (zui (zui q2.2 68 q1.1.toNatClampNeg b) 68 q2.1.toNatClampNeg a))) else none) else none))
set_option maxRecDepth 100000 in
theorem xp_D_swaps {X : Nat × (Nat → Int32)} (I : Nat → Nat → Int32) (P : Nat → Nat → Option Nat) (a b : Int32) (r : Int32 × (Nat → Nat → Int32)) (hx : x_D_swaps I a b = some r) : Wf X 146 [some (.ref 63), some (.int a), some (.int b), none, none] (zH I P) (none) (zH r.2 P) := by
  unfold Wf
  unfold x_D_swaps at hx
  refine wp_blk (pc' := 2) (L' := [some (.ref 63), some (.int a), some (.int b), none, none]) (st' := [.int a, .ref 63]) (h' := zH I P) 2 rfl ?_
  obtain ⟨y1, hy1, hx⟩ := zbind hx
  refine wp_callf (d := 134) (as := [.ref 63, .int a]) (rest := []) (Ld := [some (.ref 63), some (.int a), none, none]) (pc' := 5) (st' := [.int y1.1]) (r := some (.int y1.1)) (h1 := zH y1.2 P) rfl rfl rfl rfl rfl rfl rfl rfl rfl (xp_D_placeOf _ _ _ _ hy1) ?_
  refine wp_blk (pc' := 8) (L' := [some (.ref 63), some (.int a), some (.int b), some (.int y1.1), none]) (st' := [.int b, .ref 63]) (h' := zH y1.2 P) 3 rfl ?_
  obtain ⟨y2, hy2, hx⟩ := zbind hx
  refine wp_callf (d := 134) (as := [.ref 63, .int b]) (rest := []) (Ld := [some (.ref 63), some (.int b), none, none]) (pc' := 11) (st' := [.int y2.1]) (r := some (.int y2.1)) (h1 := zH y2.2 P) rfl rfl rfl rfl rfl rfl rfl rfl rfl (xp_D_placeOf _ _ _ _ hy2) ?_
  refine wp_blk (pc' := 19) (L' := [some (.ref 63), some (.int a), some (.int b), some (.int y1.1), some (.int y2.1)]) (st' := [.int b, .int y1.1, .ref 68]) (h' := zH y2.2 P) 5 rfl ?_
  obtain ⟨c1, hx⟩ := zite hx
  refine wp_chk (P := zinb y1.1 45 = true) (pc' := 20) (L' := [some (.ref 63), some (.int a), some (.int b), some (.int y1.1), some (.int y2.1)]) (st' := []) (h' := zH (zui y2.2 68 y1.1.toNatClampNeg b) P) rfl c1 ?_
  refine wp_blk (pc' := 27) (L' := [some (.ref 63), some (.int a), some (.int b), some (.int y1.1), some (.int y2.1)]) (st' := [.int a, .int y2.1, .ref 68]) (h' := zH (zui y2.2 68 y1.1.toNatClampNeg b) P) 4 rfl ?_
  obtain ⟨c2, hx⟩ := zite hx
  refine wp_chk (P := zinb y2.1 45 = true) (pc' := 28) (L' := [some (.ref 63), some (.int a), some (.int b), some (.int y1.1), some (.int y2.1)]) (st' := []) (h' := zH (zui (zui y2.2 68 y1.1.toNatClampNeg b) 68 y2.1.toNatClampNeg a) P) rfl c2 ?_
  cases hx
  exact wp_end rfl rfl ⟨rfl, rfl⟩
def x_D_change (I : Nat → Nat → Int32) (a b : Int32) : Option (Int32 × (Nat → Nat → Int32)) := if f_D_areTwo I a b = 0 then (some (-1, I)) else ((x_D_keeps I).bind (fun q1 => (x_D_swaps q1.2 a b).bind (fun q2 => (x_D_placeOf q2.2 a).bind (fun q3 => some (q3.1, q3.2)))))
set_option maxRecDepth 100000 in
theorem xp_D_change {X : Nat × (Nat → Int32)} (I : Nat → Nat → Int32) (P : Nat → Nat → Option Nat) (a b : Int32) (r : Int32 × (Nat → Nat → Int32)) (hx : x_D_change I a b = some r) : Wf X 144 [some (.ref 63), some (.int a), some (.int b)] (zH I P) (some (.int r.1)) (zH r.2 P) := by
  unfold Wf
  unfold x_D_change at hx
  refine wp_blk (pc' := 3) (L' := [some (.ref 63), some (.int a), some (.int b)]) (st' := [.int b, .int a, .ref 63]) (h' := zH I P) 3 rfl ?_
  refine wp_callf (d := 137) (as := [.ref 63, .int a, .int b]) (rest := []) (Ld := [some (.ref 63), some (.int a), some (.int b)]) (pc' := 6) (st' := [.int (f_D_areTwo I a b)]) (r := some (.int (f_D_areTwo I a b))) (h1 := zH I P) rfl rfl rfl rfl rfl rfl rfl rfl rfl (sp_D_areTwo I P a b) ?_
  refine wp_ne (a := f_D_areTwo I a b) (b := 0) (s1 := (11, [some (.ref 63), some (.int a), some (.int b)], [], zH I P)) (s2 := (9, [some (.ref 63), some (.int a), some (.int b)], [], zH I P)) rfl (fun c1 => ?_) (fun c1 => ?_)
  · rw [if_neg c1] at hx
    refine wp_blk (pc' := 12) (L' := [some (.ref 63), some (.int a), some (.int b)]) (st' := [.ref 63]) (h' := zH I P) 1 rfl ?_
    obtain ⟨y1, hy1, hx⟩ := zbind hx
    refine wp_callf (d := 145) (as := [.ref 63]) (rest := []) (Ld := [some (.ref 63), none]) (pc' := 15) (st' := []) (r := none) (h1 := zH y1.2 P) rfl rfl rfl rfl rfl rfl rfl rfl rfl (xp_D_keeps _ _  _ hy1) ?_
    refine wp_blk (pc' := 18) (L' := [some (.ref 63), some (.int a), some (.int b)]) (st' := [.int b, .int a, .ref 63]) (h' := zH y1.2 P) 3 rfl ?_
    obtain ⟨y2, hy2, hx⟩ := zbind hx
    refine wp_callf (d := 146) (as := [.ref 63, .int a, .int b]) (rest := []) (Ld := [some (.ref 63), some (.int a), some (.int b), none, none]) (pc' := 21) (st' := []) (r := none) (h1 := zH y2.2 P) rfl rfl rfl rfl rfl rfl rfl rfl rfl (xp_D_swaps _ _ _ _ _ hy2) ?_
    refine wp_blk (pc' := 23) (L' := [some (.ref 63), some (.int a), some (.int b)]) (st' := [.int a, .ref 63]) (h' := zH y2.2 P) 2 rfl ?_
    obtain ⟨y3, hy3, hx⟩ := zbind hx
    refine wp_callf (d := 134) (as := [.ref 63, .int a]) (rest := []) (Ld := [some (.ref 63), some (.int a), none, none]) (pc' := 26) (st' := [.int y3.1]) (r := some (.int y3.1)) (h1 := zH y3.2 P) rfl rfl rfl rfl rfl rfl rfl rfl rfl (xp_D_placeOf _ _ _ _ hy3) ?_
    cases hx
    exact wp_end rfl rfl ⟨rfl, rfl⟩
  · rw [if_pos c1] at hx
    refine wp_blk (pc' := 10) (L' := [some (.ref 63), some (.int a), some (.int b)]) (st' := [.int (-1)]) (h' := zH I P) 1 rfl ?_
    cases hx
    exact wp_end rfl rfl ⟨rfl, rfl⟩
def x_D_away (I : Nat → Nat → Int32) (c : Int32) : Option (Int32 × (Nat → Nat → Int32)) := if f_D_isOne I c = 0 then (some (-1, I)) else ((x_D_keeps I).bind (fun q1 => if f_D_isAway (zui q1.2 68 42 ((q1.2 68 42) ^^^ (1 <<< (c &&& 31)))) c = 0 then (some (0, (zui q1.2 68 42 ((q1.2 68 42) ^^^ (1 <<< (c &&& 31)))))) else (some (1, (zui q1.2 68 42 ((q1.2 68 42) ^^^ (1 <<< (c &&& 31))))))))
set_option maxRecDepth 100000 in
theorem xp_D_away {X : Nat × (Nat → Int32)} (I : Nat → Nat → Int32) (P : Nat → Nat → Option Nat) (c : Int32) (r : Int32 × (Nat → Nat → Int32)) (hx : x_D_away I c = some r) : Wf X 147 [some (.ref 63), some (.int c)] (zH I P) (some (.int r.1)) (zH r.2 P) := by
  unfold Wf
  unfold x_D_away at hx
  refine wp_blk (pc' := 2) (L' := [some (.ref 63), some (.int c)]) (st' := [.int c, .ref 63]) (h' := zH I P) 2 rfl ?_
  refine wp_callf (d := 133) (as := [.ref 63, .int c]) (rest := []) (Ld := [some (.ref 63), some (.int c)]) (pc' := 5) (st' := [.int (f_D_isOne I c)]) (r := some (.int (f_D_isOne I c))) (h1 := zH I P) rfl rfl rfl rfl rfl rfl rfl rfl rfl (sp_D_isOne I P c) ?_
  refine wp_ne (a := f_D_isOne I c) (b := 0) (s1 := (10, [some (.ref 63), some (.int c)], [], zH I P)) (s2 := (8, [some (.ref 63), some (.int c)], [], zH I P)) rfl (fun c1 => ?_) (fun c1 => ?_)
  · rw [if_neg c1] at hx
    refine wp_blk (pc' := 11) (L' := [some (.ref 63), some (.int c)]) (st' := [.ref 63]) (h' := zH I P) 1 rfl ?_
    obtain ⟨y1, hy1, hx⟩ := zbind hx
    refine wp_callf (d := 145) (as := [.ref 63]) (rest := []) (Ld := [some (.ref 63), none]) (pc' := 14) (st' := []) (r := none) (h1 := zH y1.2 P) rfl rfl rfl rfl rfl rfl rfl rfl rfl (xp_D_keeps _ _  _ hy1) ?_
    refine wp_blk (pc' := 29) (L' := [some (.ref 63), some (.int c)]) (st' := [.int c, .ref 63]) (h' := zH (zui y1.2 68 42 ((y1.2 68 42) ^^^ (1 <<< (c &&& 31)))) P) 12 rfl ?_
    refine wp_callf (d := 135) (as := [.ref 63, .int c]) (rest := []) (Ld := [some (.ref 63), some (.int c)]) (pc' := 32) (st' := [.int (f_D_isAway (zui y1.2 68 42 ((y1.2 68 42) ^^^ (1 <<< (c &&& 31)))) c)]) (r := some (.int (f_D_isAway (zui y1.2 68 42 ((y1.2 68 42) ^^^ (1 <<< (c &&& 31)))) c))) (h1 := zH (zui y1.2 68 42 ((y1.2 68 42) ^^^ (1 <<< (c &&& 31)))) P) rfl rfl rfl rfl rfl rfl rfl rfl rfl (sp_D_isAway (zui y1.2 68 42 ((y1.2 68 42) ^^^ (1 <<< (c &&& 31)))) P c) ?_
    refine wp_eq (a := f_D_isAway (zui y1.2 68 42 ((y1.2 68 42) ^^^ (1 <<< (c &&& 31)))) c) (b := 0) (s1 := (39, [some (.ref 63), some (.int c)], [], zH (zui y1.2 68 42 ((y1.2 68 42) ^^^ (1 <<< (c &&& 31)))) P)) (s2 := (35, [some (.ref 63), some (.int c)], [], zH (zui y1.2 68 42 ((y1.2 68 42) ^^^ (1 <<< (c &&& 31)))) P)) rfl (fun c2 => ?_) (fun c2 => ?_)
    · rw [if_pos c2] at hx
      refine wp_blk (pc' := 40) (L' := [some (.ref 63), some (.int c)]) (st' := [.int 0]) (h' := zH (zui y1.2 68 42 ((y1.2 68 42) ^^^ (1 <<< (c &&& 31)))) P) 1 rfl ?_
      cases hx
      exact wp_end rfl rfl ⟨rfl, rfl⟩
    · rw [if_neg c2] at hx
      refine wp_blk (pc' := 40) (L' := [some (.ref 63), some (.int c)]) (st' := [.int 1]) (h' := zH (zui y1.2 68 42 ((y1.2 68 42) ^^^ (1 <<< (c &&& 31)))) P) 2 rfl ?_
      cases hx
      exact wp_end rfl rfl ⟨rfl, rfl⟩
  · rw [if_pos c1] at hx
    refine wp_blk (pc' := 9) (L' := [some (.ref 63), some (.int c)]) (st' := [.int (-1)]) (h' := zH I P) 1 rfl ?_
    cases hx
    exact wp_end rfl rfl ⟨rfl, rfl⟩
def x_D_say (I : Nat → Nat → Int32) (i j v : Int32) : Option (Int32 × (Nat → Nat → Int32)) := if f_D_areTwo I i j = 0 then (some (-1, I)) else (if f_D_in I v 0 6 = 0 then (some (-1, I)) else ((x_D_keeps I).bind (fun q1 => if zinb ((6 + (6 * i)) + j) 45 = true then (if zinb ((6 + (6 * i)) + j) 45 = true then (some (q1.2 68 (((6 + (6 * i)) + j).toNatClampNeg), (zui q1.2 68 (((6 + (6 * i)) + j).toNatClampNeg) v))) else none) else none)))
set_option maxRecDepth 100000 in
theorem xp_D_say {X : Nat × (Nat → Int32)} (I : Nat → Nat → Int32) (P : Nat → Nat → Option Nat) (i j v : Int32) (r : Int32 × (Nat → Nat → Int32)) (hx : x_D_say I i j v = some r) : Wf X 148 [some (.ref 63), some (.int i), some (.int j), some (.int v), none] (zH I P) (some (.int r.1)) (zH r.2 P) := by
  unfold Wf
  unfold x_D_say at hx
  refine wp_blk (pc' := 3) (L' := [some (.ref 63), some (.int i), some (.int j), some (.int v), none]) (st' := [.int j, .int i, .ref 63]) (h' := zH I P) 3 rfl ?_
  refine wp_callf (d := 137) (as := [.ref 63, .int i, .int j]) (rest := []) (Ld := [some (.ref 63), some (.int i), some (.int j)]) (pc' := 6) (st' := [.int (f_D_areTwo I i j)]) (r := some (.int (f_D_areTwo I i j))) (h1 := zH I P) rfl rfl rfl rfl rfl rfl rfl rfl rfl (sp_D_areTwo I P i j) ?_
  refine wp_eq (a := f_D_areTwo I i j) (b := 0) (s1 := (19, [some (.ref 63), some (.int i), some (.int j), some (.int v), none], [], zH I P)) (s2 := (9, [some (.ref 63), some (.int i), some (.int j), some (.int v), none], [], zH I P)) rfl (fun c1 => ?_) (fun c1 => ?_)
  · rw [if_pos c1] at hx
    refine wp_blk (pc' := 20) (L' := [some (.ref 63), some (.int i), some (.int j), some (.int v), none]) (st' := [.int (-1)]) (h' := zH I P) 1 rfl ?_
    cases hx
    exact wp_end rfl rfl ⟨rfl, rfl⟩
  · rw [if_neg c1] at hx
    refine wp_blk (pc' := 13) (L' := [some (.ref 63), some (.int i), some (.int j), some (.int v), none]) (st' := [.int 6, .int 0, .int v]) (h' := zH I P) 3 rfl ?_
    refine wp_callf (d := 123) (as := [.int v, .int 0, .int 6]) (rest := []) (Ld := [some (.int v), some (.int 0), some (.int 6)]) (pc' := 16) (st' := [.int (f_D_in I v 0 6)]) (r := some (.int (f_D_in I v 0 6))) (h1 := zH I P) rfl rfl rfl rfl rfl rfl rfl rfl rfl (sp_D_in I P v 0 6) ?_
    refine wp_ne (a := f_D_in I v 0 6) (b := 0) (s1 := (21, [some (.ref 63), some (.int i), some (.int j), some (.int v), none], [], zH I P)) (s2 := (19, [some (.ref 63), some (.int i), some (.int j), some (.int v), none], [], zH I P)) rfl (fun c2 => ?_) (fun c2 => ?_)
    · rw [if_neg c2] at hx
      refine wp_blk (pc' := 22) (L' := [some (.ref 63), some (.int i), some (.int j), some (.int v), none]) (st' := [.ref 63]) (h' := zH I P) 1 rfl ?_
      obtain ⟨y1, hy1, hx⟩ := zbind hx
      refine wp_callf (d := 145) (as := [.ref 63]) (rest := []) (Ld := [some (.ref 63), none]) (pc' := 25) (st' := []) (r := none) (h1 := zH y1.2 P) rfl rfl rfl rfl rfl rfl rfl rfl rfl (xp_D_keeps _ _  _ hy1) ?_
      refine wp_blk (pc' := 38) (L' := [some (.ref 63), some (.int i), some (.int j), some (.int v), none]) (st' := [.int ((6 + (6 * i)) + j), .ref 68]) (h' := zH y1.2 P) 9 rfl ?_
      obtain ⟨c3, hx⟩ := zite hx
      refine wp_chk (P := zinb ((6 + (6 * i)) + j) 45 = true) (pc' := 39) (L' := [some (.ref 63), some (.int i), some (.int j), some (.int v), none]) (st' := [.int (y1.2 68 (((6 + (6 * i)) + j).toNatClampNeg))]) (h' := zH y1.2 P) rfl c3 ?_
      refine wp_blk (pc' := 55) (L' := [some (.ref 63), some (.int i), some (.int j), some (.int v), some (.int (y1.2 68 (((6 + (6 * i)) + j).toNatClampNeg)))]) (st' := [.int v, .int ((6 + (6 * i)) + j), .ref 68]) (h' := zH y1.2 P) 11 rfl ?_
      obtain ⟨c4, hx⟩ := zite hx
      refine wp_chk (P := zinb ((6 + (6 * i)) + j) 45 = true) (pc' := 56) (L' := [some (.ref 63), some (.int i), some (.int j), some (.int v), some (.int (y1.2 68 (((6 + (6 * i)) + j).toNatClampNeg)))]) (st' := []) (h' := zH (zui y1.2 68 (((6 + (6 * i)) + j).toNatClampNeg) v) P) rfl c4 ?_
      refine wp_blk (pc' := 58) (L' := [some (.ref 63), some (.int i), some (.int j), some (.int v), some (.int (y1.2 68 (((6 + (6 * i)) + j).toNatClampNeg)))]) (st' := [.int (y1.2 68 (((6 + (6 * i)) + j).toNatClampNeg))]) (h' := zH (zui y1.2 68 (((6 + (6 * i)) + j).toNatClampNeg) v) P) 1 rfl ?_
      cases hx
      exact wp_end rfl rfl ⟨rfl, rfl⟩
    · rw [if_pos c2] at hx
      refine wp_blk (pc' := 20) (L' := [some (.ref 63), some (.int i), some (.int j), some (.int v), none]) (st' := [.int (-1)]) (h' := zH I P) 1 rfl ?_
      cases hx
      exact wp_end rfl rfl ⟨rfl, rfl⟩
def x_D_passes (I : Nat → Nat → Int32) : Option (Int32 × (Nat → Nat → Int32)) := (x_D_today I).bind (fun q1 => some (0, (zui (zui q1.2 68 43 (q1.2 63 19)) 68 44 ((q1.2 68 44) + 1))))
set_option maxRecDepth 100000 in
theorem xp_D_passes {X : Nat × (Nat → Int32)} (I : Nat → Nat → Int32) (P : Nat → Nat → Option Nat) (r : Int32 × (Nat → Nat → Int32)) (hx : x_D_passes I = some r) : Wf X 150 [some (.ref 63)] (zH I P) (none) (zH r.2 P) := by
  unfold Wf
  unfold x_D_passes at hx
  refine wp_blk (pc' := 1) (L' := [some (.ref 63)]) (st' := [.ref 63]) (h' := zH I P) 1 rfl ?_
  obtain ⟨y1, hy1, hx⟩ := zbind hx
  refine wp_callf (d := 139) (as := [.ref 63]) (rest := []) (Ld := [some (.ref 63)]) (pc' := 4) (st' := []) (r := none) (h1 := zH y1.2 P) rfl rfl rfl rfl rfl rfl rfl rfl rfl (xp_D_today _ _  _ hy1) ?_
  refine wp_blk (pc' := 26) (L' := [some (.ref 63)]) (st' := []) (h' := zH (zui (zui y1.2 68 43 (y1.2 63 19)) 68 44 ((y1.2 68 44) + 1)) P) 14 rfl ?_
  cases hx
  exact wp_end rfl rfl ⟨rfl, rfl⟩
def x_D_day (I : Nat → Nat → Int32) : Option (Int32 × (Nat → Nat → Int32)) := (x_D_keeps I).bind (fun q1 => (x_D_passes q1.2).bind (fun q2 => some (q2.2 68 44, q2.2)))
set_option maxRecDepth 100000 in
theorem xp_D_day {X : Nat × (Nat → Int32)} (I : Nat → Nat → Int32) (P : Nat → Nat → Option Nat) (r : Int32 × (Nat → Nat → Int32)) (hx : x_D_day I = some r) : Wf X 149 [some (.ref 63)] (zH I P) (some (.int r.1)) (zH r.2 P) := by
  unfold Wf
  unfold x_D_day at hx
  refine wp_blk (pc' := 1) (L' := [some (.ref 63)]) (st' := [.ref 63]) (h' := zH I P) 1 rfl ?_
  obtain ⟨y1, hy1, hx⟩ := zbind hx
  refine wp_callf (d := 145) (as := [.ref 63]) (rest := []) (Ld := [some (.ref 63), none]) (pc' := 4) (st' := []) (r := none) (h1 := zH y1.2 P) rfl rfl rfl rfl rfl rfl rfl rfl rfl (xp_D_keeps _ _  _ hy1) ?_
  refine wp_blk (pc' := 5) (L' := [some (.ref 63)]) (st' := [.ref 63]) (h' := zH y1.2 P) 1 rfl ?_
  obtain ⟨y2, hy2, hx⟩ := zbind hx
  refine wp_callf (d := 150) (as := [.ref 63]) (rest := []) (Ld := [some (.ref 63)]) (pc' := 8) (st' := []) (r := none) (h1 := zH y2.2 P) rfl rfl rfl rfl rfl rfl rfl rfl rfl (xp_D_passes _ _  _ hy2) ?_
  refine wp_blk (pc' := 15) (L' := [some (.ref 63)]) (st' := [.int (y2.2 68 44)]) (h' := zH y2.2 P) 4 rfl ?_
  cases hx
  exact wp_end rfl rfl ⟨rfl, rfl⟩
def l_D_undo_22 : Nat → (Nat → Nat → Int32) → Int32 → Option (Int32 × (Nat → Nat → Int32))
  | 0, _, _ => none
  | n + 1, I, x1 => if 45 ≤ x1 then (some (I 63 9, I)) else (if zinb ((45 * (I 63 9)) + x1) 360 = true then (if zinb x1 45 = true then (l_D_undo_22 n (zui I 68 x1.toNatClampNeg (I 69 (((45 * (I 63 9)) + x1).toNatClampNeg))) (x1 + 1)) else none) else none)
def x_D_undo (I : Nat → Nat → Int32) : Option (Int32 × (Nat → Nat → Int32)) := if I 63 9 = 0 then (some (-2, I)) else (l_D_undo_22 1000 (zui I 63 9 ((I 63 9) - 1)) 0)
set_option maxRecDepth 100000 in
theorem lp_D_undo_22 {X : Nat × (Nat → Int32)} (P : Nat → Nat → Option Nat) : ∀ (n : Nat) (I : Nat → Nat → Int32) (x1 : Int32) (r : Int32 × (Nat → Nat → Int32)), l_D_undo_22 n I x1 = some r → Wp X 151 22 [some (.ref 63), some (.int x1)] [] (zH I P) (fun r2 h2 => r2 = some (.int r.1) ∧ h2 = zH r.2 P) := by
  intro n
  induction n with
  | zero => intro I x1 r hx; cases hx
  | succ n ih =>
    intro I x1 r hx
    rw [l_D_undo_22] at hx
    refine wp_blk (pc' := 25) (L' := [some (.ref 63), some (.int x1)]) (st' := [.int 45, .int x1]) (h' := zH I P) 2 rfl ?_
    refine wp_ge (a := x1) (b := 45) (s1 := (54, [some (.ref 63), some (.int x1)], [], zH I P)) (s2 := (28, [some (.ref 63), some (.int x1)], [], zH I P)) rfl (fun c1 => ?_) (fun c1 => ?_)
    · rw [if_pos c1] at hx
      refine wp_blk (pc' := 58) (L' := [some (.ref 63), some (.int x1)]) (st' := [.int (I 63 9)]) (h' := zH I P) 2 rfl ?_
      cases hx
      exact wp_end rfl rfl ⟨rfl, rfl⟩
    · rw [if_neg c1] at hx
      refine wp_blk (pc' := 46) (L' := [some (.ref 63), some (.int x1)]) (st' := [.int ((45 * (I 63 9)) + x1), .ref 69, .int x1, .ref 68]) (h' := zH I P) 11 rfl ?_
      obtain ⟨c2, hx⟩ := zite hx
      refine wp_chk (P := zinb ((45 * (I 63 9)) + x1) 360 = true) (pc' := 47) (L' := [some (.ref 63), some (.int x1)]) (st' := [.int (I 69 (((45 * (I 63 9)) + x1).toNatClampNeg)), .int x1, .ref 68]) (h' := zH I P) rfl c2 ?_
      obtain ⟨c3, hx⟩ := zite hx
      refine wp_chk (P := zinb x1 45 = true) (pc' := 48) (L' := [some (.ref 63), some (.int x1)]) (st' := []) (h' := zH (zui I 68 x1.toNatClampNeg (I 69 (((45 * (I 63 9)) + x1).toNatClampNeg))) P) rfl c3 ?_
      refine wp_blk (pc' := 22) (L' := [some (.ref 63), some (.int (x1 + 1))]) (st' := []) (h' := zH (zui I 68 x1.toNatClampNeg (I 69 (((45 * (I 63 9)) + x1).toNatClampNeg))) P) 2 rfl ?_
      exact ih _ _ _ hx
set_option maxRecDepth 100000 in
theorem xp_D_undo {X : Nat × (Nat → Int32)} (I : Nat → Nat → Int32) (P : Nat → Nat → Option Nat) (r : Int32 × (Nat → Nat → Int32)) (hx : x_D_undo I = some r) : Wf X 151 [some (.ref 63), none] (zH I P) (some (.int r.1)) (zH r.2 P) := by
  unfold Wf
  unfold x_D_undo at hx
  refine wp_blk (pc' := 4) (L' := [some (.ref 63), none]) (st' := [.int (I 63 9)]) (h' := zH I P) 2 rfl ?_
  refine wp_ne (a := I 63 9) (b := 0) (s1 := (10, [some (.ref 63), none], [], zH I P)) (s2 := (7, [some (.ref 63), none], [], zH I P)) rfl (fun c1 => ?_) (fun c1 => ?_)
  · rw [if_neg c1] at hx
    refine wp_blk (pc' := 22) (L' := [some (.ref 63), some (.int 0)]) (st' := []) (h' := zH (zui I 63 9 ((I 63 9) - 1)) P) 8 rfl ?_
    exact lp_D_undo_22 P _ _ _ _ hx
  · rw [if_pos c1] at hx
    refine wp_blk (pc' := 9) (L' := [some (.ref 63), none]) (st' := [.int (-2)]) (h' := zH I P) 1 rfl ?_
    cases hx
    exact wp_end rfl rfl ⟨rfl, rfl⟩
def l_D_holds_2 : Nat → (Nat → Nat → Int32) → Int32 → Option (Int32 × (Nat → Nat → Int32))
  | 0, _, _ => none
  | n + 1, I, x1 => if 45 ≤ x1 then (some (0, I)) else (if zinb x1 45 = true then (if zinb x1 45 = true then (l_D_holds_2 n (zui I 75 x1.toNatClampNeg (I 68 x1.toNatClampNeg)) (x1 + 1)) else none) else none)
def x_D_holds (I : Nat → Nat → Int32) : Option (Int32 × (Nat → Nat → Int32)) := l_D_holds_2 1000 I 0
set_option maxRecDepth 100000 in
theorem lp_D_holds_2 {X : Nat × (Nat → Int32)} (P : Nat → Nat → Option Nat) : ∀ (n : Nat) (I : Nat → Nat → Int32) (x1 : Int32) (r : Int32 × (Nat → Nat → Int32)), l_D_holds_2 n I x1 = some r → Wp X 153 2 [some (.ref 63), some (.int x1)] [] (zH I P) (fun r2 h2 => r2 = none ∧ h2 = zH r.2 P) := by
  intro n
  induction n with
  | zero => intro I x1 r hx; cases hx
  | succ n ih =>
    intro I x1 r hx
    rw [l_D_holds_2] at hx
    refine wp_blk (pc' := 5) (L' := [some (.ref 63), some (.int x1)]) (st' := [.int 45, .int x1]) (h' := zH I P) 2 rfl ?_
    refine wp_ge (a := x1) (b := 45) (s1 := (26, [some (.ref 63), some (.int x1)], [], zH I P)) (s2 := (8, [some (.ref 63), some (.int x1)], [], zH I P)) rfl (fun c1 => ?_) (fun c1 => ?_)
    · rw [if_pos c1] at hx
      cases hx
      exact wp_end rfl rfl ⟨rfl, rfl⟩
    · rw [if_neg c1] at hx
      refine wp_blk (pc' := 18) (L' := [some (.ref 63), some (.int x1)]) (st' := [.int x1, .ref 68, .int x1, .ref 75]) (h' := zH I P) 6 rfl ?_
      obtain ⟨c2, hx⟩ := zite hx
      refine wp_chk (P := zinb x1 45 = true) (pc' := 19) (L' := [some (.ref 63), some (.int x1)]) (st' := [.int (I 68 x1.toNatClampNeg), .int x1, .ref 75]) (h' := zH I P) rfl c2 ?_
      obtain ⟨c3, hx⟩ := zite hx
      refine wp_chk (P := zinb x1 45 = true) (pc' := 20) (L' := [some (.ref 63), some (.int x1)]) (st' := []) (h' := zH (zui I 75 x1.toNatClampNeg (I 68 x1.toNatClampNeg)) P) rfl c3 ?_
      refine wp_blk (pc' := 2) (L' := [some (.ref 63), some (.int (x1 + 1))]) (st' := []) (h' := zH (zui I 75 x1.toNatClampNeg (I 68 x1.toNatClampNeg)) P) 2 rfl ?_
      exact ih _ _ _ hx
set_option maxRecDepth 100000 in
theorem xp_D_holds {X : Nat × (Nat → Int32)} (I : Nat → Nat → Int32) (P : Nat → Nat → Option Nat) (r : Int32 × (Nat → Nat → Int32)) (hx : x_D_holds I = some r) : Wf X 153 [some (.ref 63), none] (zH I P) (none) (zH r.2 P) := by
  unfold Wf
  unfold x_D_holds at hx
  refine wp_blk (pc' := 2) (L' := [some (.ref 63), some (.int 0)]) (st' := []) (h' := zH I P) 2 rfl ?_
  exact lp_D_holds_2 P _ _ _ _ hx
def l_D_lets_2 : Nat → (Nat → Nat → Int32) → Int32 → Option (Int32 × (Nat → Nat → Int32))
  | 0, _, _ => none
  | n + 1, I, x1 => if 45 ≤ x1 then (some (0, I)) else (if zinb x1 45 = true then (if zinb x1 45 = true then (l_D_lets_2 n (zui I 68 x1.toNatClampNeg (I 75 x1.toNatClampNeg)) (x1 + 1)) else none) else none)
def x_D_lets (I : Nat → Nat → Int32) : Option (Int32 × (Nat → Nat → Int32)) := l_D_lets_2 1000 I 0
set_option maxRecDepth 100000 in
theorem lp_D_lets_2 {X : Nat × (Nat → Int32)} (P : Nat → Nat → Option Nat) : ∀ (n : Nat) (I : Nat → Nat → Int32) (x1 : Int32) (r : Int32 × (Nat → Nat → Int32)), l_D_lets_2 n I x1 = some r → Wp X 154 2 [some (.ref 63), some (.int x1)] [] (zH I P) (fun r2 h2 => r2 = none ∧ h2 = zH r.2 P) := by
  intro n
  induction n with
  | zero => intro I x1 r hx; cases hx
  | succ n ih =>
    intro I x1 r hx
    rw [l_D_lets_2] at hx
    refine wp_blk (pc' := 5) (L' := [some (.ref 63), some (.int x1)]) (st' := [.int 45, .int x1]) (h' := zH I P) 2 rfl ?_
    refine wp_ge (a := x1) (b := 45) (s1 := (26, [some (.ref 63), some (.int x1)], [], zH I P)) (s2 := (8, [some (.ref 63), some (.int x1)], [], zH I P)) rfl (fun c1 => ?_) (fun c1 => ?_)
    · rw [if_pos c1] at hx
      cases hx
      exact wp_end rfl rfl ⟨rfl, rfl⟩
    · rw [if_neg c1] at hx
      refine wp_blk (pc' := 18) (L' := [some (.ref 63), some (.int x1)]) (st' := [.int x1, .ref 75, .int x1, .ref 68]) (h' := zH I P) 6 rfl ?_
      obtain ⟨c2, hx⟩ := zite hx
      refine wp_chk (P := zinb x1 45 = true) (pc' := 19) (L' := [some (.ref 63), some (.int x1)]) (st' := [.int (I 75 x1.toNatClampNeg), .int x1, .ref 68]) (h' := zH I P) rfl c2 ?_
      obtain ⟨c3, hx⟩ := zite hx
      refine wp_chk (P := zinb x1 45 = true) (pc' := 20) (L' := [some (.ref 63), some (.int x1)]) (st' := []) (h' := zH (zui I 68 x1.toNatClampNeg (I 75 x1.toNatClampNeg)) P) rfl c3 ?_
      refine wp_blk (pc' := 2) (L' := [some (.ref 63), some (.int (x1 + 1))]) (st' := []) (h' := zH (zui I 68 x1.toNatClampNeg (I 75 x1.toNatClampNeg)) P) 2 rfl ?_
      exact ih _ _ _ hx
set_option maxRecDepth 100000 in
theorem xp_D_lets {X : Nat × (Nat → Int32)} (I : Nat → Nat → Int32) (P : Nat → Nat → Option Nat) (r : Int32 × (Nat → Nat → Int32)) (hx : x_D_lets I = some r) : Wf X 154 [some (.ref 63), none] (zH I P) (none) (zH r.2 P) := by
  unfold Wf
  unfold x_D_lets at hx
  refine wp_blk (pc' := 2) (L' := [some (.ref 63), some (.int 0)]) (st' := []) (h' := zH I P) 2 rfl ?_
  exact lp_D_lets_2 P _ _ _ _ hx
def l_D_behind_31 : Nat → (Nat → Nat → Int32) → Int32 → Int32 → Int32 → Option (Int32 × (Nat → Nat → Int32))
  | 0, _, _, _, _ => none
  | n + 1, I, x1, x2, x3 => if x1 ≤ x3 then (if 0 ≤ x2 then (if x1 = 0 then ((x_D_lets I).bind (fun q2 => some (-4, q2.2))) else (if f_D_isAway I x2 = 0 then (if zinb x2 6 = true then ((x_D_lets I).bind (fun q3 => some (I 73 x2.toNatClampNeg, q3.2))) else none) else ((x_D_lets I).bind (fun q4 => some (-4, q4.2))))) else ((x_D_lets I).bind (fun q5 => some (I 68 43, q5.2)))) else ((x_D_passes I).bind (fun q6 => l_D_behind_31 n q6.2 x1 x2 (x3 + 1)))
def x_D_behind (I : Nat → Nat → Int32) (n c : Int32) : Option (Int32 × (Nat → Nat → Int32)) := if f_D_in I n 0 60 = 0 then (some (-1, I)) else (if c = -1 then ((x_D_holds I).bind (fun q1 => l_D_behind_31 1000 q1.2 n c 0)) else (if f_D_isOne I c = 0 then (some (-1, I)) else ((x_D_holds I).bind (fun q7 => l_D_behind_31 1000 q7.2 n c 0))))
set_option maxRecDepth 100000 in
theorem lp_D_behind_31 {X : Nat × (Nat → Int32)} (P : Nat → Nat → Option Nat) : ∀ (n : Nat) (I : Nat → Nat → Int32) (x1 : Int32) (x2 : Int32) (x3 : Int32) (r : Int32 × (Nat → Nat → Int32)), l_D_behind_31 n I x1 x2 x3 = some r → Wp X 152 31 [some (.ref 63), some (.int x1), some (.int x2), some (.int x3)] [] (zH I P) (fun r2 h2 => r2 = some (.int r.1) ∧ h2 = zH r.2 P) := by
  intro n
  induction n with
  | zero => intro I x1 x2 x3 r hx; cases hx
  | succ n ih =>
    intro I x1 x2 x3 r hx
    rw [l_D_behind_31] at hx
    refine wp_blk (pc' := 33) (L' := [some (.ref 63), some (.int x1), some (.int x2), some (.int x3)]) (st' := [.int x1, .int x3]) (h' := zH I P) 2 rfl ?_
    refine wp_ge (a := x3) (b := x1) (s1 := (46, [some (.ref 63), some (.int x1), some (.int x2), some (.int x3)], [], zH I P)) (s2 := (36, [some (.ref 63), some (.int x1), some (.int x2), some (.int x3)], [], zH I P)) rfl (fun c1 => ?_) (fun c1 => ?_)
    · rw [if_pos c1] at hx
      refine wp_blk (pc' := 47) (L' := [some (.ref 63), some (.int x1), some (.int x2), some (.int x3)]) (st' := [.int x2]) (h' := zH I P) 1 rfl ?_
      refine wp_ge (a := x2) (b := 0) (s1 := (60, [some (.ref 63), some (.int x1), some (.int x2), some (.int x3)], [], zH I P)) (s2 := (50, [some (.ref 63), some (.int x1), some (.int x2), some (.int x3)], [], zH I P)) rfl (fun c2 => ?_) (fun c2 => ?_)
      · rw [if_pos c2] at hx
        refine wp_blk (pc' := 61) (L' := [some (.ref 63), some (.int x1), some (.int x2), some (.int x3)]) (st' := [.int x1]) (h' := zH I P) 1 rfl ?_
        refine wp_eq (a := x1) (b := 0) (s1 := (72, [some (.ref 63), some (.int x1), some (.int x2), some (.int x3)], [], zH I P)) (s2 := (64, [some (.ref 63), some (.int x1), some (.int x2), some (.int x3)], [], zH I P)) rfl (fun c3 => ?_) (fun c3 => ?_)
        · rw [if_pos c3] at hx
          refine wp_blk (pc' := 85) (L' := [some (.ref 63), some (.int x1), some (.int x2), some (.int (-4))]) (st' := [.ref 63]) (h' := zH I P) 4 rfl ?_
          obtain ⟨y1, hy1, hx⟩ := zbind hx
          refine wp_callf (d := 154) (as := [.ref 63]) (rest := []) (Ld := [some (.ref 63), none]) (pc' := 88) (st' := []) (r := none) (h1 := zH y1.2 P) rfl rfl rfl rfl rfl rfl rfl rfl rfl (xp_D_lets _ _  _ hy1) ?_
          refine wp_blk (pc' := 89) (L' := [some (.ref 63), some (.int x1), some (.int x2), some (.int (-4))]) (st' := [.int (-4)]) (h' := zH y1.2 P) 1 rfl ?_
          cases hx
          exact wp_end rfl rfl ⟨rfl, rfl⟩
        · rw [if_neg c3] at hx
          refine wp_blk (pc' := 66) (L' := [some (.ref 63), some (.int x1), some (.int x2), some (.int x3)]) (st' := [.int x2, .ref 63]) (h' := zH I P) 2 rfl ?_
          refine wp_callf (d := 135) (as := [.ref 63, .int x2]) (rest := []) (Ld := [some (.ref 63), some (.int x2)]) (pc' := 69) (st' := [.int (f_D_isAway I x2)]) (r := some (.int (f_D_isAway I x2))) (h1 := zH I P) rfl rfl rfl rfl rfl rfl rfl rfl rfl (sp_D_isAway I P x2) ?_
          refine wp_eq (a := f_D_isAway I x2) (b := 0) (s1 := (77, [some (.ref 63), some (.int x1), some (.int x2), some (.int x3)], [], zH I P)) (s2 := (72, [some (.ref 63), some (.int x1), some (.int x2), some (.int x3)], [], zH I P)) rfl (fun c4 => ?_) (fun c4 => ?_)
          · rw [if_pos c4] at hx
            refine wp_blk (pc' := 82) (L' := [some (.ref 63), some (.int x1), some (.int x2), some (.int x3)]) (st' := [.int x2, .ref 73]) (h' := zH I P) 3 rfl ?_
            obtain ⟨c5, hx⟩ := zite hx
            refine wp_chk (P := zinb x2 6 = true) (pc' := 83) (L' := [some (.ref 63), some (.int x1), some (.int x2), some (.int x3)]) (st' := [.int (I 73 x2.toNatClampNeg)]) (h' := zH I P) rfl c5 ?_
            refine wp_blk (pc' := 85) (L' := [some (.ref 63), some (.int x1), some (.int x2), some (.int (I 73 x2.toNatClampNeg))]) (st' := [.ref 63]) (h' := zH I P) 2 rfl ?_
            obtain ⟨y2, hy2, hx⟩ := zbind hx
            refine wp_callf (d := 154) (as := [.ref 63]) (rest := []) (Ld := [some (.ref 63), none]) (pc' := 88) (st' := []) (r := none) (h1 := zH y2.2 P) rfl rfl rfl rfl rfl rfl rfl rfl rfl (xp_D_lets _ _  _ hy2) ?_
            refine wp_blk (pc' := 89) (L' := [some (.ref 63), some (.int x1), some (.int x2), some (.int (I 73 x2.toNatClampNeg))]) (st' := [.int (I 73 x2.toNatClampNeg)]) (h' := zH y2.2 P) 1 rfl ?_
            cases hx
            exact wp_end rfl rfl ⟨rfl, rfl⟩
          · rw [if_neg c4] at hx
            refine wp_blk (pc' := 85) (L' := [some (.ref 63), some (.int x1), some (.int x2), some (.int (-4))]) (st' := [.ref 63]) (h' := zH I P) 4 rfl ?_
            obtain ⟨y3, hy3, hx⟩ := zbind hx
            refine wp_callf (d := 154) (as := [.ref 63]) (rest := []) (Ld := [some (.ref 63), none]) (pc' := 88) (st' := []) (r := none) (h1 := zH y3.2 P) rfl rfl rfl rfl rfl rfl rfl rfl rfl (xp_D_lets _ _  _ hy3) ?_
            refine wp_blk (pc' := 89) (L' := [some (.ref 63), some (.int x1), some (.int x2), some (.int (-4))]) (st' := [.int (-4)]) (h' := zH y3.2 P) 1 rfl ?_
            cases hx
            exact wp_end rfl rfl ⟨rfl, rfl⟩
      · rw [if_neg c2] at hx
        refine wp_blk (pc' := 85) (L' := [some (.ref 63), some (.int x1), some (.int x2), some (.int (I 68 43))]) (st' := [.ref 63]) (h' := zH I P) 7 rfl ?_
        obtain ⟨y4, hy4, hx⟩ := zbind hx
        refine wp_callf (d := 154) (as := [.ref 63]) (rest := []) (Ld := [some (.ref 63), none]) (pc' := 88) (st' := []) (r := none) (h1 := zH y4.2 P) rfl rfl rfl rfl rfl rfl rfl rfl rfl (xp_D_lets _ _  _ hy4) ?_
        refine wp_blk (pc' := 89) (L' := [some (.ref 63), some (.int x1), some (.int x2), some (.int (I 68 43))]) (st' := [.int (I 68 43)]) (h' := zH y4.2 P) 1 rfl ?_
        cases hx
        exact wp_end rfl rfl ⟨rfl, rfl⟩
    · rw [if_neg c1] at hx
      refine wp_blk (pc' := 37) (L' := [some (.ref 63), some (.int x1), some (.int x2), some (.int x3)]) (st' := [.ref 63]) (h' := zH I P) 1 rfl ?_
      obtain ⟨y5, hy5, hx⟩ := zbind hx
      refine wp_callf (d := 150) (as := [.ref 63]) (rest := []) (Ld := [some (.ref 63)]) (pc' := 40) (st' := []) (r := none) (h1 := zH y5.2 P) rfl rfl rfl rfl rfl rfl rfl rfl rfl (xp_D_passes _ _  _ hy5) ?_
      refine wp_blk (pc' := 31) (L' := [some (.ref 63), some (.int x1), some (.int x2), some (.int (x3 + 1))]) (st' := []) (h' := zH y5.2 P) 2 rfl ?_
      exact ih _ _ _ _ _ hx
set_option maxRecDepth 100000 in
theorem xp_D_behind {X : Nat × (Nat → Int32)} (I : Nat → Nat → Int32) (P : Nat → Nat → Option Nat) (n c : Int32) (r : Int32 × (Nat → Nat → Int32)) (hx : x_D_behind I n c = some r) : Wf X 152 [some (.ref 63), some (.int n), some (.int c), none] (zH I P) (some (.int r.1)) (zH r.2 P) := by
  unfold Wf
  unfold x_D_behind at hx
  refine wp_blk (pc' := 4) (L' := [some (.ref 63), some (.int n), some (.int c), none]) (st' := [.int 60, .int 0, .int n]) (h' := zH I P) 3 rfl ?_
  refine wp_callf (d := 123) (as := [.int n, .int 0, .int 60]) (rest := []) (Ld := [some (.int n), some (.int 0), some (.int 60)]) (pc' := 7) (st' := [.int (f_D_in I n 0 60)]) (r := some (.int (f_D_in I n 0 60))) (h1 := zH I P) rfl rfl rfl rfl rfl rfl rfl rfl rfl (sp_D_in I P n 0 60) ?_
  refine wp_eq (a := f_D_in I n 0 60) (b := 0) (s1 := (23, [some (.ref 63), some (.int n), some (.int c), none], [], zH I P)) (s2 := (10, [some (.ref 63), some (.int n), some (.int c), none], [], zH I P)) rfl (fun c1 => ?_) (fun c1 => ?_)
  · rw [if_pos c1] at hx
    refine wp_blk (pc' := 24) (L' := [some (.ref 63), some (.int n), some (.int c), none]) (st' := [.int (-1)]) (h' := zH I P) 1 rfl ?_
    cases hx
    exact wp_end rfl rfl ⟨rfl, rfl⟩
  · rw [if_neg c1] at hx
    refine wp_blk (pc' := 12) (L' := [some (.ref 63), some (.int n), some (.int c), none]) (st' := [.int (-1), .int c]) (h' := zH I P) 2 rfl ?_
    refine wp_eq (a := c) (b := -1) (s1 := (25, [some (.ref 63), some (.int n), some (.int c), none], [], zH I P)) (s2 := (15, [some (.ref 63), some (.int n), some (.int c), none], [], zH I P)) rfl (fun c2 => ?_) (fun c2 => ?_)
    · rw [if_pos c2] at hx
      refine wp_blk (pc' := 26) (L' := [some (.ref 63), some (.int n), some (.int c), none]) (st' := [.ref 63]) (h' := zH I P) 1 rfl ?_
      obtain ⟨y1, hy1, hx⟩ := zbind hx
      refine wp_callf (d := 153) (as := [.ref 63]) (rest := []) (Ld := [some (.ref 63), none]) (pc' := 29) (st' := []) (r := none) (h1 := zH y1.2 P) rfl rfl rfl rfl rfl rfl rfl rfl rfl (xp_D_holds _ _  _ hy1) ?_
      refine wp_blk (pc' := 31) (L' := [some (.ref 63), some (.int n), some (.int c), some (.int 0)]) (st' := []) (h' := zH y1.2 P) 2 rfl ?_
      exact lp_D_behind_31 P _ _ _ _ _ _ hx
    · rw [if_neg c2] at hx
      refine wp_blk (pc' := 17) (L' := [some (.ref 63), some (.int n), some (.int c), none]) (st' := [.int c, .ref 63]) (h' := zH I P) 2 rfl ?_
      refine wp_callf (d := 133) (as := [.ref 63, .int c]) (rest := []) (Ld := [some (.ref 63), some (.int c)]) (pc' := 20) (st' := [.int (f_D_isOne I c)]) (r := some (.int (f_D_isOne I c))) (h1 := zH I P) rfl rfl rfl rfl rfl rfl rfl rfl rfl (sp_D_isOne I P c) ?_
      refine wp_ne (a := f_D_isOne I c) (b := 0) (s1 := (25, [some (.ref 63), some (.int n), some (.int c), none], [], zH I P)) (s2 := (23, [some (.ref 63), some (.int n), some (.int c), none], [], zH I P)) rfl (fun c3 => ?_) (fun c3 => ?_)
      · rw [if_neg c3] at hx
        refine wp_blk (pc' := 26) (L' := [some (.ref 63), some (.int n), some (.int c), none]) (st' := [.ref 63]) (h' := zH I P) 1 rfl ?_
        obtain ⟨y2, hy2, hx⟩ := zbind hx
        refine wp_callf (d := 153) (as := [.ref 63]) (rest := []) (Ld := [some (.ref 63), none]) (pc' := 29) (st' := []) (r := none) (h1 := zH y2.2 P) rfl rfl rfl rfl rfl rfl rfl rfl rfl (xp_D_holds _ _  _ hy2) ?_
        refine wp_blk (pc' := 31) (L' := [some (.ref 63), some (.int n), some (.int c), some (.int 0)]) (st' := []) (h' := zH y2.2 P) 2 rfl ?_
        exact lp_D_behind_31 P _ _ _ _ _ _ hx
      · rw [if_pos c3] at hx
        refine wp_blk (pc' := 24) (L' := [some (.ref 63), some (.int n), some (.int c), none]) (st' := [.int (-1)]) (h' := zH I P) 1 rfl ?_
        cases hx
        exact wp_end rfl rfl ⟨rfl, rfl⟩
def l_D_bran_4 : Nat → (Nat → Nat → Int32) → Int32 → Int32 → Option (Int32 × (Nat → Nat → Int32))
  | 0, _, _, _ => none
  | n + 1, I, x1, x2 => if I 63 2 ≤ x2 then (some (x1, I)) else (if zinb x2 6 = true then (if I 73 x2.toNatClampNeg < 0 then (l_D_bran_4 n I (x1 ||| 0) (x2 + 1)) else (if zinb x2 6 = true then (if 2 ≤ I 73 x2.toNatClampNeg then (l_D_bran_4 n I (x1 ||| 0) (x2 + 1)) else (l_D_bran_4 n I (x1 ||| (1 <<< (x2 &&& 31))) (x2 + 1))) else none)) else none)
def x_D_bran (I : Nat → Nat → Int32) : Option (Int32 × (Nat → Nat → Int32)) := l_D_bran_4 1000 I 0 0
set_option maxRecDepth 100000 in
theorem lp_D_bran_4 {X : Nat × (Nat → Int32)} (P : Nat → Nat → Option Nat) : ∀ (n : Nat) (I : Nat → Nat → Int32) (x1 : Int32) (x2 : Int32) (r : Int32 × (Nat → Nat → Int32)), l_D_bran_4 n I x1 x2 = some r → Wp X 160 4 [some (.ref 63), some (.int x1), some (.int x2)] [] (zH I P) (fun r2 h2 => r2 = some (.int r.1) ∧ h2 = zH r.2 P) := by
  intro n
  induction n with
  | zero => intro I x1 x2 r hx; cases hx
  | succ n ih =>
    intro I x1 x2 r hx
    rw [l_D_bran_4] at hx
    refine wp_blk (pc' := 9) (L' := [some (.ref 63), some (.int x1), some (.int x2)]) (st' := [.int (I 63 2), .int x2]) (h' := zH I P) 3 rfl ?_
    refine wp_ge (a := x2) (b := I 63 2) (s1 := (47, [some (.ref 63), some (.int x1), some (.int x2)], [], zH I P)) (s2 := (12, [some (.ref 63), some (.int x1), some (.int x2)], [], zH I P)) rfl (fun c1 => ?_) (fun c1 => ?_)
    · rw [if_pos c1] at hx
      refine wp_blk (pc' := 48) (L' := [some (.ref 63), some (.int x1), some (.int x2)]) (st' := [.int x1]) (h' := zH I P) 1 rfl ?_
      cases hx
      exact wp_end rfl rfl ⟨rfl, rfl⟩
    · rw [if_neg c1] at hx
      refine wp_blk (pc' := 18) (L' := [some (.ref 63), some (.int x1), some (.int x2)]) (st' := [.int x2, .ref 73, .int x1]) (h' := zH I P) 4 rfl ?_
      obtain ⟨c2, hx⟩ := zite hx
      refine wp_chk (P := zinb x2 6 = true) (pc' := 19) (L' := [some (.ref 63), some (.int x1), some (.int x2)]) (st' := [.int (I 73 x2.toNatClampNeg), .int x1]) (h' := zH I P) rfl c2 ?_
      refine wp_lt (a := I 73 x2.toNatClampNeg) (b := 0) (s1 := (38, [some (.ref 63), some (.int x1), some (.int x2)], [.int x1], zH I P)) (s2 := (22, [some (.ref 63), some (.int x1), some (.int x2)], [.int x1], zH I P)) rfl (fun c3 => ?_) (fun c3 => ?_)
      · rw [if_pos c3] at hx
        refine wp_blk (pc' := 4) (L' := [some (.ref 63), some (.int (x1 ||| 0)), some (.int (x2 + 1))]) (st' := []) (h' := zH I P) 5 rfl ?_
        exact ih _ _ _ _ hx
      · rw [if_neg c3] at hx
        refine wp_blk (pc' := 27) (L' := [some (.ref 63), some (.int x1), some (.int x2)]) (st' := [.int x2, .ref 73, .int x1]) (h' := zH I P) 3 rfl ?_
        obtain ⟨c4, hx⟩ := zite hx
        refine wp_chk (P := zinb x2 6 = true) (pc' := 28) (L' := [some (.ref 63), some (.int x1), some (.int x2)]) (st' := [.int (I 73 x2.toNatClampNeg), .int x1]) (h' := zH I P) rfl c4 ?_
        refine wp_blk (pc' := 29) (L' := [some (.ref 63), some (.int x1), some (.int x2)]) (st' := [.int 2, .int (I 73 x2.toNatClampNeg), .int x1]) (h' := zH I P) 1 rfl ?_
        refine wp_ge (a := I 73 x2.toNatClampNeg) (b := 2) (s1 := (38, [some (.ref 63), some (.int x1), some (.int x2)], [.int x1], zH I P)) (s2 := (32, [some (.ref 63), some (.int x1), some (.int x2)], [.int x1], zH I P)) rfl (fun c5 => ?_) (fun c5 => ?_)
        · rw [if_pos c5] at hx
          refine wp_blk (pc' := 4) (L' := [some (.ref 63), some (.int (x1 ||| 0)), some (.int (x2 + 1))]) (st' := []) (h' := zH I P) 5 rfl ?_
          exact ih _ _ _ _ hx
        · rw [if_neg c5] at hx
          refine wp_blk (pc' := 4) (L' := [some (.ref 63), some (.int (x1 ||| (1 <<< (x2 &&& 31)))), some (.int (x2 + 1))]) (st' := []) (h' := zH I P) 8 rfl ?_
          exact ih _ _ _ _ hx
set_option maxRecDepth 100000 in
theorem xp_D_bran {X : Nat × (Nat → Int32)} (I : Nat → Nat → Int32) (P : Nat → Nat → Option Nat) (r : Int32 × (Nat → Nat → Int32)) (hx : x_D_bran I = some r) : Wf X 160 [some (.ref 63), none, none] (zH I P) (some (.int r.1)) (zH r.2 P) := by
  unfold Wf
  unfold x_D_bran at hx
  refine wp_blk (pc' := 4) (L' := [some (.ref 63), some (.int 0), some (.int 0)]) (st' := []) (h' := zH I P) 4 rfl ?_
  exact lp_D_bran_4 P _ _ _ _ _ hx
def f_D_there (I : Nat → Nat → Int32) : Int32 := ((1 <<< ((I 63 2) &&& 31)) - 1) &&& ((I 68 42) ^^^ (-1))
set_option maxRecDepth 100000 in
theorem sp_D_there {X : Nat × (Nat → Int32)} (I : Nat → Nat → Int32) (P : Nat → Nat → Option Nat) : Wf X 156 [some (.ref 63)] (zH I P) (some (.int (f_D_there I))) (zH I P) := by
  unfold Wf
  refine wp_blk (pc' := 18) (L' := [some (.ref 63)]) (st' := [.int (((1 <<< ((I 63 2) &&& 31)) - 1) &&& ((I 68 42) ^^^ (-1)))]) (h' := zH I P) 13 rfl ?_
  exact wp_end rfl rfl ⟨rfl, rfl⟩
def l_D_ones_4 : Nat → (Nat → Nat → Int32) → Int32 → Int32 → Int32 → Option (Int32 × (Nat → Nat → Int32))
  | 0, _, _, _, _ => none
  | n + 1, I, x0, x1, x2 => if 6 ≤ x2 then (some (x1, I)) else (l_D_ones_4 n I x0 (x1 + ((x0 >>> (x2 &&& 31)) &&& 1)) (x2 + 1))
def x_D_ones (I : Nat → Nat → Int32) (s : Int32) : Option (Int32 × (Nat → Nat → Int32)) := l_D_ones_4 1000 I s 0 0
set_option maxRecDepth 100000 in
theorem lp_D_ones_4 {X : Nat × (Nat → Int32)} (P : Nat → Nat → Option Nat) : ∀ (n : Nat) (I : Nat → Nat → Int32) (x0 : Int32) (x1 : Int32) (x2 : Int32) (r : Int32 × (Nat → Nat → Int32)), l_D_ones_4 n I x0 x1 x2 = some r → Wp X 157 4 [some (.int x0), some (.int x1), some (.int x2)] [] (zH I P) (fun r2 h2 => r2 = some (.int r.1) ∧ h2 = zH r.2 P) := by
  intro n
  induction n with
  | zero => intro I x0 x1 x2 r hx; cases hx
  | succ n ih =>
    intro I x0 x1 x2 r hx
    rw [l_D_ones_4] at hx
    refine wp_blk (pc' := 7) (L' := [some (.int x0), some (.int x1), some (.int x2)]) (st' := [.int 6, .int x2]) (h' := zH I P) 2 rfl ?_
    refine wp_ge (a := x2) (b := 6) (s1 := (24, [some (.int x0), some (.int x1), some (.int x2)], [], zH I P)) (s2 := (10, [some (.int x0), some (.int x1), some (.int x2)], [], zH I P)) rfl (fun c1 => ?_) (fun c1 => ?_)
    · rw [if_pos c1] at hx
      refine wp_blk (pc' := 25) (L' := [some (.int x0), some (.int x1), some (.int x2)]) (st' := [.int x1]) (h' := zH I P) 1 rfl ?_
      cases hx
      exact wp_end rfl rfl ⟨rfl, rfl⟩
    · rw [if_neg c1] at hx
      refine wp_blk (pc' := 4) (L' := [some (.int x0), some (.int (x1 + ((x0 >>> (x2 &&& 31)) &&& 1))), some (.int (x2 + 1))]) (st' := []) (h' := zH I P) 10 rfl ?_
      exact ih _ _ _ _ _ hx
set_option maxRecDepth 100000 in
theorem xp_D_ones {X : Nat × (Nat → Int32)} (I : Nat → Nat → Int32) (P : Nat → Nat → Option Nat) (s : Int32) (r : Int32 × (Nat → Nat → Int32)) (hx : x_D_ones I s = some r) : Wf X 157 [some (.int s), none, none] (zH I P) (some (.int r.1)) (zH r.2 P) := by
  unfold Wf
  unfold x_D_ones at hx
  refine wp_blk (pc' := 4) (L' := [some (.int s), some (.int 0), some (.int 0)]) (st' := []) (h' := zH I P) 4 rfl ?_
  exact lp_D_ones_4 P _ _ _ _ _ _ hx
