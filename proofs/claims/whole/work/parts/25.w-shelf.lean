/-! THE SHELVES (printed) -/
def zPr (r : Nat) : Nat → Nat → Option Nat := fun a j => bif Nat.beq a 20 then (bif Nat.blt j 8 then some (21 + 4 * ((j + r) % 8)) else none) else bif Nat.beq a 54 then (bif Nat.blt j 2 then some (55 + 4 * j) else none) else none
theorem zrot_0 : (zup (zup (zup (zup (zup (zup (zup (zup (zPP (zPr 0)) 20 0 (some 25)) 20 1 (some 29)) 20 2 (some 33)) 20 3 (some 37)) 20 4 (some 41)) 20 5 (some 45)) 20 6 (some 49)) 20 7 (some 21)) = zPP (zPr 1) := by
  funext a j
  by_cases ha : a = 20
  · subst ha
    by_cases hj : j < 8
    · rcases (by omega : j = 0 ∨ j = 1 ∨ j = 2 ∨ j = 3 ∨ j = 4 ∨ j = 5 ∨ j = 6 ∨ j = 7) with rfl | rfl | rfl | rfl | rfl | rfl | rfl | rfl <;> rfl
    · have h1 : ∀ k, k < 8 → j ≠ k := fun k hk => by omega
      have hjb : Nat.blt j 8 = false := Bool.eq_false_iff.mpr (fun q => hj (zblt q))
      simp [zup, va_up, zPP, zPr, hjb, h1 0 (by omega), h1 1 (by omega), h1 2 (by omega), h1 3 (by omega), h1 4 (by omega), h1 5 (by omega), h1 6 (by omega), h1 7 (by omega)]
  · have hab : Nat.beq a 20 = false := Bool.eq_false_iff.mpr (fun q => ha (zbeq q))
    simp [zup, ha, zPP, zPr, hab]
theorem zrot_1 : (zup (zup (zup (zup (zup (zup (zup (zup (zPP (zPr 1)) 20 0 (some 29)) 20 1 (some 33)) 20 2 (some 37)) 20 3 (some 41)) 20 4 (some 45)) 20 5 (some 49)) 20 6 (some 21)) 20 7 (some 25)) = zPP (zPr 2) := by
  funext a j
  by_cases ha : a = 20
  · subst ha
    by_cases hj : j < 8
    · rcases (by omega : j = 0 ∨ j = 1 ∨ j = 2 ∨ j = 3 ∨ j = 4 ∨ j = 5 ∨ j = 6 ∨ j = 7) with rfl | rfl | rfl | rfl | rfl | rfl | rfl | rfl <;> rfl
    · have h1 : ∀ k, k < 8 → j ≠ k := fun k hk => by omega
      have hjb : Nat.blt j 8 = false := Bool.eq_false_iff.mpr (fun q => hj (zblt q))
      simp [zup, va_up, zPP, zPr, hjb, h1 0 (by omega), h1 1 (by omega), h1 2 (by omega), h1 3 (by omega), h1 4 (by omega), h1 5 (by omega), h1 6 (by omega), h1 7 (by omega)]
  · have hab : Nat.beq a 20 = false := Bool.eq_false_iff.mpr (fun q => ha (zbeq q))
    simp [zup, ha, zPP, zPr, hab]
theorem zrot_2 : (zup (zup (zup (zup (zup (zup (zup (zup (zPP (zPr 2)) 20 0 (some 33)) 20 1 (some 37)) 20 2 (some 41)) 20 3 (some 45)) 20 4 (some 49)) 20 5 (some 21)) 20 6 (some 25)) 20 7 (some 29)) = zPP (zPr 3) := by
  funext a j
  by_cases ha : a = 20
  · subst ha
    by_cases hj : j < 8
    · rcases (by omega : j = 0 ∨ j = 1 ∨ j = 2 ∨ j = 3 ∨ j = 4 ∨ j = 5 ∨ j = 6 ∨ j = 7) with rfl | rfl | rfl | rfl | rfl | rfl | rfl | rfl <;> rfl
    · have h1 : ∀ k, k < 8 → j ≠ k := fun k hk => by omega
      have hjb : Nat.blt j 8 = false := Bool.eq_false_iff.mpr (fun q => hj (zblt q))
      simp [zup, va_up, zPP, zPr, hjb, h1 0 (by omega), h1 1 (by omega), h1 2 (by omega), h1 3 (by omega), h1 4 (by omega), h1 5 (by omega), h1 6 (by omega), h1 7 (by omega)]
  · have hab : Nat.beq a 20 = false := Bool.eq_false_iff.mpr (fun q => ha (zbeq q))
    simp [zup, ha, zPP, zPr, hab]
theorem zrot_3 : (zup (zup (zup (zup (zup (zup (zup (zup (zPP (zPr 3)) 20 0 (some 37)) 20 1 (some 41)) 20 2 (some 45)) 20 3 (some 49)) 20 4 (some 21)) 20 5 (some 25)) 20 6 (some 29)) 20 7 (some 33)) = zPP (zPr 4) := by
  funext a j
  by_cases ha : a = 20
  · subst ha
    by_cases hj : j < 8
    · rcases (by omega : j = 0 ∨ j = 1 ∨ j = 2 ∨ j = 3 ∨ j = 4 ∨ j = 5 ∨ j = 6 ∨ j = 7) with rfl | rfl | rfl | rfl | rfl | rfl | rfl | rfl <;> rfl
    · have h1 : ∀ k, k < 8 → j ≠ k := fun k hk => by omega
      have hjb : Nat.blt j 8 = false := Bool.eq_false_iff.mpr (fun q => hj (zblt q))
      simp [zup, va_up, zPP, zPr, hjb, h1 0 (by omega), h1 1 (by omega), h1 2 (by omega), h1 3 (by omega), h1 4 (by omega), h1 5 (by omega), h1 6 (by omega), h1 7 (by omega)]
  · have hab : Nat.beq a 20 = false := Bool.eq_false_iff.mpr (fun q => ha (zbeq q))
    simp [zup, ha, zPP, zPr, hab]
theorem zrot_4 : (zup (zup (zup (zup (zup (zup (zup (zup (zPP (zPr 4)) 20 0 (some 41)) 20 1 (some 45)) 20 2 (some 49)) 20 3 (some 21)) 20 4 (some 25)) 20 5 (some 29)) 20 6 (some 33)) 20 7 (some 37)) = zPP (zPr 5) := by
  funext a j
  by_cases ha : a = 20
  · subst ha
    by_cases hj : j < 8
    · rcases (by omega : j = 0 ∨ j = 1 ∨ j = 2 ∨ j = 3 ∨ j = 4 ∨ j = 5 ∨ j = 6 ∨ j = 7) with rfl | rfl | rfl | rfl | rfl | rfl | rfl | rfl <;> rfl
    · have h1 : ∀ k, k < 8 → j ≠ k := fun k hk => by omega
      have hjb : Nat.blt j 8 = false := Bool.eq_false_iff.mpr (fun q => hj (zblt q))
      simp [zup, va_up, zPP, zPr, hjb, h1 0 (by omega), h1 1 (by omega), h1 2 (by omega), h1 3 (by omega), h1 4 (by omega), h1 5 (by omega), h1 6 (by omega), h1 7 (by omega)]
  · have hab : Nat.beq a 20 = false := Bool.eq_false_iff.mpr (fun q => ha (zbeq q))
    simp [zup, ha, zPP, zPr, hab]
theorem zrot_5 : (zup (zup (zup (zup (zup (zup (zup (zup (zPP (zPr 5)) 20 0 (some 45)) 20 1 (some 49)) 20 2 (some 21)) 20 3 (some 25)) 20 4 (some 29)) 20 5 (some 33)) 20 6 (some 37)) 20 7 (some 41)) = zPP (zPr 6) := by
  funext a j
  by_cases ha : a = 20
  · subst ha
    by_cases hj : j < 8
    · rcases (by omega : j = 0 ∨ j = 1 ∨ j = 2 ∨ j = 3 ∨ j = 4 ∨ j = 5 ∨ j = 6 ∨ j = 7) with rfl | rfl | rfl | rfl | rfl | rfl | rfl | rfl <;> rfl
    · have h1 : ∀ k, k < 8 → j ≠ k := fun k hk => by omega
      have hjb : Nat.blt j 8 = false := Bool.eq_false_iff.mpr (fun q => hj (zblt q))
      simp [zup, va_up, zPP, zPr, hjb, h1 0 (by omega), h1 1 (by omega), h1 2 (by omega), h1 3 (by omega), h1 4 (by omega), h1 5 (by omega), h1 6 (by omega), h1 7 (by omega)]
  · have hab : Nat.beq a 20 = false := Bool.eq_false_iff.mpr (fun q => ha (zbeq q))
    simp [zup, ha, zPP, zPr, hab]
theorem zrot_6 : (zup (zup (zup (zup (zup (zup (zup (zup (zPP (zPr 6)) 20 0 (some 49)) 20 1 (some 21)) 20 2 (some 25)) 20 3 (some 29)) 20 4 (some 33)) 20 5 (some 37)) 20 6 (some 41)) 20 7 (some 45)) = zPP (zPr 7) := by
  funext a j
  by_cases ha : a = 20
  · subst ha
    by_cases hj : j < 8
    · rcases (by omega : j = 0 ∨ j = 1 ∨ j = 2 ∨ j = 3 ∨ j = 4 ∨ j = 5 ∨ j = 6 ∨ j = 7) with rfl | rfl | rfl | rfl | rfl | rfl | rfl | rfl <;> rfl
    · have h1 : ∀ k, k < 8 → j ≠ k := fun k hk => by omega
      have hjb : Nat.blt j 8 = false := Bool.eq_false_iff.mpr (fun q => hj (zblt q))
      simp [zup, va_up, zPP, zPr, hjb, h1 0 (by omega), h1 1 (by omega), h1 2 (by omega), h1 3 (by omega), h1 4 (by omega), h1 5 (by omega), h1 6 (by omega), h1 7 (by omega)]
  · have hab : Nat.beq a 20 = false := Bool.eq_false_iff.mpr (fun q => ha (zbeq q))
    simp [zup, ha, zPP, zPr, hab]
theorem zrot_7 : (zup (zup (zup (zup (zup (zup (zup (zup (zPP (zPr 7)) 20 0 (some 21)) 20 1 (some 25)) 20 2 (some 29)) 20 3 (some 33)) 20 4 (some 37)) 20 5 (some 41)) 20 6 (some 45)) 20 7 (some 49)) = zPP (zPr 0) := by
  funext a j
  by_cases ha : a = 20
  · subst ha
    by_cases hj : j < 8
    · rcases (by omega : j = 0 ∨ j = 1 ∨ j = 2 ∨ j = 3 ∨ j = 4 ∨ j = 5 ∨ j = 6 ∨ j = 7) with rfl | rfl | rfl | rfl | rfl | rfl | rfl | rfl <;> rfl
    · have h1 : ∀ k, k < 8 → j ≠ k := fun k hk => by omega
      have hjb : Nat.blt j 8 = false := Bool.eq_false_iff.mpr (fun q => hj (zblt q))
      simp [zup, va_up, zPP, zPr, hjb, h1 0 (by omega), h1 1 (by omega), h1 2 (by omega), h1 3 (by omega), h1 4 (by omega), h1 5 (by omega), h1 6 (by omega), h1 7 (by omega)]
  · have hab : Nat.beq a 20 = false := Bool.eq_false_iff.mpr (fun q => ha (zbeq q))
    simp [zup, ha, zPP, zPr, hab]
def g_M_copy (m mk ml mt o ok ol ot : Nat) (I : Nat → Nat → Int32) : Nat → Nat → Int32 := (zui (zui (zui (zui (zrow (zrow (zrow I mk (va_cpy (I ok) (I mk) 0 0 6)) ml (va_cpy (I ol) (I ml) 0 0 6)) mt (va_cpy (I ot) (I mt) 0 0 36)) m 3 (I o 3)) m 4 (I o 4)) m 5 (I o 5)) m 6 (I o 6))
set_option maxRecDepth 100000 in
theorem sp_at19_0_m {X : Nat × (Nat → Int32)} (I : Nat → Nat → Int32) : Wf X 68 [some (.ref 19), some (.int (-1))] (zH I (zPr 0)) (some .null) (zH I (zPr 0)) := by
  unfold Wf
  refine wp_blk (pc' := 1) (L' := [some (.ref 19), some (.int (-1))]) (st' := [.int (-1)]) (h' := zH I (zPr 0)) 1 rfl ?_
  refine wp_blk (pc' := 22) (L' := [some (.ref 19), some (.int (-1))]) (st' := []) (h' := zH I (zPr 0)) 1 rfl ?_
  refine wp_blk (pc' := 23) (L' := [some (.ref 19), some (.int (-1))]) (st' := [.null]) (h' := zH I (zPr 0)) 1 rfl ?_
  exact wp_end rfl rfl ⟨rfl, rfl⟩
set_option maxRecDepth 100000 in
theorem sp_at19_0_0 {X : Nat × (Nat → Int32)} (I : Nat → Nat → Int32) : Wf X 68 [some (.ref 19), some (.int 0)] (zH I (zPr 0)) (some (.ref 21)) (zH I (zPr 0)) := by
  unfold Wf
  refine wp_blk (pc' := 1) (L' := [some (.ref 19), some (.int 0)]) (st' := [.int 0]) (h' := zH I (zPr 0)) 1 rfl ?_
  refine wp_blk (pc' := 4) (L' := [some (.ref 19), some (.int 0)]) (st' := []) (h' := zH I (zPr 0)) 1 rfl ?_
  refine wp_blk (pc' := 5) (L' := [some (.ref 19), some (.int 0)]) (st' := [.int 0]) (h' := zH I (zPr 0)) 1 rfl ?_
  refine wp_blk (pc' := 6) (L' := [some (.ref 19), some (.int 0)]) (st' := [.ref 19, .int 0]) (h' := zH I (zPr 0)) 1 rfl ?_
  refine wp_blk (pc' := 9) (L' := [some (.ref 19), some (.int 0)]) (st' := [.ref 20, .int 0]) (h' := zH I (zPr 0)) 1 rfl ?_
  refine wp_blk (pc' := 10) (L' := [some (.ref 19), some (.int 0)]) (st' := [.int 8, .int 0]) (h' := zH I (zPr 0)) 1 rfl ?_
  refine wp_blk (pc' := 13) (L' := [some (.ref 19), some (.int 0)]) (st' := []) (h' := zH I (zPr 0)) 1 rfl ?_
  refine wp_blk (pc' := 14) (L' := [some (.ref 19), some (.int 0)]) (st' := [.ref 19]) (h' := zH I (zPr 0)) 1 rfl ?_
  refine wp_blk (pc' := 17) (L' := [some (.ref 19), some (.int 0)]) (st' := [.ref 20]) (h' := zH I (zPr 0)) 1 rfl ?_
  refine wp_blk (pc' := 18) (L' := [some (.ref 19), some (.int 0)]) (st' := [.int 0, .ref 20]) (h' := zH I (zPr 0)) 1 rfl ?_
  refine wp_blk (pc' := 19) (L' := [some (.ref 19), some (.int 0)]) (st' := [.ref 21]) (h' := zH I (zPr 0)) 1 rfl ?_
  refine wp_blk (pc' := 23) (L' := [some (.ref 19), some (.int 0)]) (st' := [.ref 21]) (h' := zH I (zPr 0)) 1 rfl ?_
  exact wp_end rfl rfl ⟨rfl, rfl⟩
set_option maxRecDepth 100000 in
theorem sp_at19_0_1 {X : Nat × (Nat → Int32)} (I : Nat → Nat → Int32) : Wf X 68 [some (.ref 19), some (.int 1)] (zH I (zPr 0)) (some (.ref 25)) (zH I (zPr 0)) := by
  unfold Wf
  refine wp_blk (pc' := 1) (L' := [some (.ref 19), some (.int 1)]) (st' := [.int 1]) (h' := zH I (zPr 0)) 1 rfl ?_
  refine wp_blk (pc' := 4) (L' := [some (.ref 19), some (.int 1)]) (st' := []) (h' := zH I (zPr 0)) 1 rfl ?_
  refine wp_blk (pc' := 5) (L' := [some (.ref 19), some (.int 1)]) (st' := [.int 1]) (h' := zH I (zPr 0)) 1 rfl ?_
  refine wp_blk (pc' := 6) (L' := [some (.ref 19), some (.int 1)]) (st' := [.ref 19, .int 1]) (h' := zH I (zPr 0)) 1 rfl ?_
  refine wp_blk (pc' := 9) (L' := [some (.ref 19), some (.int 1)]) (st' := [.ref 20, .int 1]) (h' := zH I (zPr 0)) 1 rfl ?_
  refine wp_blk (pc' := 10) (L' := [some (.ref 19), some (.int 1)]) (st' := [.int 8, .int 1]) (h' := zH I (zPr 0)) 1 rfl ?_
  refine wp_blk (pc' := 13) (L' := [some (.ref 19), some (.int 1)]) (st' := []) (h' := zH I (zPr 0)) 1 rfl ?_
  refine wp_blk (pc' := 14) (L' := [some (.ref 19), some (.int 1)]) (st' := [.ref 19]) (h' := zH I (zPr 0)) 1 rfl ?_
  refine wp_blk (pc' := 17) (L' := [some (.ref 19), some (.int 1)]) (st' := [.ref 20]) (h' := zH I (zPr 0)) 1 rfl ?_
  refine wp_blk (pc' := 18) (L' := [some (.ref 19), some (.int 1)]) (st' := [.int 1, .ref 20]) (h' := zH I (zPr 0)) 1 rfl ?_
  refine wp_blk (pc' := 19) (L' := [some (.ref 19), some (.int 1)]) (st' := [.ref 25]) (h' := zH I (zPr 0)) 1 rfl ?_
  refine wp_blk (pc' := 23) (L' := [some (.ref 19), some (.int 1)]) (st' := [.ref 25]) (h' := zH I (zPr 0)) 1 rfl ?_
  exact wp_end rfl rfl ⟨rfl, rfl⟩
set_option maxRecDepth 100000 in
theorem sp_at19_0_2 {X : Nat × (Nat → Int32)} (I : Nat → Nat → Int32) : Wf X 68 [some (.ref 19), some (.int 2)] (zH I (zPr 0)) (some (.ref 29)) (zH I (zPr 0)) := by
  unfold Wf
  refine wp_blk (pc' := 1) (L' := [some (.ref 19), some (.int 2)]) (st' := [.int 2]) (h' := zH I (zPr 0)) 1 rfl ?_
  refine wp_blk (pc' := 4) (L' := [some (.ref 19), some (.int 2)]) (st' := []) (h' := zH I (zPr 0)) 1 rfl ?_
  refine wp_blk (pc' := 5) (L' := [some (.ref 19), some (.int 2)]) (st' := [.int 2]) (h' := zH I (zPr 0)) 1 rfl ?_
  refine wp_blk (pc' := 6) (L' := [some (.ref 19), some (.int 2)]) (st' := [.ref 19, .int 2]) (h' := zH I (zPr 0)) 1 rfl ?_
  refine wp_blk (pc' := 9) (L' := [some (.ref 19), some (.int 2)]) (st' := [.ref 20, .int 2]) (h' := zH I (zPr 0)) 1 rfl ?_
  refine wp_blk (pc' := 10) (L' := [some (.ref 19), some (.int 2)]) (st' := [.int 8, .int 2]) (h' := zH I (zPr 0)) 1 rfl ?_
  refine wp_blk (pc' := 13) (L' := [some (.ref 19), some (.int 2)]) (st' := []) (h' := zH I (zPr 0)) 1 rfl ?_
  refine wp_blk (pc' := 14) (L' := [some (.ref 19), some (.int 2)]) (st' := [.ref 19]) (h' := zH I (zPr 0)) 1 rfl ?_
  refine wp_blk (pc' := 17) (L' := [some (.ref 19), some (.int 2)]) (st' := [.ref 20]) (h' := zH I (zPr 0)) 1 rfl ?_
  refine wp_blk (pc' := 18) (L' := [some (.ref 19), some (.int 2)]) (st' := [.int 2, .ref 20]) (h' := zH I (zPr 0)) 1 rfl ?_
  refine wp_blk (pc' := 19) (L' := [some (.ref 19), some (.int 2)]) (st' := [.ref 29]) (h' := zH I (zPr 0)) 1 rfl ?_
  refine wp_blk (pc' := 23) (L' := [some (.ref 19), some (.int 2)]) (st' := [.ref 29]) (h' := zH I (zPr 0)) 1 rfl ?_
  exact wp_end rfl rfl ⟨rfl, rfl⟩
set_option maxRecDepth 100000 in
theorem sp_at19_0_3 {X : Nat × (Nat → Int32)} (I : Nat → Nat → Int32) : Wf X 68 [some (.ref 19), some (.int 3)] (zH I (zPr 0)) (some (.ref 33)) (zH I (zPr 0)) := by
  unfold Wf
  refine wp_blk (pc' := 1) (L' := [some (.ref 19), some (.int 3)]) (st' := [.int 3]) (h' := zH I (zPr 0)) 1 rfl ?_
  refine wp_blk (pc' := 4) (L' := [some (.ref 19), some (.int 3)]) (st' := []) (h' := zH I (zPr 0)) 1 rfl ?_
  refine wp_blk (pc' := 5) (L' := [some (.ref 19), some (.int 3)]) (st' := [.int 3]) (h' := zH I (zPr 0)) 1 rfl ?_
  refine wp_blk (pc' := 6) (L' := [some (.ref 19), some (.int 3)]) (st' := [.ref 19, .int 3]) (h' := zH I (zPr 0)) 1 rfl ?_
  refine wp_blk (pc' := 9) (L' := [some (.ref 19), some (.int 3)]) (st' := [.ref 20, .int 3]) (h' := zH I (zPr 0)) 1 rfl ?_
  refine wp_blk (pc' := 10) (L' := [some (.ref 19), some (.int 3)]) (st' := [.int 8, .int 3]) (h' := zH I (zPr 0)) 1 rfl ?_
  refine wp_blk (pc' := 13) (L' := [some (.ref 19), some (.int 3)]) (st' := []) (h' := zH I (zPr 0)) 1 rfl ?_
  refine wp_blk (pc' := 14) (L' := [some (.ref 19), some (.int 3)]) (st' := [.ref 19]) (h' := zH I (zPr 0)) 1 rfl ?_
  refine wp_blk (pc' := 17) (L' := [some (.ref 19), some (.int 3)]) (st' := [.ref 20]) (h' := zH I (zPr 0)) 1 rfl ?_
  refine wp_blk (pc' := 18) (L' := [some (.ref 19), some (.int 3)]) (st' := [.int 3, .ref 20]) (h' := zH I (zPr 0)) 1 rfl ?_
  refine wp_blk (pc' := 19) (L' := [some (.ref 19), some (.int 3)]) (st' := [.ref 33]) (h' := zH I (zPr 0)) 1 rfl ?_
  refine wp_blk (pc' := 23) (L' := [some (.ref 19), some (.int 3)]) (st' := [.ref 33]) (h' := zH I (zPr 0)) 1 rfl ?_
  exact wp_end rfl rfl ⟨rfl, rfl⟩
set_option maxRecDepth 100000 in
theorem sp_at19_0_4 {X : Nat × (Nat → Int32)} (I : Nat → Nat → Int32) : Wf X 68 [some (.ref 19), some (.int 4)] (zH I (zPr 0)) (some (.ref 37)) (zH I (zPr 0)) := by
  unfold Wf
  refine wp_blk (pc' := 1) (L' := [some (.ref 19), some (.int 4)]) (st' := [.int 4]) (h' := zH I (zPr 0)) 1 rfl ?_
  refine wp_blk (pc' := 4) (L' := [some (.ref 19), some (.int 4)]) (st' := []) (h' := zH I (zPr 0)) 1 rfl ?_
  refine wp_blk (pc' := 5) (L' := [some (.ref 19), some (.int 4)]) (st' := [.int 4]) (h' := zH I (zPr 0)) 1 rfl ?_
  refine wp_blk (pc' := 6) (L' := [some (.ref 19), some (.int 4)]) (st' := [.ref 19, .int 4]) (h' := zH I (zPr 0)) 1 rfl ?_
  refine wp_blk (pc' := 9) (L' := [some (.ref 19), some (.int 4)]) (st' := [.ref 20, .int 4]) (h' := zH I (zPr 0)) 1 rfl ?_
  refine wp_blk (pc' := 10) (L' := [some (.ref 19), some (.int 4)]) (st' := [.int 8, .int 4]) (h' := zH I (zPr 0)) 1 rfl ?_
  refine wp_blk (pc' := 13) (L' := [some (.ref 19), some (.int 4)]) (st' := []) (h' := zH I (zPr 0)) 1 rfl ?_
  refine wp_blk (pc' := 14) (L' := [some (.ref 19), some (.int 4)]) (st' := [.ref 19]) (h' := zH I (zPr 0)) 1 rfl ?_
  refine wp_blk (pc' := 17) (L' := [some (.ref 19), some (.int 4)]) (st' := [.ref 20]) (h' := zH I (zPr 0)) 1 rfl ?_
  refine wp_blk (pc' := 18) (L' := [some (.ref 19), some (.int 4)]) (st' := [.int 4, .ref 20]) (h' := zH I (zPr 0)) 1 rfl ?_
  refine wp_blk (pc' := 19) (L' := [some (.ref 19), some (.int 4)]) (st' := [.ref 37]) (h' := zH I (zPr 0)) 1 rfl ?_
  refine wp_blk (pc' := 23) (L' := [some (.ref 19), some (.int 4)]) (st' := [.ref 37]) (h' := zH I (zPr 0)) 1 rfl ?_
  exact wp_end rfl rfl ⟨rfl, rfl⟩
set_option maxRecDepth 100000 in
theorem sp_at19_0_5 {X : Nat × (Nat → Int32)} (I : Nat → Nat → Int32) : Wf X 68 [some (.ref 19), some (.int 5)] (zH I (zPr 0)) (some (.ref 41)) (zH I (zPr 0)) := by
  unfold Wf
  refine wp_blk (pc' := 1) (L' := [some (.ref 19), some (.int 5)]) (st' := [.int 5]) (h' := zH I (zPr 0)) 1 rfl ?_
  refine wp_blk (pc' := 4) (L' := [some (.ref 19), some (.int 5)]) (st' := []) (h' := zH I (zPr 0)) 1 rfl ?_
  refine wp_blk (pc' := 5) (L' := [some (.ref 19), some (.int 5)]) (st' := [.int 5]) (h' := zH I (zPr 0)) 1 rfl ?_
  refine wp_blk (pc' := 6) (L' := [some (.ref 19), some (.int 5)]) (st' := [.ref 19, .int 5]) (h' := zH I (zPr 0)) 1 rfl ?_
  refine wp_blk (pc' := 9) (L' := [some (.ref 19), some (.int 5)]) (st' := [.ref 20, .int 5]) (h' := zH I (zPr 0)) 1 rfl ?_
  refine wp_blk (pc' := 10) (L' := [some (.ref 19), some (.int 5)]) (st' := [.int 8, .int 5]) (h' := zH I (zPr 0)) 1 rfl ?_
  refine wp_blk (pc' := 13) (L' := [some (.ref 19), some (.int 5)]) (st' := []) (h' := zH I (zPr 0)) 1 rfl ?_
  refine wp_blk (pc' := 14) (L' := [some (.ref 19), some (.int 5)]) (st' := [.ref 19]) (h' := zH I (zPr 0)) 1 rfl ?_
  refine wp_blk (pc' := 17) (L' := [some (.ref 19), some (.int 5)]) (st' := [.ref 20]) (h' := zH I (zPr 0)) 1 rfl ?_
  refine wp_blk (pc' := 18) (L' := [some (.ref 19), some (.int 5)]) (st' := [.int 5, .ref 20]) (h' := zH I (zPr 0)) 1 rfl ?_
  refine wp_blk (pc' := 19) (L' := [some (.ref 19), some (.int 5)]) (st' := [.ref 41]) (h' := zH I (zPr 0)) 1 rfl ?_
  refine wp_blk (pc' := 23) (L' := [some (.ref 19), some (.int 5)]) (st' := [.ref 41]) (h' := zH I (zPr 0)) 1 rfl ?_
  exact wp_end rfl rfl ⟨rfl, rfl⟩
set_option maxRecDepth 100000 in
theorem sp_at19_0_6 {X : Nat × (Nat → Int32)} (I : Nat → Nat → Int32) : Wf X 68 [some (.ref 19), some (.int 6)] (zH I (zPr 0)) (some (.ref 45)) (zH I (zPr 0)) := by
  unfold Wf
  refine wp_blk (pc' := 1) (L' := [some (.ref 19), some (.int 6)]) (st' := [.int 6]) (h' := zH I (zPr 0)) 1 rfl ?_
  refine wp_blk (pc' := 4) (L' := [some (.ref 19), some (.int 6)]) (st' := []) (h' := zH I (zPr 0)) 1 rfl ?_
  refine wp_blk (pc' := 5) (L' := [some (.ref 19), some (.int 6)]) (st' := [.int 6]) (h' := zH I (zPr 0)) 1 rfl ?_
  refine wp_blk (pc' := 6) (L' := [some (.ref 19), some (.int 6)]) (st' := [.ref 19, .int 6]) (h' := zH I (zPr 0)) 1 rfl ?_
  refine wp_blk (pc' := 9) (L' := [some (.ref 19), some (.int 6)]) (st' := [.ref 20, .int 6]) (h' := zH I (zPr 0)) 1 rfl ?_
  refine wp_blk (pc' := 10) (L' := [some (.ref 19), some (.int 6)]) (st' := [.int 8, .int 6]) (h' := zH I (zPr 0)) 1 rfl ?_
  refine wp_blk (pc' := 13) (L' := [some (.ref 19), some (.int 6)]) (st' := []) (h' := zH I (zPr 0)) 1 rfl ?_
  refine wp_blk (pc' := 14) (L' := [some (.ref 19), some (.int 6)]) (st' := [.ref 19]) (h' := zH I (zPr 0)) 1 rfl ?_
  refine wp_blk (pc' := 17) (L' := [some (.ref 19), some (.int 6)]) (st' := [.ref 20]) (h' := zH I (zPr 0)) 1 rfl ?_
  refine wp_blk (pc' := 18) (L' := [some (.ref 19), some (.int 6)]) (st' := [.int 6, .ref 20]) (h' := zH I (zPr 0)) 1 rfl ?_
  refine wp_blk (pc' := 19) (L' := [some (.ref 19), some (.int 6)]) (st' := [.ref 45]) (h' := zH I (zPr 0)) 1 rfl ?_
  refine wp_blk (pc' := 23) (L' := [some (.ref 19), some (.int 6)]) (st' := [.ref 45]) (h' := zH I (zPr 0)) 1 rfl ?_
  exact wp_end rfl rfl ⟨rfl, rfl⟩
set_option maxRecDepth 100000 in
theorem sp_at19_0_7 {X : Nat × (Nat → Int32)} (I : Nat → Nat → Int32) : Wf X 68 [some (.ref 19), some (.int 7)] (zH I (zPr 0)) (some (.ref 49)) (zH I (zPr 0)) := by
  unfold Wf
  refine wp_blk (pc' := 1) (L' := [some (.ref 19), some (.int 7)]) (st' := [.int 7]) (h' := zH I (zPr 0)) 1 rfl ?_
  refine wp_blk (pc' := 4) (L' := [some (.ref 19), some (.int 7)]) (st' := []) (h' := zH I (zPr 0)) 1 rfl ?_
  refine wp_blk (pc' := 5) (L' := [some (.ref 19), some (.int 7)]) (st' := [.int 7]) (h' := zH I (zPr 0)) 1 rfl ?_
  refine wp_blk (pc' := 6) (L' := [some (.ref 19), some (.int 7)]) (st' := [.ref 19, .int 7]) (h' := zH I (zPr 0)) 1 rfl ?_
  refine wp_blk (pc' := 9) (L' := [some (.ref 19), some (.int 7)]) (st' := [.ref 20, .int 7]) (h' := zH I (zPr 0)) 1 rfl ?_
  refine wp_blk (pc' := 10) (L' := [some (.ref 19), some (.int 7)]) (st' := [.int 8, .int 7]) (h' := zH I (zPr 0)) 1 rfl ?_
  refine wp_blk (pc' := 13) (L' := [some (.ref 19), some (.int 7)]) (st' := []) (h' := zH I (zPr 0)) 1 rfl ?_
  refine wp_blk (pc' := 14) (L' := [some (.ref 19), some (.int 7)]) (st' := [.ref 19]) (h' := zH I (zPr 0)) 1 rfl ?_
  refine wp_blk (pc' := 17) (L' := [some (.ref 19), some (.int 7)]) (st' := [.ref 20]) (h' := zH I (zPr 0)) 1 rfl ?_
  refine wp_blk (pc' := 18) (L' := [some (.ref 19), some (.int 7)]) (st' := [.int 7, .ref 20]) (h' := zH I (zPr 0)) 1 rfl ?_
  refine wp_blk (pc' := 19) (L' := [some (.ref 19), some (.int 7)]) (st' := [.ref 49]) (h' := zH I (zPr 0)) 1 rfl ?_
  refine wp_blk (pc' := 23) (L' := [some (.ref 19), some (.int 7)]) (st' := [.ref 49]) (h' := zH I (zPr 0)) 1 rfl ?_
  exact wp_end rfl rfl ⟨rfl, rfl⟩
set_option maxRecDepth 100000 in
theorem sp_at19_1_m {X : Nat × (Nat → Int32)} (I : Nat → Nat → Int32) : Wf X 68 [some (.ref 19), some (.int (-1))] (zH I (zPr 1)) (some .null) (zH I (zPr 1)) := by
  unfold Wf
  refine wp_blk (pc' := 1) (L' := [some (.ref 19), some (.int (-1))]) (st' := [.int (-1)]) (h' := zH I (zPr 1)) 1 rfl ?_
  refine wp_blk (pc' := 22) (L' := [some (.ref 19), some (.int (-1))]) (st' := []) (h' := zH I (zPr 1)) 1 rfl ?_
  refine wp_blk (pc' := 23) (L' := [some (.ref 19), some (.int (-1))]) (st' := [.null]) (h' := zH I (zPr 1)) 1 rfl ?_
  exact wp_end rfl rfl ⟨rfl, rfl⟩
set_option maxRecDepth 100000 in
theorem sp_at19_1_0 {X : Nat × (Nat → Int32)} (I : Nat → Nat → Int32) : Wf X 68 [some (.ref 19), some (.int 0)] (zH I (zPr 1)) (some (.ref 25)) (zH I (zPr 1)) := by
  unfold Wf
  refine wp_blk (pc' := 1) (L' := [some (.ref 19), some (.int 0)]) (st' := [.int 0]) (h' := zH I (zPr 1)) 1 rfl ?_
  refine wp_blk (pc' := 4) (L' := [some (.ref 19), some (.int 0)]) (st' := []) (h' := zH I (zPr 1)) 1 rfl ?_
  refine wp_blk (pc' := 5) (L' := [some (.ref 19), some (.int 0)]) (st' := [.int 0]) (h' := zH I (zPr 1)) 1 rfl ?_
  refine wp_blk (pc' := 6) (L' := [some (.ref 19), some (.int 0)]) (st' := [.ref 19, .int 0]) (h' := zH I (zPr 1)) 1 rfl ?_
  refine wp_blk (pc' := 9) (L' := [some (.ref 19), some (.int 0)]) (st' := [.ref 20, .int 0]) (h' := zH I (zPr 1)) 1 rfl ?_
  refine wp_blk (pc' := 10) (L' := [some (.ref 19), some (.int 0)]) (st' := [.int 8, .int 0]) (h' := zH I (zPr 1)) 1 rfl ?_
  refine wp_blk (pc' := 13) (L' := [some (.ref 19), some (.int 0)]) (st' := []) (h' := zH I (zPr 1)) 1 rfl ?_
  refine wp_blk (pc' := 14) (L' := [some (.ref 19), some (.int 0)]) (st' := [.ref 19]) (h' := zH I (zPr 1)) 1 rfl ?_
  refine wp_blk (pc' := 17) (L' := [some (.ref 19), some (.int 0)]) (st' := [.ref 20]) (h' := zH I (zPr 1)) 1 rfl ?_
  refine wp_blk (pc' := 18) (L' := [some (.ref 19), some (.int 0)]) (st' := [.int 0, .ref 20]) (h' := zH I (zPr 1)) 1 rfl ?_
  refine wp_blk (pc' := 19) (L' := [some (.ref 19), some (.int 0)]) (st' := [.ref 25]) (h' := zH I (zPr 1)) 1 rfl ?_
  refine wp_blk (pc' := 23) (L' := [some (.ref 19), some (.int 0)]) (st' := [.ref 25]) (h' := zH I (zPr 1)) 1 rfl ?_
  exact wp_end rfl rfl ⟨rfl, rfl⟩
set_option maxRecDepth 100000 in
theorem sp_at19_1_1 {X : Nat × (Nat → Int32)} (I : Nat → Nat → Int32) : Wf X 68 [some (.ref 19), some (.int 1)] (zH I (zPr 1)) (some (.ref 29)) (zH I (zPr 1)) := by
  unfold Wf
  refine wp_blk (pc' := 1) (L' := [some (.ref 19), some (.int 1)]) (st' := [.int 1]) (h' := zH I (zPr 1)) 1 rfl ?_
  refine wp_blk (pc' := 4) (L' := [some (.ref 19), some (.int 1)]) (st' := []) (h' := zH I (zPr 1)) 1 rfl ?_
  refine wp_blk (pc' := 5) (L' := [some (.ref 19), some (.int 1)]) (st' := [.int 1]) (h' := zH I (zPr 1)) 1 rfl ?_
  refine wp_blk (pc' := 6) (L' := [some (.ref 19), some (.int 1)]) (st' := [.ref 19, .int 1]) (h' := zH I (zPr 1)) 1 rfl ?_
  refine wp_blk (pc' := 9) (L' := [some (.ref 19), some (.int 1)]) (st' := [.ref 20, .int 1]) (h' := zH I (zPr 1)) 1 rfl ?_
  refine wp_blk (pc' := 10) (L' := [some (.ref 19), some (.int 1)]) (st' := [.int 8, .int 1]) (h' := zH I (zPr 1)) 1 rfl ?_
  refine wp_blk (pc' := 13) (L' := [some (.ref 19), some (.int 1)]) (st' := []) (h' := zH I (zPr 1)) 1 rfl ?_
  refine wp_blk (pc' := 14) (L' := [some (.ref 19), some (.int 1)]) (st' := [.ref 19]) (h' := zH I (zPr 1)) 1 rfl ?_
  refine wp_blk (pc' := 17) (L' := [some (.ref 19), some (.int 1)]) (st' := [.ref 20]) (h' := zH I (zPr 1)) 1 rfl ?_
  refine wp_blk (pc' := 18) (L' := [some (.ref 19), some (.int 1)]) (st' := [.int 1, .ref 20]) (h' := zH I (zPr 1)) 1 rfl ?_
  refine wp_blk (pc' := 19) (L' := [some (.ref 19), some (.int 1)]) (st' := [.ref 29]) (h' := zH I (zPr 1)) 1 rfl ?_
  refine wp_blk (pc' := 23) (L' := [some (.ref 19), some (.int 1)]) (st' := [.ref 29]) (h' := zH I (zPr 1)) 1 rfl ?_
  exact wp_end rfl rfl ⟨rfl, rfl⟩
set_option maxRecDepth 100000 in
theorem sp_at19_1_2 {X : Nat × (Nat → Int32)} (I : Nat → Nat → Int32) : Wf X 68 [some (.ref 19), some (.int 2)] (zH I (zPr 1)) (some (.ref 33)) (zH I (zPr 1)) := by
  unfold Wf
  refine wp_blk (pc' := 1) (L' := [some (.ref 19), some (.int 2)]) (st' := [.int 2]) (h' := zH I (zPr 1)) 1 rfl ?_
  refine wp_blk (pc' := 4) (L' := [some (.ref 19), some (.int 2)]) (st' := []) (h' := zH I (zPr 1)) 1 rfl ?_
  refine wp_blk (pc' := 5) (L' := [some (.ref 19), some (.int 2)]) (st' := [.int 2]) (h' := zH I (zPr 1)) 1 rfl ?_
  refine wp_blk (pc' := 6) (L' := [some (.ref 19), some (.int 2)]) (st' := [.ref 19, .int 2]) (h' := zH I (zPr 1)) 1 rfl ?_
  refine wp_blk (pc' := 9) (L' := [some (.ref 19), some (.int 2)]) (st' := [.ref 20, .int 2]) (h' := zH I (zPr 1)) 1 rfl ?_
  refine wp_blk (pc' := 10) (L' := [some (.ref 19), some (.int 2)]) (st' := [.int 8, .int 2]) (h' := zH I (zPr 1)) 1 rfl ?_
  refine wp_blk (pc' := 13) (L' := [some (.ref 19), some (.int 2)]) (st' := []) (h' := zH I (zPr 1)) 1 rfl ?_
  refine wp_blk (pc' := 14) (L' := [some (.ref 19), some (.int 2)]) (st' := [.ref 19]) (h' := zH I (zPr 1)) 1 rfl ?_
  refine wp_blk (pc' := 17) (L' := [some (.ref 19), some (.int 2)]) (st' := [.ref 20]) (h' := zH I (zPr 1)) 1 rfl ?_
  refine wp_blk (pc' := 18) (L' := [some (.ref 19), some (.int 2)]) (st' := [.int 2, .ref 20]) (h' := zH I (zPr 1)) 1 rfl ?_
  refine wp_blk (pc' := 19) (L' := [some (.ref 19), some (.int 2)]) (st' := [.ref 33]) (h' := zH I (zPr 1)) 1 rfl ?_
  refine wp_blk (pc' := 23) (L' := [some (.ref 19), some (.int 2)]) (st' := [.ref 33]) (h' := zH I (zPr 1)) 1 rfl ?_
  exact wp_end rfl rfl ⟨rfl, rfl⟩
set_option maxRecDepth 100000 in
theorem sp_at19_1_3 {X : Nat × (Nat → Int32)} (I : Nat → Nat → Int32) : Wf X 68 [some (.ref 19), some (.int 3)] (zH I (zPr 1)) (some (.ref 37)) (zH I (zPr 1)) := by
  unfold Wf
  refine wp_blk (pc' := 1) (L' := [some (.ref 19), some (.int 3)]) (st' := [.int 3]) (h' := zH I (zPr 1)) 1 rfl ?_
  refine wp_blk (pc' := 4) (L' := [some (.ref 19), some (.int 3)]) (st' := []) (h' := zH I (zPr 1)) 1 rfl ?_
  refine wp_blk (pc' := 5) (L' := [some (.ref 19), some (.int 3)]) (st' := [.int 3]) (h' := zH I (zPr 1)) 1 rfl ?_
  refine wp_blk (pc' := 6) (L' := [some (.ref 19), some (.int 3)]) (st' := [.ref 19, .int 3]) (h' := zH I (zPr 1)) 1 rfl ?_
  refine wp_blk (pc' := 9) (L' := [some (.ref 19), some (.int 3)]) (st' := [.ref 20, .int 3]) (h' := zH I (zPr 1)) 1 rfl ?_
  refine wp_blk (pc' := 10) (L' := [some (.ref 19), some (.int 3)]) (st' := [.int 8, .int 3]) (h' := zH I (zPr 1)) 1 rfl ?_
  refine wp_blk (pc' := 13) (L' := [some (.ref 19), some (.int 3)]) (st' := []) (h' := zH I (zPr 1)) 1 rfl ?_
  refine wp_blk (pc' := 14) (L' := [some (.ref 19), some (.int 3)]) (st' := [.ref 19]) (h' := zH I (zPr 1)) 1 rfl ?_
  refine wp_blk (pc' := 17) (L' := [some (.ref 19), some (.int 3)]) (st' := [.ref 20]) (h' := zH I (zPr 1)) 1 rfl ?_
  refine wp_blk (pc' := 18) (L' := [some (.ref 19), some (.int 3)]) (st' := [.int 3, .ref 20]) (h' := zH I (zPr 1)) 1 rfl ?_
  refine wp_blk (pc' := 19) (L' := [some (.ref 19), some (.int 3)]) (st' := [.ref 37]) (h' := zH I (zPr 1)) 1 rfl ?_
  refine wp_blk (pc' := 23) (L' := [some (.ref 19), some (.int 3)]) (st' := [.ref 37]) (h' := zH I (zPr 1)) 1 rfl ?_
  exact wp_end rfl rfl ⟨rfl, rfl⟩
set_option maxRecDepth 100000 in
theorem sp_at19_1_4 {X : Nat × (Nat → Int32)} (I : Nat → Nat → Int32) : Wf X 68 [some (.ref 19), some (.int 4)] (zH I (zPr 1)) (some (.ref 41)) (zH I (zPr 1)) := by
  unfold Wf
  refine wp_blk (pc' := 1) (L' := [some (.ref 19), some (.int 4)]) (st' := [.int 4]) (h' := zH I (zPr 1)) 1 rfl ?_
  refine wp_blk (pc' := 4) (L' := [some (.ref 19), some (.int 4)]) (st' := []) (h' := zH I (zPr 1)) 1 rfl ?_
  refine wp_blk (pc' := 5) (L' := [some (.ref 19), some (.int 4)]) (st' := [.int 4]) (h' := zH I (zPr 1)) 1 rfl ?_
  refine wp_blk (pc' := 6) (L' := [some (.ref 19), some (.int 4)]) (st' := [.ref 19, .int 4]) (h' := zH I (zPr 1)) 1 rfl ?_
  refine wp_blk (pc' := 9) (L' := [some (.ref 19), some (.int 4)]) (st' := [.ref 20, .int 4]) (h' := zH I (zPr 1)) 1 rfl ?_
  refine wp_blk (pc' := 10) (L' := [some (.ref 19), some (.int 4)]) (st' := [.int 8, .int 4]) (h' := zH I (zPr 1)) 1 rfl ?_
  refine wp_blk (pc' := 13) (L' := [some (.ref 19), some (.int 4)]) (st' := []) (h' := zH I (zPr 1)) 1 rfl ?_
  refine wp_blk (pc' := 14) (L' := [some (.ref 19), some (.int 4)]) (st' := [.ref 19]) (h' := zH I (zPr 1)) 1 rfl ?_
  refine wp_blk (pc' := 17) (L' := [some (.ref 19), some (.int 4)]) (st' := [.ref 20]) (h' := zH I (zPr 1)) 1 rfl ?_
  refine wp_blk (pc' := 18) (L' := [some (.ref 19), some (.int 4)]) (st' := [.int 4, .ref 20]) (h' := zH I (zPr 1)) 1 rfl ?_
  refine wp_blk (pc' := 19) (L' := [some (.ref 19), some (.int 4)]) (st' := [.ref 41]) (h' := zH I (zPr 1)) 1 rfl ?_
  refine wp_blk (pc' := 23) (L' := [some (.ref 19), some (.int 4)]) (st' := [.ref 41]) (h' := zH I (zPr 1)) 1 rfl ?_
  exact wp_end rfl rfl ⟨rfl, rfl⟩
set_option maxRecDepth 100000 in
theorem sp_at19_1_5 {X : Nat × (Nat → Int32)} (I : Nat → Nat → Int32) : Wf X 68 [some (.ref 19), some (.int 5)] (zH I (zPr 1)) (some (.ref 45)) (zH I (zPr 1)) := by
  unfold Wf
  refine wp_blk (pc' := 1) (L' := [some (.ref 19), some (.int 5)]) (st' := [.int 5]) (h' := zH I (zPr 1)) 1 rfl ?_
  refine wp_blk (pc' := 4) (L' := [some (.ref 19), some (.int 5)]) (st' := []) (h' := zH I (zPr 1)) 1 rfl ?_
  refine wp_blk (pc' := 5) (L' := [some (.ref 19), some (.int 5)]) (st' := [.int 5]) (h' := zH I (zPr 1)) 1 rfl ?_
  refine wp_blk (pc' := 6) (L' := [some (.ref 19), some (.int 5)]) (st' := [.ref 19, .int 5]) (h' := zH I (zPr 1)) 1 rfl ?_
  refine wp_blk (pc' := 9) (L' := [some (.ref 19), some (.int 5)]) (st' := [.ref 20, .int 5]) (h' := zH I (zPr 1)) 1 rfl ?_
  refine wp_blk (pc' := 10) (L' := [some (.ref 19), some (.int 5)]) (st' := [.int 8, .int 5]) (h' := zH I (zPr 1)) 1 rfl ?_
  refine wp_blk (pc' := 13) (L' := [some (.ref 19), some (.int 5)]) (st' := []) (h' := zH I (zPr 1)) 1 rfl ?_
  refine wp_blk (pc' := 14) (L' := [some (.ref 19), some (.int 5)]) (st' := [.ref 19]) (h' := zH I (zPr 1)) 1 rfl ?_
  refine wp_blk (pc' := 17) (L' := [some (.ref 19), some (.int 5)]) (st' := [.ref 20]) (h' := zH I (zPr 1)) 1 rfl ?_
  refine wp_blk (pc' := 18) (L' := [some (.ref 19), some (.int 5)]) (st' := [.int 5, .ref 20]) (h' := zH I (zPr 1)) 1 rfl ?_
  refine wp_blk (pc' := 19) (L' := [some (.ref 19), some (.int 5)]) (st' := [.ref 45]) (h' := zH I (zPr 1)) 1 rfl ?_
  refine wp_blk (pc' := 23) (L' := [some (.ref 19), some (.int 5)]) (st' := [.ref 45]) (h' := zH I (zPr 1)) 1 rfl ?_
  exact wp_end rfl rfl ⟨rfl, rfl⟩
set_option maxRecDepth 100000 in
theorem sp_at19_1_6 {X : Nat × (Nat → Int32)} (I : Nat → Nat → Int32) : Wf X 68 [some (.ref 19), some (.int 6)] (zH I (zPr 1)) (some (.ref 49)) (zH I (zPr 1)) := by
  unfold Wf
  refine wp_blk (pc' := 1) (L' := [some (.ref 19), some (.int 6)]) (st' := [.int 6]) (h' := zH I (zPr 1)) 1 rfl ?_
  refine wp_blk (pc' := 4) (L' := [some (.ref 19), some (.int 6)]) (st' := []) (h' := zH I (zPr 1)) 1 rfl ?_
  refine wp_blk (pc' := 5) (L' := [some (.ref 19), some (.int 6)]) (st' := [.int 6]) (h' := zH I (zPr 1)) 1 rfl ?_
  refine wp_blk (pc' := 6) (L' := [some (.ref 19), some (.int 6)]) (st' := [.ref 19, .int 6]) (h' := zH I (zPr 1)) 1 rfl ?_
  refine wp_blk (pc' := 9) (L' := [some (.ref 19), some (.int 6)]) (st' := [.ref 20, .int 6]) (h' := zH I (zPr 1)) 1 rfl ?_
  refine wp_blk (pc' := 10) (L' := [some (.ref 19), some (.int 6)]) (st' := [.int 8, .int 6]) (h' := zH I (zPr 1)) 1 rfl ?_
  refine wp_blk (pc' := 13) (L' := [some (.ref 19), some (.int 6)]) (st' := []) (h' := zH I (zPr 1)) 1 rfl ?_
  refine wp_blk (pc' := 14) (L' := [some (.ref 19), some (.int 6)]) (st' := [.ref 19]) (h' := zH I (zPr 1)) 1 rfl ?_
  refine wp_blk (pc' := 17) (L' := [some (.ref 19), some (.int 6)]) (st' := [.ref 20]) (h' := zH I (zPr 1)) 1 rfl ?_
  refine wp_blk (pc' := 18) (L' := [some (.ref 19), some (.int 6)]) (st' := [.int 6, .ref 20]) (h' := zH I (zPr 1)) 1 rfl ?_
  refine wp_blk (pc' := 19) (L' := [some (.ref 19), some (.int 6)]) (st' := [.ref 49]) (h' := zH I (zPr 1)) 1 rfl ?_
  refine wp_blk (pc' := 23) (L' := [some (.ref 19), some (.int 6)]) (st' := [.ref 49]) (h' := zH I (zPr 1)) 1 rfl ?_
  exact wp_end rfl rfl ⟨rfl, rfl⟩
set_option maxRecDepth 100000 in
theorem sp_at19_1_7 {X : Nat × (Nat → Int32)} (I : Nat → Nat → Int32) : Wf X 68 [some (.ref 19), some (.int 7)] (zH I (zPr 1)) (some (.ref 21)) (zH I (zPr 1)) := by
  unfold Wf
  refine wp_blk (pc' := 1) (L' := [some (.ref 19), some (.int 7)]) (st' := [.int 7]) (h' := zH I (zPr 1)) 1 rfl ?_
  refine wp_blk (pc' := 4) (L' := [some (.ref 19), some (.int 7)]) (st' := []) (h' := zH I (zPr 1)) 1 rfl ?_
  refine wp_blk (pc' := 5) (L' := [some (.ref 19), some (.int 7)]) (st' := [.int 7]) (h' := zH I (zPr 1)) 1 rfl ?_
  refine wp_blk (pc' := 6) (L' := [some (.ref 19), some (.int 7)]) (st' := [.ref 19, .int 7]) (h' := zH I (zPr 1)) 1 rfl ?_
  refine wp_blk (pc' := 9) (L' := [some (.ref 19), some (.int 7)]) (st' := [.ref 20, .int 7]) (h' := zH I (zPr 1)) 1 rfl ?_
  refine wp_blk (pc' := 10) (L' := [some (.ref 19), some (.int 7)]) (st' := [.int 8, .int 7]) (h' := zH I (zPr 1)) 1 rfl ?_
  refine wp_blk (pc' := 13) (L' := [some (.ref 19), some (.int 7)]) (st' := []) (h' := zH I (zPr 1)) 1 rfl ?_
  refine wp_blk (pc' := 14) (L' := [some (.ref 19), some (.int 7)]) (st' := [.ref 19]) (h' := zH I (zPr 1)) 1 rfl ?_
  refine wp_blk (pc' := 17) (L' := [some (.ref 19), some (.int 7)]) (st' := [.ref 20]) (h' := zH I (zPr 1)) 1 rfl ?_
  refine wp_blk (pc' := 18) (L' := [some (.ref 19), some (.int 7)]) (st' := [.int 7, .ref 20]) (h' := zH I (zPr 1)) 1 rfl ?_
  refine wp_blk (pc' := 19) (L' := [some (.ref 19), some (.int 7)]) (st' := [.ref 21]) (h' := zH I (zPr 1)) 1 rfl ?_
  refine wp_blk (pc' := 23) (L' := [some (.ref 19), some (.int 7)]) (st' := [.ref 21]) (h' := zH I (zPr 1)) 1 rfl ?_
  exact wp_end rfl rfl ⟨rfl, rfl⟩
set_option maxRecDepth 100000 in
theorem sp_at19_2_m {X : Nat × (Nat → Int32)} (I : Nat → Nat → Int32) : Wf X 68 [some (.ref 19), some (.int (-1))] (zH I (zPr 2)) (some .null) (zH I (zPr 2)) := by
  unfold Wf
  refine wp_blk (pc' := 1) (L' := [some (.ref 19), some (.int (-1))]) (st' := [.int (-1)]) (h' := zH I (zPr 2)) 1 rfl ?_
  refine wp_blk (pc' := 22) (L' := [some (.ref 19), some (.int (-1))]) (st' := []) (h' := zH I (zPr 2)) 1 rfl ?_
  refine wp_blk (pc' := 23) (L' := [some (.ref 19), some (.int (-1))]) (st' := [.null]) (h' := zH I (zPr 2)) 1 rfl ?_
  exact wp_end rfl rfl ⟨rfl, rfl⟩
set_option maxRecDepth 100000 in
theorem sp_at19_2_0 {X : Nat × (Nat → Int32)} (I : Nat → Nat → Int32) : Wf X 68 [some (.ref 19), some (.int 0)] (zH I (zPr 2)) (some (.ref 29)) (zH I (zPr 2)) := by
  unfold Wf
  refine wp_blk (pc' := 1) (L' := [some (.ref 19), some (.int 0)]) (st' := [.int 0]) (h' := zH I (zPr 2)) 1 rfl ?_
  refine wp_blk (pc' := 4) (L' := [some (.ref 19), some (.int 0)]) (st' := []) (h' := zH I (zPr 2)) 1 rfl ?_
  refine wp_blk (pc' := 5) (L' := [some (.ref 19), some (.int 0)]) (st' := [.int 0]) (h' := zH I (zPr 2)) 1 rfl ?_
  refine wp_blk (pc' := 6) (L' := [some (.ref 19), some (.int 0)]) (st' := [.ref 19, .int 0]) (h' := zH I (zPr 2)) 1 rfl ?_
  refine wp_blk (pc' := 9) (L' := [some (.ref 19), some (.int 0)]) (st' := [.ref 20, .int 0]) (h' := zH I (zPr 2)) 1 rfl ?_
  refine wp_blk (pc' := 10) (L' := [some (.ref 19), some (.int 0)]) (st' := [.int 8, .int 0]) (h' := zH I (zPr 2)) 1 rfl ?_
  refine wp_blk (pc' := 13) (L' := [some (.ref 19), some (.int 0)]) (st' := []) (h' := zH I (zPr 2)) 1 rfl ?_
  refine wp_blk (pc' := 14) (L' := [some (.ref 19), some (.int 0)]) (st' := [.ref 19]) (h' := zH I (zPr 2)) 1 rfl ?_
  refine wp_blk (pc' := 17) (L' := [some (.ref 19), some (.int 0)]) (st' := [.ref 20]) (h' := zH I (zPr 2)) 1 rfl ?_
  refine wp_blk (pc' := 18) (L' := [some (.ref 19), some (.int 0)]) (st' := [.int 0, .ref 20]) (h' := zH I (zPr 2)) 1 rfl ?_
  refine wp_blk (pc' := 19) (L' := [some (.ref 19), some (.int 0)]) (st' := [.ref 29]) (h' := zH I (zPr 2)) 1 rfl ?_
  refine wp_blk (pc' := 23) (L' := [some (.ref 19), some (.int 0)]) (st' := [.ref 29]) (h' := zH I (zPr 2)) 1 rfl ?_
  exact wp_end rfl rfl ⟨rfl, rfl⟩
set_option maxRecDepth 100000 in
theorem sp_at19_2_1 {X : Nat × (Nat → Int32)} (I : Nat → Nat → Int32) : Wf X 68 [some (.ref 19), some (.int 1)] (zH I (zPr 2)) (some (.ref 33)) (zH I (zPr 2)) := by
  unfold Wf
  refine wp_blk (pc' := 1) (L' := [some (.ref 19), some (.int 1)]) (st' := [.int 1]) (h' := zH I (zPr 2)) 1 rfl ?_
  refine wp_blk (pc' := 4) (L' := [some (.ref 19), some (.int 1)]) (st' := []) (h' := zH I (zPr 2)) 1 rfl ?_
  refine wp_blk (pc' := 5) (L' := [some (.ref 19), some (.int 1)]) (st' := [.int 1]) (h' := zH I (zPr 2)) 1 rfl ?_
  refine wp_blk (pc' := 6) (L' := [some (.ref 19), some (.int 1)]) (st' := [.ref 19, .int 1]) (h' := zH I (zPr 2)) 1 rfl ?_
  refine wp_blk (pc' := 9) (L' := [some (.ref 19), some (.int 1)]) (st' := [.ref 20, .int 1]) (h' := zH I (zPr 2)) 1 rfl ?_
  refine wp_blk (pc' := 10) (L' := [some (.ref 19), some (.int 1)]) (st' := [.int 8, .int 1]) (h' := zH I (zPr 2)) 1 rfl ?_
  refine wp_blk (pc' := 13) (L' := [some (.ref 19), some (.int 1)]) (st' := []) (h' := zH I (zPr 2)) 1 rfl ?_
  refine wp_blk (pc' := 14) (L' := [some (.ref 19), some (.int 1)]) (st' := [.ref 19]) (h' := zH I (zPr 2)) 1 rfl ?_
  refine wp_blk (pc' := 17) (L' := [some (.ref 19), some (.int 1)]) (st' := [.ref 20]) (h' := zH I (zPr 2)) 1 rfl ?_
  refine wp_blk (pc' := 18) (L' := [some (.ref 19), some (.int 1)]) (st' := [.int 1, .ref 20]) (h' := zH I (zPr 2)) 1 rfl ?_
  refine wp_blk (pc' := 19) (L' := [some (.ref 19), some (.int 1)]) (st' := [.ref 33]) (h' := zH I (zPr 2)) 1 rfl ?_
  refine wp_blk (pc' := 23) (L' := [some (.ref 19), some (.int 1)]) (st' := [.ref 33]) (h' := zH I (zPr 2)) 1 rfl ?_
  exact wp_end rfl rfl ⟨rfl, rfl⟩
set_option maxRecDepth 100000 in
theorem sp_at19_2_2 {X : Nat × (Nat → Int32)} (I : Nat → Nat → Int32) : Wf X 68 [some (.ref 19), some (.int 2)] (zH I (zPr 2)) (some (.ref 37)) (zH I (zPr 2)) := by
  unfold Wf
  refine wp_blk (pc' := 1) (L' := [some (.ref 19), some (.int 2)]) (st' := [.int 2]) (h' := zH I (zPr 2)) 1 rfl ?_
  refine wp_blk (pc' := 4) (L' := [some (.ref 19), some (.int 2)]) (st' := []) (h' := zH I (zPr 2)) 1 rfl ?_
  refine wp_blk (pc' := 5) (L' := [some (.ref 19), some (.int 2)]) (st' := [.int 2]) (h' := zH I (zPr 2)) 1 rfl ?_
  refine wp_blk (pc' := 6) (L' := [some (.ref 19), some (.int 2)]) (st' := [.ref 19, .int 2]) (h' := zH I (zPr 2)) 1 rfl ?_
  refine wp_blk (pc' := 9) (L' := [some (.ref 19), some (.int 2)]) (st' := [.ref 20, .int 2]) (h' := zH I (zPr 2)) 1 rfl ?_
  refine wp_blk (pc' := 10) (L' := [some (.ref 19), some (.int 2)]) (st' := [.int 8, .int 2]) (h' := zH I (zPr 2)) 1 rfl ?_
  refine wp_blk (pc' := 13) (L' := [some (.ref 19), some (.int 2)]) (st' := []) (h' := zH I (zPr 2)) 1 rfl ?_
  refine wp_blk (pc' := 14) (L' := [some (.ref 19), some (.int 2)]) (st' := [.ref 19]) (h' := zH I (zPr 2)) 1 rfl ?_
  refine wp_blk (pc' := 17) (L' := [some (.ref 19), some (.int 2)]) (st' := [.ref 20]) (h' := zH I (zPr 2)) 1 rfl ?_
  refine wp_blk (pc' := 18) (L' := [some (.ref 19), some (.int 2)]) (st' := [.int 2, .ref 20]) (h' := zH I (zPr 2)) 1 rfl ?_
  refine wp_blk (pc' := 19) (L' := [some (.ref 19), some (.int 2)]) (st' := [.ref 37]) (h' := zH I (zPr 2)) 1 rfl ?_
  refine wp_blk (pc' := 23) (L' := [some (.ref 19), some (.int 2)]) (st' := [.ref 37]) (h' := zH I (zPr 2)) 1 rfl ?_
  exact wp_end rfl rfl ⟨rfl, rfl⟩
set_option maxRecDepth 100000 in
theorem sp_at19_2_3 {X : Nat × (Nat → Int32)} (I : Nat → Nat → Int32) : Wf X 68 [some (.ref 19), some (.int 3)] (zH I (zPr 2)) (some (.ref 41)) (zH I (zPr 2)) := by
  unfold Wf
  refine wp_blk (pc' := 1) (L' := [some (.ref 19), some (.int 3)]) (st' := [.int 3]) (h' := zH I (zPr 2)) 1 rfl ?_
  refine wp_blk (pc' := 4) (L' := [some (.ref 19), some (.int 3)]) (st' := []) (h' := zH I (zPr 2)) 1 rfl ?_
  refine wp_blk (pc' := 5) (L' := [some (.ref 19), some (.int 3)]) (st' := [.int 3]) (h' := zH I (zPr 2)) 1 rfl ?_
  refine wp_blk (pc' := 6) (L' := [some (.ref 19), some (.int 3)]) (st' := [.ref 19, .int 3]) (h' := zH I (zPr 2)) 1 rfl ?_
  refine wp_blk (pc' := 9) (L' := [some (.ref 19), some (.int 3)]) (st' := [.ref 20, .int 3]) (h' := zH I (zPr 2)) 1 rfl ?_
  refine wp_blk (pc' := 10) (L' := [some (.ref 19), some (.int 3)]) (st' := [.int 8, .int 3]) (h' := zH I (zPr 2)) 1 rfl ?_
  refine wp_blk (pc' := 13) (L' := [some (.ref 19), some (.int 3)]) (st' := []) (h' := zH I (zPr 2)) 1 rfl ?_
  refine wp_blk (pc' := 14) (L' := [some (.ref 19), some (.int 3)]) (st' := [.ref 19]) (h' := zH I (zPr 2)) 1 rfl ?_
  refine wp_blk (pc' := 17) (L' := [some (.ref 19), some (.int 3)]) (st' := [.ref 20]) (h' := zH I (zPr 2)) 1 rfl ?_
  refine wp_blk (pc' := 18) (L' := [some (.ref 19), some (.int 3)]) (st' := [.int 3, .ref 20]) (h' := zH I (zPr 2)) 1 rfl ?_
  refine wp_blk (pc' := 19) (L' := [some (.ref 19), some (.int 3)]) (st' := [.ref 41]) (h' := zH I (zPr 2)) 1 rfl ?_
  refine wp_blk (pc' := 23) (L' := [some (.ref 19), some (.int 3)]) (st' := [.ref 41]) (h' := zH I (zPr 2)) 1 rfl ?_
  exact wp_end rfl rfl ⟨rfl, rfl⟩
set_option maxRecDepth 100000 in
theorem sp_at19_2_4 {X : Nat × (Nat → Int32)} (I : Nat → Nat → Int32) : Wf X 68 [some (.ref 19), some (.int 4)] (zH I (zPr 2)) (some (.ref 45)) (zH I (zPr 2)) := by
  unfold Wf
  refine wp_blk (pc' := 1) (L' := [some (.ref 19), some (.int 4)]) (st' := [.int 4]) (h' := zH I (zPr 2)) 1 rfl ?_
  refine wp_blk (pc' := 4) (L' := [some (.ref 19), some (.int 4)]) (st' := []) (h' := zH I (zPr 2)) 1 rfl ?_
  refine wp_blk (pc' := 5) (L' := [some (.ref 19), some (.int 4)]) (st' := [.int 4]) (h' := zH I (zPr 2)) 1 rfl ?_
  refine wp_blk (pc' := 6) (L' := [some (.ref 19), some (.int 4)]) (st' := [.ref 19, .int 4]) (h' := zH I (zPr 2)) 1 rfl ?_
  refine wp_blk (pc' := 9) (L' := [some (.ref 19), some (.int 4)]) (st' := [.ref 20, .int 4]) (h' := zH I (zPr 2)) 1 rfl ?_
  refine wp_blk (pc' := 10) (L' := [some (.ref 19), some (.int 4)]) (st' := [.int 8, .int 4]) (h' := zH I (zPr 2)) 1 rfl ?_
  refine wp_blk (pc' := 13) (L' := [some (.ref 19), some (.int 4)]) (st' := []) (h' := zH I (zPr 2)) 1 rfl ?_
  refine wp_blk (pc' := 14) (L' := [some (.ref 19), some (.int 4)]) (st' := [.ref 19]) (h' := zH I (zPr 2)) 1 rfl ?_
  refine wp_blk (pc' := 17) (L' := [some (.ref 19), some (.int 4)]) (st' := [.ref 20]) (h' := zH I (zPr 2)) 1 rfl ?_
  refine wp_blk (pc' := 18) (L' := [some (.ref 19), some (.int 4)]) (st' := [.int 4, .ref 20]) (h' := zH I (zPr 2)) 1 rfl ?_
  refine wp_blk (pc' := 19) (L' := [some (.ref 19), some (.int 4)]) (st' := [.ref 45]) (h' := zH I (zPr 2)) 1 rfl ?_
  refine wp_blk (pc' := 23) (L' := [some (.ref 19), some (.int 4)]) (st' := [.ref 45]) (h' := zH I (zPr 2)) 1 rfl ?_
  exact wp_end rfl rfl ⟨rfl, rfl⟩
set_option maxRecDepth 100000 in
theorem sp_at19_2_5 {X : Nat × (Nat → Int32)} (I : Nat → Nat → Int32) : Wf X 68 [some (.ref 19), some (.int 5)] (zH I (zPr 2)) (some (.ref 49)) (zH I (zPr 2)) := by
  unfold Wf
  refine wp_blk (pc' := 1) (L' := [some (.ref 19), some (.int 5)]) (st' := [.int 5]) (h' := zH I (zPr 2)) 1 rfl ?_
  refine wp_blk (pc' := 4) (L' := [some (.ref 19), some (.int 5)]) (st' := []) (h' := zH I (zPr 2)) 1 rfl ?_
  refine wp_blk (pc' := 5) (L' := [some (.ref 19), some (.int 5)]) (st' := [.int 5]) (h' := zH I (zPr 2)) 1 rfl ?_
  refine wp_blk (pc' := 6) (L' := [some (.ref 19), some (.int 5)]) (st' := [.ref 19, .int 5]) (h' := zH I (zPr 2)) 1 rfl ?_
  refine wp_blk (pc' := 9) (L' := [some (.ref 19), some (.int 5)]) (st' := [.ref 20, .int 5]) (h' := zH I (zPr 2)) 1 rfl ?_
  refine wp_blk (pc' := 10) (L' := [some (.ref 19), some (.int 5)]) (st' := [.int 8, .int 5]) (h' := zH I (zPr 2)) 1 rfl ?_
  refine wp_blk (pc' := 13) (L' := [some (.ref 19), some (.int 5)]) (st' := []) (h' := zH I (zPr 2)) 1 rfl ?_
  refine wp_blk (pc' := 14) (L' := [some (.ref 19), some (.int 5)]) (st' := [.ref 19]) (h' := zH I (zPr 2)) 1 rfl ?_
  refine wp_blk (pc' := 17) (L' := [some (.ref 19), some (.int 5)]) (st' := [.ref 20]) (h' := zH I (zPr 2)) 1 rfl ?_
  refine wp_blk (pc' := 18) (L' := [some (.ref 19), some (.int 5)]) (st' := [.int 5, .ref 20]) (h' := zH I (zPr 2)) 1 rfl ?_
  refine wp_blk (pc' := 19) (L' := [some (.ref 19), some (.int 5)]) (st' := [.ref 49]) (h' := zH I (zPr 2)) 1 rfl ?_
  refine wp_blk (pc' := 23) (L' := [some (.ref 19), some (.int 5)]) (st' := [.ref 49]) (h' := zH I (zPr 2)) 1 rfl ?_
  exact wp_end rfl rfl ⟨rfl, rfl⟩
set_option maxRecDepth 100000 in
theorem sp_at19_2_6 {X : Nat × (Nat → Int32)} (I : Nat → Nat → Int32) : Wf X 68 [some (.ref 19), some (.int 6)] (zH I (zPr 2)) (some (.ref 21)) (zH I (zPr 2)) := by
  unfold Wf
  refine wp_blk (pc' := 1) (L' := [some (.ref 19), some (.int 6)]) (st' := [.int 6]) (h' := zH I (zPr 2)) 1 rfl ?_
  refine wp_blk (pc' := 4) (L' := [some (.ref 19), some (.int 6)]) (st' := []) (h' := zH I (zPr 2)) 1 rfl ?_
  refine wp_blk (pc' := 5) (L' := [some (.ref 19), some (.int 6)]) (st' := [.int 6]) (h' := zH I (zPr 2)) 1 rfl ?_
  refine wp_blk (pc' := 6) (L' := [some (.ref 19), some (.int 6)]) (st' := [.ref 19, .int 6]) (h' := zH I (zPr 2)) 1 rfl ?_
  refine wp_blk (pc' := 9) (L' := [some (.ref 19), some (.int 6)]) (st' := [.ref 20, .int 6]) (h' := zH I (zPr 2)) 1 rfl ?_
  refine wp_blk (pc' := 10) (L' := [some (.ref 19), some (.int 6)]) (st' := [.int 8, .int 6]) (h' := zH I (zPr 2)) 1 rfl ?_
  refine wp_blk (pc' := 13) (L' := [some (.ref 19), some (.int 6)]) (st' := []) (h' := zH I (zPr 2)) 1 rfl ?_
  refine wp_blk (pc' := 14) (L' := [some (.ref 19), some (.int 6)]) (st' := [.ref 19]) (h' := zH I (zPr 2)) 1 rfl ?_
  refine wp_blk (pc' := 17) (L' := [some (.ref 19), some (.int 6)]) (st' := [.ref 20]) (h' := zH I (zPr 2)) 1 rfl ?_
  refine wp_blk (pc' := 18) (L' := [some (.ref 19), some (.int 6)]) (st' := [.int 6, .ref 20]) (h' := zH I (zPr 2)) 1 rfl ?_
  refine wp_blk (pc' := 19) (L' := [some (.ref 19), some (.int 6)]) (st' := [.ref 21]) (h' := zH I (zPr 2)) 1 rfl ?_
  refine wp_blk (pc' := 23) (L' := [some (.ref 19), some (.int 6)]) (st' := [.ref 21]) (h' := zH I (zPr 2)) 1 rfl ?_
  exact wp_end rfl rfl ⟨rfl, rfl⟩
set_option maxRecDepth 100000 in
theorem sp_at19_2_7 {X : Nat × (Nat → Int32)} (I : Nat → Nat → Int32) : Wf X 68 [some (.ref 19), some (.int 7)] (zH I (zPr 2)) (some (.ref 25)) (zH I (zPr 2)) := by
  unfold Wf
  refine wp_blk (pc' := 1) (L' := [some (.ref 19), some (.int 7)]) (st' := [.int 7]) (h' := zH I (zPr 2)) 1 rfl ?_
  refine wp_blk (pc' := 4) (L' := [some (.ref 19), some (.int 7)]) (st' := []) (h' := zH I (zPr 2)) 1 rfl ?_
  refine wp_blk (pc' := 5) (L' := [some (.ref 19), some (.int 7)]) (st' := [.int 7]) (h' := zH I (zPr 2)) 1 rfl ?_
  refine wp_blk (pc' := 6) (L' := [some (.ref 19), some (.int 7)]) (st' := [.ref 19, .int 7]) (h' := zH I (zPr 2)) 1 rfl ?_
  refine wp_blk (pc' := 9) (L' := [some (.ref 19), some (.int 7)]) (st' := [.ref 20, .int 7]) (h' := zH I (zPr 2)) 1 rfl ?_
  refine wp_blk (pc' := 10) (L' := [some (.ref 19), some (.int 7)]) (st' := [.int 8, .int 7]) (h' := zH I (zPr 2)) 1 rfl ?_
  refine wp_blk (pc' := 13) (L' := [some (.ref 19), some (.int 7)]) (st' := []) (h' := zH I (zPr 2)) 1 rfl ?_
  refine wp_blk (pc' := 14) (L' := [some (.ref 19), some (.int 7)]) (st' := [.ref 19]) (h' := zH I (zPr 2)) 1 rfl ?_
  refine wp_blk (pc' := 17) (L' := [some (.ref 19), some (.int 7)]) (st' := [.ref 20]) (h' := zH I (zPr 2)) 1 rfl ?_
  refine wp_blk (pc' := 18) (L' := [some (.ref 19), some (.int 7)]) (st' := [.int 7, .ref 20]) (h' := zH I (zPr 2)) 1 rfl ?_
  refine wp_blk (pc' := 19) (L' := [some (.ref 19), some (.int 7)]) (st' := [.ref 25]) (h' := zH I (zPr 2)) 1 rfl ?_
  refine wp_blk (pc' := 23) (L' := [some (.ref 19), some (.int 7)]) (st' := [.ref 25]) (h' := zH I (zPr 2)) 1 rfl ?_
  exact wp_end rfl rfl ⟨rfl, rfl⟩
set_option maxRecDepth 100000 in
theorem sp_at19_3_m {X : Nat × (Nat → Int32)} (I : Nat → Nat → Int32) : Wf X 68 [some (.ref 19), some (.int (-1))] (zH I (zPr 3)) (some .null) (zH I (zPr 3)) := by
  unfold Wf
  refine wp_blk (pc' := 1) (L' := [some (.ref 19), some (.int (-1))]) (st' := [.int (-1)]) (h' := zH I (zPr 3)) 1 rfl ?_
  refine wp_blk (pc' := 22) (L' := [some (.ref 19), some (.int (-1))]) (st' := []) (h' := zH I (zPr 3)) 1 rfl ?_
  refine wp_blk (pc' := 23) (L' := [some (.ref 19), some (.int (-1))]) (st' := [.null]) (h' := zH I (zPr 3)) 1 rfl ?_
  exact wp_end rfl rfl ⟨rfl, rfl⟩
set_option maxRecDepth 100000 in
theorem sp_at19_3_0 {X : Nat × (Nat → Int32)} (I : Nat → Nat → Int32) : Wf X 68 [some (.ref 19), some (.int 0)] (zH I (zPr 3)) (some (.ref 33)) (zH I (zPr 3)) := by
  unfold Wf
  refine wp_blk (pc' := 1) (L' := [some (.ref 19), some (.int 0)]) (st' := [.int 0]) (h' := zH I (zPr 3)) 1 rfl ?_
  refine wp_blk (pc' := 4) (L' := [some (.ref 19), some (.int 0)]) (st' := []) (h' := zH I (zPr 3)) 1 rfl ?_
  refine wp_blk (pc' := 5) (L' := [some (.ref 19), some (.int 0)]) (st' := [.int 0]) (h' := zH I (zPr 3)) 1 rfl ?_
  refine wp_blk (pc' := 6) (L' := [some (.ref 19), some (.int 0)]) (st' := [.ref 19, .int 0]) (h' := zH I (zPr 3)) 1 rfl ?_
  refine wp_blk (pc' := 9) (L' := [some (.ref 19), some (.int 0)]) (st' := [.ref 20, .int 0]) (h' := zH I (zPr 3)) 1 rfl ?_
  refine wp_blk (pc' := 10) (L' := [some (.ref 19), some (.int 0)]) (st' := [.int 8, .int 0]) (h' := zH I (zPr 3)) 1 rfl ?_
  refine wp_blk (pc' := 13) (L' := [some (.ref 19), some (.int 0)]) (st' := []) (h' := zH I (zPr 3)) 1 rfl ?_
  refine wp_blk (pc' := 14) (L' := [some (.ref 19), some (.int 0)]) (st' := [.ref 19]) (h' := zH I (zPr 3)) 1 rfl ?_
  refine wp_blk (pc' := 17) (L' := [some (.ref 19), some (.int 0)]) (st' := [.ref 20]) (h' := zH I (zPr 3)) 1 rfl ?_
  refine wp_blk (pc' := 18) (L' := [some (.ref 19), some (.int 0)]) (st' := [.int 0, .ref 20]) (h' := zH I (zPr 3)) 1 rfl ?_
  refine wp_blk (pc' := 19) (L' := [some (.ref 19), some (.int 0)]) (st' := [.ref 33]) (h' := zH I (zPr 3)) 1 rfl ?_
  refine wp_blk (pc' := 23) (L' := [some (.ref 19), some (.int 0)]) (st' := [.ref 33]) (h' := zH I (zPr 3)) 1 rfl ?_
  exact wp_end rfl rfl ⟨rfl, rfl⟩
set_option maxRecDepth 100000 in
theorem sp_at19_3_1 {X : Nat × (Nat → Int32)} (I : Nat → Nat → Int32) : Wf X 68 [some (.ref 19), some (.int 1)] (zH I (zPr 3)) (some (.ref 37)) (zH I (zPr 3)) := by
  unfold Wf
  refine wp_blk (pc' := 1) (L' := [some (.ref 19), some (.int 1)]) (st' := [.int 1]) (h' := zH I (zPr 3)) 1 rfl ?_
  refine wp_blk (pc' := 4) (L' := [some (.ref 19), some (.int 1)]) (st' := []) (h' := zH I (zPr 3)) 1 rfl ?_
  refine wp_blk (pc' := 5) (L' := [some (.ref 19), some (.int 1)]) (st' := [.int 1]) (h' := zH I (zPr 3)) 1 rfl ?_
  refine wp_blk (pc' := 6) (L' := [some (.ref 19), some (.int 1)]) (st' := [.ref 19, .int 1]) (h' := zH I (zPr 3)) 1 rfl ?_
  refine wp_blk (pc' := 9) (L' := [some (.ref 19), some (.int 1)]) (st' := [.ref 20, .int 1]) (h' := zH I (zPr 3)) 1 rfl ?_
  refine wp_blk (pc' := 10) (L' := [some (.ref 19), some (.int 1)]) (st' := [.int 8, .int 1]) (h' := zH I (zPr 3)) 1 rfl ?_
  refine wp_blk (pc' := 13) (L' := [some (.ref 19), some (.int 1)]) (st' := []) (h' := zH I (zPr 3)) 1 rfl ?_
  refine wp_blk (pc' := 14) (L' := [some (.ref 19), some (.int 1)]) (st' := [.ref 19]) (h' := zH I (zPr 3)) 1 rfl ?_
  refine wp_blk (pc' := 17) (L' := [some (.ref 19), some (.int 1)]) (st' := [.ref 20]) (h' := zH I (zPr 3)) 1 rfl ?_
  refine wp_blk (pc' := 18) (L' := [some (.ref 19), some (.int 1)]) (st' := [.int 1, .ref 20]) (h' := zH I (zPr 3)) 1 rfl ?_
  refine wp_blk (pc' := 19) (L' := [some (.ref 19), some (.int 1)]) (st' := [.ref 37]) (h' := zH I (zPr 3)) 1 rfl ?_
  refine wp_blk (pc' := 23) (L' := [some (.ref 19), some (.int 1)]) (st' := [.ref 37]) (h' := zH I (zPr 3)) 1 rfl ?_
  exact wp_end rfl rfl ⟨rfl, rfl⟩
set_option maxRecDepth 100000 in
theorem sp_at19_3_2 {X : Nat × (Nat → Int32)} (I : Nat → Nat → Int32) : Wf X 68 [some (.ref 19), some (.int 2)] (zH I (zPr 3)) (some (.ref 41)) (zH I (zPr 3)) := by
  unfold Wf
  refine wp_blk (pc' := 1) (L' := [some (.ref 19), some (.int 2)]) (st' := [.int 2]) (h' := zH I (zPr 3)) 1 rfl ?_
  refine wp_blk (pc' := 4) (L' := [some (.ref 19), some (.int 2)]) (st' := []) (h' := zH I (zPr 3)) 1 rfl ?_
  refine wp_blk (pc' := 5) (L' := [some (.ref 19), some (.int 2)]) (st' := [.int 2]) (h' := zH I (zPr 3)) 1 rfl ?_
  refine wp_blk (pc' := 6) (L' := [some (.ref 19), some (.int 2)]) (st' := [.ref 19, .int 2]) (h' := zH I (zPr 3)) 1 rfl ?_
  refine wp_blk (pc' := 9) (L' := [some (.ref 19), some (.int 2)]) (st' := [.ref 20, .int 2]) (h' := zH I (zPr 3)) 1 rfl ?_
  refine wp_blk (pc' := 10) (L' := [some (.ref 19), some (.int 2)]) (st' := [.int 8, .int 2]) (h' := zH I (zPr 3)) 1 rfl ?_
  refine wp_blk (pc' := 13) (L' := [some (.ref 19), some (.int 2)]) (st' := []) (h' := zH I (zPr 3)) 1 rfl ?_
  refine wp_blk (pc' := 14) (L' := [some (.ref 19), some (.int 2)]) (st' := [.ref 19]) (h' := zH I (zPr 3)) 1 rfl ?_
  refine wp_blk (pc' := 17) (L' := [some (.ref 19), some (.int 2)]) (st' := [.ref 20]) (h' := zH I (zPr 3)) 1 rfl ?_
  refine wp_blk (pc' := 18) (L' := [some (.ref 19), some (.int 2)]) (st' := [.int 2, .ref 20]) (h' := zH I (zPr 3)) 1 rfl ?_
  refine wp_blk (pc' := 19) (L' := [some (.ref 19), some (.int 2)]) (st' := [.ref 41]) (h' := zH I (zPr 3)) 1 rfl ?_
  refine wp_blk (pc' := 23) (L' := [some (.ref 19), some (.int 2)]) (st' := [.ref 41]) (h' := zH I (zPr 3)) 1 rfl ?_
  exact wp_end rfl rfl ⟨rfl, rfl⟩
set_option maxRecDepth 100000 in
theorem sp_at19_3_3 {X : Nat × (Nat → Int32)} (I : Nat → Nat → Int32) : Wf X 68 [some (.ref 19), some (.int 3)] (zH I (zPr 3)) (some (.ref 45)) (zH I (zPr 3)) := by
  unfold Wf
  refine wp_blk (pc' := 1) (L' := [some (.ref 19), some (.int 3)]) (st' := [.int 3]) (h' := zH I (zPr 3)) 1 rfl ?_
  refine wp_blk (pc' := 4) (L' := [some (.ref 19), some (.int 3)]) (st' := []) (h' := zH I (zPr 3)) 1 rfl ?_
  refine wp_blk (pc' := 5) (L' := [some (.ref 19), some (.int 3)]) (st' := [.int 3]) (h' := zH I (zPr 3)) 1 rfl ?_
  refine wp_blk (pc' := 6) (L' := [some (.ref 19), some (.int 3)]) (st' := [.ref 19, .int 3]) (h' := zH I (zPr 3)) 1 rfl ?_
  refine wp_blk (pc' := 9) (L' := [some (.ref 19), some (.int 3)]) (st' := [.ref 20, .int 3]) (h' := zH I (zPr 3)) 1 rfl ?_
  refine wp_blk (pc' := 10) (L' := [some (.ref 19), some (.int 3)]) (st' := [.int 8, .int 3]) (h' := zH I (zPr 3)) 1 rfl ?_
  refine wp_blk (pc' := 13) (L' := [some (.ref 19), some (.int 3)]) (st' := []) (h' := zH I (zPr 3)) 1 rfl ?_
  refine wp_blk (pc' := 14) (L' := [some (.ref 19), some (.int 3)]) (st' := [.ref 19]) (h' := zH I (zPr 3)) 1 rfl ?_
  refine wp_blk (pc' := 17) (L' := [some (.ref 19), some (.int 3)]) (st' := [.ref 20]) (h' := zH I (zPr 3)) 1 rfl ?_
  refine wp_blk (pc' := 18) (L' := [some (.ref 19), some (.int 3)]) (st' := [.int 3, .ref 20]) (h' := zH I (zPr 3)) 1 rfl ?_
  refine wp_blk (pc' := 19) (L' := [some (.ref 19), some (.int 3)]) (st' := [.ref 45]) (h' := zH I (zPr 3)) 1 rfl ?_
  refine wp_blk (pc' := 23) (L' := [some (.ref 19), some (.int 3)]) (st' := [.ref 45]) (h' := zH I (zPr 3)) 1 rfl ?_
  exact wp_end rfl rfl ⟨rfl, rfl⟩
set_option maxRecDepth 100000 in
theorem sp_at19_3_4 {X : Nat × (Nat → Int32)} (I : Nat → Nat → Int32) : Wf X 68 [some (.ref 19), some (.int 4)] (zH I (zPr 3)) (some (.ref 49)) (zH I (zPr 3)) := by
  unfold Wf
  refine wp_blk (pc' := 1) (L' := [some (.ref 19), some (.int 4)]) (st' := [.int 4]) (h' := zH I (zPr 3)) 1 rfl ?_
  refine wp_blk (pc' := 4) (L' := [some (.ref 19), some (.int 4)]) (st' := []) (h' := zH I (zPr 3)) 1 rfl ?_
  refine wp_blk (pc' := 5) (L' := [some (.ref 19), some (.int 4)]) (st' := [.int 4]) (h' := zH I (zPr 3)) 1 rfl ?_
  refine wp_blk (pc' := 6) (L' := [some (.ref 19), some (.int 4)]) (st' := [.ref 19, .int 4]) (h' := zH I (zPr 3)) 1 rfl ?_
  refine wp_blk (pc' := 9) (L' := [some (.ref 19), some (.int 4)]) (st' := [.ref 20, .int 4]) (h' := zH I (zPr 3)) 1 rfl ?_
  refine wp_blk (pc' := 10) (L' := [some (.ref 19), some (.int 4)]) (st' := [.int 8, .int 4]) (h' := zH I (zPr 3)) 1 rfl ?_
  refine wp_blk (pc' := 13) (L' := [some (.ref 19), some (.int 4)]) (st' := []) (h' := zH I (zPr 3)) 1 rfl ?_
  refine wp_blk (pc' := 14) (L' := [some (.ref 19), some (.int 4)]) (st' := [.ref 19]) (h' := zH I (zPr 3)) 1 rfl ?_
  refine wp_blk (pc' := 17) (L' := [some (.ref 19), some (.int 4)]) (st' := [.ref 20]) (h' := zH I (zPr 3)) 1 rfl ?_
  refine wp_blk (pc' := 18) (L' := [some (.ref 19), some (.int 4)]) (st' := [.int 4, .ref 20]) (h' := zH I (zPr 3)) 1 rfl ?_
  refine wp_blk (pc' := 19) (L' := [some (.ref 19), some (.int 4)]) (st' := [.ref 49]) (h' := zH I (zPr 3)) 1 rfl ?_
  refine wp_blk (pc' := 23) (L' := [some (.ref 19), some (.int 4)]) (st' := [.ref 49]) (h' := zH I (zPr 3)) 1 rfl ?_
  exact wp_end rfl rfl ⟨rfl, rfl⟩
set_option maxRecDepth 100000 in
theorem sp_at19_3_5 {X : Nat × (Nat → Int32)} (I : Nat → Nat → Int32) : Wf X 68 [some (.ref 19), some (.int 5)] (zH I (zPr 3)) (some (.ref 21)) (zH I (zPr 3)) := by
  unfold Wf
  refine wp_blk (pc' := 1) (L' := [some (.ref 19), some (.int 5)]) (st' := [.int 5]) (h' := zH I (zPr 3)) 1 rfl ?_
  refine wp_blk (pc' := 4) (L' := [some (.ref 19), some (.int 5)]) (st' := []) (h' := zH I (zPr 3)) 1 rfl ?_
  refine wp_blk (pc' := 5) (L' := [some (.ref 19), some (.int 5)]) (st' := [.int 5]) (h' := zH I (zPr 3)) 1 rfl ?_
  refine wp_blk (pc' := 6) (L' := [some (.ref 19), some (.int 5)]) (st' := [.ref 19, .int 5]) (h' := zH I (zPr 3)) 1 rfl ?_
  refine wp_blk (pc' := 9) (L' := [some (.ref 19), some (.int 5)]) (st' := [.ref 20, .int 5]) (h' := zH I (zPr 3)) 1 rfl ?_
  refine wp_blk (pc' := 10) (L' := [some (.ref 19), some (.int 5)]) (st' := [.int 8, .int 5]) (h' := zH I (zPr 3)) 1 rfl ?_
  refine wp_blk (pc' := 13) (L' := [some (.ref 19), some (.int 5)]) (st' := []) (h' := zH I (zPr 3)) 1 rfl ?_
  refine wp_blk (pc' := 14) (L' := [some (.ref 19), some (.int 5)]) (st' := [.ref 19]) (h' := zH I (zPr 3)) 1 rfl ?_
  refine wp_blk (pc' := 17) (L' := [some (.ref 19), some (.int 5)]) (st' := [.ref 20]) (h' := zH I (zPr 3)) 1 rfl ?_
  refine wp_blk (pc' := 18) (L' := [some (.ref 19), some (.int 5)]) (st' := [.int 5, .ref 20]) (h' := zH I (zPr 3)) 1 rfl ?_
  refine wp_blk (pc' := 19) (L' := [some (.ref 19), some (.int 5)]) (st' := [.ref 21]) (h' := zH I (zPr 3)) 1 rfl ?_
  refine wp_blk (pc' := 23) (L' := [some (.ref 19), some (.int 5)]) (st' := [.ref 21]) (h' := zH I (zPr 3)) 1 rfl ?_
  exact wp_end rfl rfl ⟨rfl, rfl⟩
set_option maxRecDepth 100000 in
theorem sp_at19_3_6 {X : Nat × (Nat → Int32)} (I : Nat → Nat → Int32) : Wf X 68 [some (.ref 19), some (.int 6)] (zH I (zPr 3)) (some (.ref 25)) (zH I (zPr 3)) := by
  unfold Wf
  refine wp_blk (pc' := 1) (L' := [some (.ref 19), some (.int 6)]) (st' := [.int 6]) (h' := zH I (zPr 3)) 1 rfl ?_
  refine wp_blk (pc' := 4) (L' := [some (.ref 19), some (.int 6)]) (st' := []) (h' := zH I (zPr 3)) 1 rfl ?_
  refine wp_blk (pc' := 5) (L' := [some (.ref 19), some (.int 6)]) (st' := [.int 6]) (h' := zH I (zPr 3)) 1 rfl ?_
  refine wp_blk (pc' := 6) (L' := [some (.ref 19), some (.int 6)]) (st' := [.ref 19, .int 6]) (h' := zH I (zPr 3)) 1 rfl ?_
  refine wp_blk (pc' := 9) (L' := [some (.ref 19), some (.int 6)]) (st' := [.ref 20, .int 6]) (h' := zH I (zPr 3)) 1 rfl ?_
  refine wp_blk (pc' := 10) (L' := [some (.ref 19), some (.int 6)]) (st' := [.int 8, .int 6]) (h' := zH I (zPr 3)) 1 rfl ?_
  refine wp_blk (pc' := 13) (L' := [some (.ref 19), some (.int 6)]) (st' := []) (h' := zH I (zPr 3)) 1 rfl ?_
  refine wp_blk (pc' := 14) (L' := [some (.ref 19), some (.int 6)]) (st' := [.ref 19]) (h' := zH I (zPr 3)) 1 rfl ?_
  refine wp_blk (pc' := 17) (L' := [some (.ref 19), some (.int 6)]) (st' := [.ref 20]) (h' := zH I (zPr 3)) 1 rfl ?_
  refine wp_blk (pc' := 18) (L' := [some (.ref 19), some (.int 6)]) (st' := [.int 6, .ref 20]) (h' := zH I (zPr 3)) 1 rfl ?_
  refine wp_blk (pc' := 19) (L' := [some (.ref 19), some (.int 6)]) (st' := [.ref 25]) (h' := zH I (zPr 3)) 1 rfl ?_
  refine wp_blk (pc' := 23) (L' := [some (.ref 19), some (.int 6)]) (st' := [.ref 25]) (h' := zH I (zPr 3)) 1 rfl ?_
  exact wp_end rfl rfl ⟨rfl, rfl⟩
set_option maxRecDepth 100000 in
theorem sp_at19_3_7 {X : Nat × (Nat → Int32)} (I : Nat → Nat → Int32) : Wf X 68 [some (.ref 19), some (.int 7)] (zH I (zPr 3)) (some (.ref 29)) (zH I (zPr 3)) := by
  unfold Wf
  refine wp_blk (pc' := 1) (L' := [some (.ref 19), some (.int 7)]) (st' := [.int 7]) (h' := zH I (zPr 3)) 1 rfl ?_
  refine wp_blk (pc' := 4) (L' := [some (.ref 19), some (.int 7)]) (st' := []) (h' := zH I (zPr 3)) 1 rfl ?_
  refine wp_blk (pc' := 5) (L' := [some (.ref 19), some (.int 7)]) (st' := [.int 7]) (h' := zH I (zPr 3)) 1 rfl ?_
  refine wp_blk (pc' := 6) (L' := [some (.ref 19), some (.int 7)]) (st' := [.ref 19, .int 7]) (h' := zH I (zPr 3)) 1 rfl ?_
  refine wp_blk (pc' := 9) (L' := [some (.ref 19), some (.int 7)]) (st' := [.ref 20, .int 7]) (h' := zH I (zPr 3)) 1 rfl ?_
  refine wp_blk (pc' := 10) (L' := [some (.ref 19), some (.int 7)]) (st' := [.int 8, .int 7]) (h' := zH I (zPr 3)) 1 rfl ?_
  refine wp_blk (pc' := 13) (L' := [some (.ref 19), some (.int 7)]) (st' := []) (h' := zH I (zPr 3)) 1 rfl ?_
  refine wp_blk (pc' := 14) (L' := [some (.ref 19), some (.int 7)]) (st' := [.ref 19]) (h' := zH I (zPr 3)) 1 rfl ?_
  refine wp_blk (pc' := 17) (L' := [some (.ref 19), some (.int 7)]) (st' := [.ref 20]) (h' := zH I (zPr 3)) 1 rfl ?_
  refine wp_blk (pc' := 18) (L' := [some (.ref 19), some (.int 7)]) (st' := [.int 7, .ref 20]) (h' := zH I (zPr 3)) 1 rfl ?_
  refine wp_blk (pc' := 19) (L' := [some (.ref 19), some (.int 7)]) (st' := [.ref 29]) (h' := zH I (zPr 3)) 1 rfl ?_
  refine wp_blk (pc' := 23) (L' := [some (.ref 19), some (.int 7)]) (st' := [.ref 29]) (h' := zH I (zPr 3)) 1 rfl ?_
  exact wp_end rfl rfl ⟨rfl, rfl⟩
set_option maxRecDepth 100000 in
theorem sp_at19_4_m {X : Nat × (Nat → Int32)} (I : Nat → Nat → Int32) : Wf X 68 [some (.ref 19), some (.int (-1))] (zH I (zPr 4)) (some .null) (zH I (zPr 4)) := by
  unfold Wf
  refine wp_blk (pc' := 1) (L' := [some (.ref 19), some (.int (-1))]) (st' := [.int (-1)]) (h' := zH I (zPr 4)) 1 rfl ?_
  refine wp_blk (pc' := 22) (L' := [some (.ref 19), some (.int (-1))]) (st' := []) (h' := zH I (zPr 4)) 1 rfl ?_
  refine wp_blk (pc' := 23) (L' := [some (.ref 19), some (.int (-1))]) (st' := [.null]) (h' := zH I (zPr 4)) 1 rfl ?_
  exact wp_end rfl rfl ⟨rfl, rfl⟩
set_option maxRecDepth 100000 in
theorem sp_at19_4_0 {X : Nat × (Nat → Int32)} (I : Nat → Nat → Int32) : Wf X 68 [some (.ref 19), some (.int 0)] (zH I (zPr 4)) (some (.ref 37)) (zH I (zPr 4)) := by
  unfold Wf
  refine wp_blk (pc' := 1) (L' := [some (.ref 19), some (.int 0)]) (st' := [.int 0]) (h' := zH I (zPr 4)) 1 rfl ?_
  refine wp_blk (pc' := 4) (L' := [some (.ref 19), some (.int 0)]) (st' := []) (h' := zH I (zPr 4)) 1 rfl ?_
  refine wp_blk (pc' := 5) (L' := [some (.ref 19), some (.int 0)]) (st' := [.int 0]) (h' := zH I (zPr 4)) 1 rfl ?_
  refine wp_blk (pc' := 6) (L' := [some (.ref 19), some (.int 0)]) (st' := [.ref 19, .int 0]) (h' := zH I (zPr 4)) 1 rfl ?_
  refine wp_blk (pc' := 9) (L' := [some (.ref 19), some (.int 0)]) (st' := [.ref 20, .int 0]) (h' := zH I (zPr 4)) 1 rfl ?_
  refine wp_blk (pc' := 10) (L' := [some (.ref 19), some (.int 0)]) (st' := [.int 8, .int 0]) (h' := zH I (zPr 4)) 1 rfl ?_
  refine wp_blk (pc' := 13) (L' := [some (.ref 19), some (.int 0)]) (st' := []) (h' := zH I (zPr 4)) 1 rfl ?_
  refine wp_blk (pc' := 14) (L' := [some (.ref 19), some (.int 0)]) (st' := [.ref 19]) (h' := zH I (zPr 4)) 1 rfl ?_
  refine wp_blk (pc' := 17) (L' := [some (.ref 19), some (.int 0)]) (st' := [.ref 20]) (h' := zH I (zPr 4)) 1 rfl ?_
  refine wp_blk (pc' := 18) (L' := [some (.ref 19), some (.int 0)]) (st' := [.int 0, .ref 20]) (h' := zH I (zPr 4)) 1 rfl ?_
  refine wp_blk (pc' := 19) (L' := [some (.ref 19), some (.int 0)]) (st' := [.ref 37]) (h' := zH I (zPr 4)) 1 rfl ?_
  refine wp_blk (pc' := 23) (L' := [some (.ref 19), some (.int 0)]) (st' := [.ref 37]) (h' := zH I (zPr 4)) 1 rfl ?_
  exact wp_end rfl rfl ⟨rfl, rfl⟩
set_option maxRecDepth 100000 in
theorem sp_at19_4_1 {X : Nat × (Nat → Int32)} (I : Nat → Nat → Int32) : Wf X 68 [some (.ref 19), some (.int 1)] (zH I (zPr 4)) (some (.ref 41)) (zH I (zPr 4)) := by
  unfold Wf
  refine wp_blk (pc' := 1) (L' := [some (.ref 19), some (.int 1)]) (st' := [.int 1]) (h' := zH I (zPr 4)) 1 rfl ?_
  refine wp_blk (pc' := 4) (L' := [some (.ref 19), some (.int 1)]) (st' := []) (h' := zH I (zPr 4)) 1 rfl ?_
  refine wp_blk (pc' := 5) (L' := [some (.ref 19), some (.int 1)]) (st' := [.int 1]) (h' := zH I (zPr 4)) 1 rfl ?_
  refine wp_blk (pc' := 6) (L' := [some (.ref 19), some (.int 1)]) (st' := [.ref 19, .int 1]) (h' := zH I (zPr 4)) 1 rfl ?_
  refine wp_blk (pc' := 9) (L' := [some (.ref 19), some (.int 1)]) (st' := [.ref 20, .int 1]) (h' := zH I (zPr 4)) 1 rfl ?_
  refine wp_blk (pc' := 10) (L' := [some (.ref 19), some (.int 1)]) (st' := [.int 8, .int 1]) (h' := zH I (zPr 4)) 1 rfl ?_
  refine wp_blk (pc' := 13) (L' := [some (.ref 19), some (.int 1)]) (st' := []) (h' := zH I (zPr 4)) 1 rfl ?_
  refine wp_blk (pc' := 14) (L' := [some (.ref 19), some (.int 1)]) (st' := [.ref 19]) (h' := zH I (zPr 4)) 1 rfl ?_
  refine wp_blk (pc' := 17) (L' := [some (.ref 19), some (.int 1)]) (st' := [.ref 20]) (h' := zH I (zPr 4)) 1 rfl ?_
  refine wp_blk (pc' := 18) (L' := [some (.ref 19), some (.int 1)]) (st' := [.int 1, .ref 20]) (h' := zH I (zPr 4)) 1 rfl ?_
  refine wp_blk (pc' := 19) (L' := [some (.ref 19), some (.int 1)]) (st' := [.ref 41]) (h' := zH I (zPr 4)) 1 rfl ?_
  refine wp_blk (pc' := 23) (L' := [some (.ref 19), some (.int 1)]) (st' := [.ref 41]) (h' := zH I (zPr 4)) 1 rfl ?_
  exact wp_end rfl rfl ⟨rfl, rfl⟩
set_option maxRecDepth 100000 in
theorem sp_at19_4_2 {X : Nat × (Nat → Int32)} (I : Nat → Nat → Int32) : Wf X 68 [some (.ref 19), some (.int 2)] (zH I (zPr 4)) (some (.ref 45)) (zH I (zPr 4)) := by
  unfold Wf
  refine wp_blk (pc' := 1) (L' := [some (.ref 19), some (.int 2)]) (st' := [.int 2]) (h' := zH I (zPr 4)) 1 rfl ?_
  refine wp_blk (pc' := 4) (L' := [some (.ref 19), some (.int 2)]) (st' := []) (h' := zH I (zPr 4)) 1 rfl ?_
  refine wp_blk (pc' := 5) (L' := [some (.ref 19), some (.int 2)]) (st' := [.int 2]) (h' := zH I (zPr 4)) 1 rfl ?_
  refine wp_blk (pc' := 6) (L' := [some (.ref 19), some (.int 2)]) (st' := [.ref 19, .int 2]) (h' := zH I (zPr 4)) 1 rfl ?_
  refine wp_blk (pc' := 9) (L' := [some (.ref 19), some (.int 2)]) (st' := [.ref 20, .int 2]) (h' := zH I (zPr 4)) 1 rfl ?_
  refine wp_blk (pc' := 10) (L' := [some (.ref 19), some (.int 2)]) (st' := [.int 8, .int 2]) (h' := zH I (zPr 4)) 1 rfl ?_
  refine wp_blk (pc' := 13) (L' := [some (.ref 19), some (.int 2)]) (st' := []) (h' := zH I (zPr 4)) 1 rfl ?_
  refine wp_blk (pc' := 14) (L' := [some (.ref 19), some (.int 2)]) (st' := [.ref 19]) (h' := zH I (zPr 4)) 1 rfl ?_
  refine wp_blk (pc' := 17) (L' := [some (.ref 19), some (.int 2)]) (st' := [.ref 20]) (h' := zH I (zPr 4)) 1 rfl ?_
  refine wp_blk (pc' := 18) (L' := [some (.ref 19), some (.int 2)]) (st' := [.int 2, .ref 20]) (h' := zH I (zPr 4)) 1 rfl ?_
  refine wp_blk (pc' := 19) (L' := [some (.ref 19), some (.int 2)]) (st' := [.ref 45]) (h' := zH I (zPr 4)) 1 rfl ?_
  refine wp_blk (pc' := 23) (L' := [some (.ref 19), some (.int 2)]) (st' := [.ref 45]) (h' := zH I (zPr 4)) 1 rfl ?_
  exact wp_end rfl rfl ⟨rfl, rfl⟩
set_option maxRecDepth 100000 in
theorem sp_at19_4_3 {X : Nat × (Nat → Int32)} (I : Nat → Nat → Int32) : Wf X 68 [some (.ref 19), some (.int 3)] (zH I (zPr 4)) (some (.ref 49)) (zH I (zPr 4)) := by
  unfold Wf
  refine wp_blk (pc' := 1) (L' := [some (.ref 19), some (.int 3)]) (st' := [.int 3]) (h' := zH I (zPr 4)) 1 rfl ?_
  refine wp_blk (pc' := 4) (L' := [some (.ref 19), some (.int 3)]) (st' := []) (h' := zH I (zPr 4)) 1 rfl ?_
  refine wp_blk (pc' := 5) (L' := [some (.ref 19), some (.int 3)]) (st' := [.int 3]) (h' := zH I (zPr 4)) 1 rfl ?_
  refine wp_blk (pc' := 6) (L' := [some (.ref 19), some (.int 3)]) (st' := [.ref 19, .int 3]) (h' := zH I (zPr 4)) 1 rfl ?_
  refine wp_blk (pc' := 9) (L' := [some (.ref 19), some (.int 3)]) (st' := [.ref 20, .int 3]) (h' := zH I (zPr 4)) 1 rfl ?_
  refine wp_blk (pc' := 10) (L' := [some (.ref 19), some (.int 3)]) (st' := [.int 8, .int 3]) (h' := zH I (zPr 4)) 1 rfl ?_
  refine wp_blk (pc' := 13) (L' := [some (.ref 19), some (.int 3)]) (st' := []) (h' := zH I (zPr 4)) 1 rfl ?_
  refine wp_blk (pc' := 14) (L' := [some (.ref 19), some (.int 3)]) (st' := [.ref 19]) (h' := zH I (zPr 4)) 1 rfl ?_
  refine wp_blk (pc' := 17) (L' := [some (.ref 19), some (.int 3)]) (st' := [.ref 20]) (h' := zH I (zPr 4)) 1 rfl ?_
  refine wp_blk (pc' := 18) (L' := [some (.ref 19), some (.int 3)]) (st' := [.int 3, .ref 20]) (h' := zH I (zPr 4)) 1 rfl ?_
  refine wp_blk (pc' := 19) (L' := [some (.ref 19), some (.int 3)]) (st' := [.ref 49]) (h' := zH I (zPr 4)) 1 rfl ?_
  refine wp_blk (pc' := 23) (L' := [some (.ref 19), some (.int 3)]) (st' := [.ref 49]) (h' := zH I (zPr 4)) 1 rfl ?_
  exact wp_end rfl rfl ⟨rfl, rfl⟩
set_option maxRecDepth 100000 in
theorem sp_at19_4_4 {X : Nat × (Nat → Int32)} (I : Nat → Nat → Int32) : Wf X 68 [some (.ref 19), some (.int 4)] (zH I (zPr 4)) (some (.ref 21)) (zH I (zPr 4)) := by
  unfold Wf
  refine wp_blk (pc' := 1) (L' := [some (.ref 19), some (.int 4)]) (st' := [.int 4]) (h' := zH I (zPr 4)) 1 rfl ?_
  refine wp_blk (pc' := 4) (L' := [some (.ref 19), some (.int 4)]) (st' := []) (h' := zH I (zPr 4)) 1 rfl ?_
  refine wp_blk (pc' := 5) (L' := [some (.ref 19), some (.int 4)]) (st' := [.int 4]) (h' := zH I (zPr 4)) 1 rfl ?_
  refine wp_blk (pc' := 6) (L' := [some (.ref 19), some (.int 4)]) (st' := [.ref 19, .int 4]) (h' := zH I (zPr 4)) 1 rfl ?_
  refine wp_blk (pc' := 9) (L' := [some (.ref 19), some (.int 4)]) (st' := [.ref 20, .int 4]) (h' := zH I (zPr 4)) 1 rfl ?_
  refine wp_blk (pc' := 10) (L' := [some (.ref 19), some (.int 4)]) (st' := [.int 8, .int 4]) (h' := zH I (zPr 4)) 1 rfl ?_
  refine wp_blk (pc' := 13) (L' := [some (.ref 19), some (.int 4)]) (st' := []) (h' := zH I (zPr 4)) 1 rfl ?_
  refine wp_blk (pc' := 14) (L' := [some (.ref 19), some (.int 4)]) (st' := [.ref 19]) (h' := zH I (zPr 4)) 1 rfl ?_
  refine wp_blk (pc' := 17) (L' := [some (.ref 19), some (.int 4)]) (st' := [.ref 20]) (h' := zH I (zPr 4)) 1 rfl ?_
  refine wp_blk (pc' := 18) (L' := [some (.ref 19), some (.int 4)]) (st' := [.int 4, .ref 20]) (h' := zH I (zPr 4)) 1 rfl ?_
  refine wp_blk (pc' := 19) (L' := [some (.ref 19), some (.int 4)]) (st' := [.ref 21]) (h' := zH I (zPr 4)) 1 rfl ?_
  refine wp_blk (pc' := 23) (L' := [some (.ref 19), some (.int 4)]) (st' := [.ref 21]) (h' := zH I (zPr 4)) 1 rfl ?_
  exact wp_end rfl rfl ⟨rfl, rfl⟩
set_option maxRecDepth 100000 in
theorem sp_at19_4_5 {X : Nat × (Nat → Int32)} (I : Nat → Nat → Int32) : Wf X 68 [some (.ref 19), some (.int 5)] (zH I (zPr 4)) (some (.ref 25)) (zH I (zPr 4)) := by
  unfold Wf
  refine wp_blk (pc' := 1) (L' := [some (.ref 19), some (.int 5)]) (st' := [.int 5]) (h' := zH I (zPr 4)) 1 rfl ?_
  refine wp_blk (pc' := 4) (L' := [some (.ref 19), some (.int 5)]) (st' := []) (h' := zH I (zPr 4)) 1 rfl ?_
  refine wp_blk (pc' := 5) (L' := [some (.ref 19), some (.int 5)]) (st' := [.int 5]) (h' := zH I (zPr 4)) 1 rfl ?_
  refine wp_blk (pc' := 6) (L' := [some (.ref 19), some (.int 5)]) (st' := [.ref 19, .int 5]) (h' := zH I (zPr 4)) 1 rfl ?_
  refine wp_blk (pc' := 9) (L' := [some (.ref 19), some (.int 5)]) (st' := [.ref 20, .int 5]) (h' := zH I (zPr 4)) 1 rfl ?_
  refine wp_blk (pc' := 10) (L' := [some (.ref 19), some (.int 5)]) (st' := [.int 8, .int 5]) (h' := zH I (zPr 4)) 1 rfl ?_
  refine wp_blk (pc' := 13) (L' := [some (.ref 19), some (.int 5)]) (st' := []) (h' := zH I (zPr 4)) 1 rfl ?_
  refine wp_blk (pc' := 14) (L' := [some (.ref 19), some (.int 5)]) (st' := [.ref 19]) (h' := zH I (zPr 4)) 1 rfl ?_
  refine wp_blk (pc' := 17) (L' := [some (.ref 19), some (.int 5)]) (st' := [.ref 20]) (h' := zH I (zPr 4)) 1 rfl ?_
  refine wp_blk (pc' := 18) (L' := [some (.ref 19), some (.int 5)]) (st' := [.int 5, .ref 20]) (h' := zH I (zPr 4)) 1 rfl ?_
  refine wp_blk (pc' := 19) (L' := [some (.ref 19), some (.int 5)]) (st' := [.ref 25]) (h' := zH I (zPr 4)) 1 rfl ?_
  refine wp_blk (pc' := 23) (L' := [some (.ref 19), some (.int 5)]) (st' := [.ref 25]) (h' := zH I (zPr 4)) 1 rfl ?_
  exact wp_end rfl rfl ⟨rfl, rfl⟩
set_option maxRecDepth 100000 in
theorem sp_at19_4_6 {X : Nat × (Nat → Int32)} (I : Nat → Nat → Int32) : Wf X 68 [some (.ref 19), some (.int 6)] (zH I (zPr 4)) (some (.ref 29)) (zH I (zPr 4)) := by
  unfold Wf
  refine wp_blk (pc' := 1) (L' := [some (.ref 19), some (.int 6)]) (st' := [.int 6]) (h' := zH I (zPr 4)) 1 rfl ?_
  refine wp_blk (pc' := 4) (L' := [some (.ref 19), some (.int 6)]) (st' := []) (h' := zH I (zPr 4)) 1 rfl ?_
  refine wp_blk (pc' := 5) (L' := [some (.ref 19), some (.int 6)]) (st' := [.int 6]) (h' := zH I (zPr 4)) 1 rfl ?_
  refine wp_blk (pc' := 6) (L' := [some (.ref 19), some (.int 6)]) (st' := [.ref 19, .int 6]) (h' := zH I (zPr 4)) 1 rfl ?_
  refine wp_blk (pc' := 9) (L' := [some (.ref 19), some (.int 6)]) (st' := [.ref 20, .int 6]) (h' := zH I (zPr 4)) 1 rfl ?_
  refine wp_blk (pc' := 10) (L' := [some (.ref 19), some (.int 6)]) (st' := [.int 8, .int 6]) (h' := zH I (zPr 4)) 1 rfl ?_
  refine wp_blk (pc' := 13) (L' := [some (.ref 19), some (.int 6)]) (st' := []) (h' := zH I (zPr 4)) 1 rfl ?_
  refine wp_blk (pc' := 14) (L' := [some (.ref 19), some (.int 6)]) (st' := [.ref 19]) (h' := zH I (zPr 4)) 1 rfl ?_
  refine wp_blk (pc' := 17) (L' := [some (.ref 19), some (.int 6)]) (st' := [.ref 20]) (h' := zH I (zPr 4)) 1 rfl ?_
  refine wp_blk (pc' := 18) (L' := [some (.ref 19), some (.int 6)]) (st' := [.int 6, .ref 20]) (h' := zH I (zPr 4)) 1 rfl ?_
  refine wp_blk (pc' := 19) (L' := [some (.ref 19), some (.int 6)]) (st' := [.ref 29]) (h' := zH I (zPr 4)) 1 rfl ?_
  refine wp_blk (pc' := 23) (L' := [some (.ref 19), some (.int 6)]) (st' := [.ref 29]) (h' := zH I (zPr 4)) 1 rfl ?_
  exact wp_end rfl rfl ⟨rfl, rfl⟩
set_option maxRecDepth 100000 in
theorem sp_at19_4_7 {X : Nat × (Nat → Int32)} (I : Nat → Nat → Int32) : Wf X 68 [some (.ref 19), some (.int 7)] (zH I (zPr 4)) (some (.ref 33)) (zH I (zPr 4)) := by
  unfold Wf
  refine wp_blk (pc' := 1) (L' := [some (.ref 19), some (.int 7)]) (st' := [.int 7]) (h' := zH I (zPr 4)) 1 rfl ?_
  refine wp_blk (pc' := 4) (L' := [some (.ref 19), some (.int 7)]) (st' := []) (h' := zH I (zPr 4)) 1 rfl ?_
  refine wp_blk (pc' := 5) (L' := [some (.ref 19), some (.int 7)]) (st' := [.int 7]) (h' := zH I (zPr 4)) 1 rfl ?_
  refine wp_blk (pc' := 6) (L' := [some (.ref 19), some (.int 7)]) (st' := [.ref 19, .int 7]) (h' := zH I (zPr 4)) 1 rfl ?_
  refine wp_blk (pc' := 9) (L' := [some (.ref 19), some (.int 7)]) (st' := [.ref 20, .int 7]) (h' := zH I (zPr 4)) 1 rfl ?_
  refine wp_blk (pc' := 10) (L' := [some (.ref 19), some (.int 7)]) (st' := [.int 8, .int 7]) (h' := zH I (zPr 4)) 1 rfl ?_
  refine wp_blk (pc' := 13) (L' := [some (.ref 19), some (.int 7)]) (st' := []) (h' := zH I (zPr 4)) 1 rfl ?_
  refine wp_blk (pc' := 14) (L' := [some (.ref 19), some (.int 7)]) (st' := [.ref 19]) (h' := zH I (zPr 4)) 1 rfl ?_
  refine wp_blk (pc' := 17) (L' := [some (.ref 19), some (.int 7)]) (st' := [.ref 20]) (h' := zH I (zPr 4)) 1 rfl ?_
  refine wp_blk (pc' := 18) (L' := [some (.ref 19), some (.int 7)]) (st' := [.int 7, .ref 20]) (h' := zH I (zPr 4)) 1 rfl ?_
  refine wp_blk (pc' := 19) (L' := [some (.ref 19), some (.int 7)]) (st' := [.ref 33]) (h' := zH I (zPr 4)) 1 rfl ?_
  refine wp_blk (pc' := 23) (L' := [some (.ref 19), some (.int 7)]) (st' := [.ref 33]) (h' := zH I (zPr 4)) 1 rfl ?_
  exact wp_end rfl rfl ⟨rfl, rfl⟩
set_option maxRecDepth 100000 in
theorem sp_at19_5_m {X : Nat × (Nat → Int32)} (I : Nat → Nat → Int32) : Wf X 68 [some (.ref 19), some (.int (-1))] (zH I (zPr 5)) (some .null) (zH I (zPr 5)) := by
  unfold Wf
  refine wp_blk (pc' := 1) (L' := [some (.ref 19), some (.int (-1))]) (st' := [.int (-1)]) (h' := zH I (zPr 5)) 1 rfl ?_
  refine wp_blk (pc' := 22) (L' := [some (.ref 19), some (.int (-1))]) (st' := []) (h' := zH I (zPr 5)) 1 rfl ?_
  refine wp_blk (pc' := 23) (L' := [some (.ref 19), some (.int (-1))]) (st' := [.null]) (h' := zH I (zPr 5)) 1 rfl ?_
  exact wp_end rfl rfl ⟨rfl, rfl⟩
set_option maxRecDepth 100000 in
theorem sp_at19_5_0 {X : Nat × (Nat → Int32)} (I : Nat → Nat → Int32) : Wf X 68 [some (.ref 19), some (.int 0)] (zH I (zPr 5)) (some (.ref 41)) (zH I (zPr 5)) := by
  unfold Wf
  refine wp_blk (pc' := 1) (L' := [some (.ref 19), some (.int 0)]) (st' := [.int 0]) (h' := zH I (zPr 5)) 1 rfl ?_
  refine wp_blk (pc' := 4) (L' := [some (.ref 19), some (.int 0)]) (st' := []) (h' := zH I (zPr 5)) 1 rfl ?_
  refine wp_blk (pc' := 5) (L' := [some (.ref 19), some (.int 0)]) (st' := [.int 0]) (h' := zH I (zPr 5)) 1 rfl ?_
  refine wp_blk (pc' := 6) (L' := [some (.ref 19), some (.int 0)]) (st' := [.ref 19, .int 0]) (h' := zH I (zPr 5)) 1 rfl ?_
  refine wp_blk (pc' := 9) (L' := [some (.ref 19), some (.int 0)]) (st' := [.ref 20, .int 0]) (h' := zH I (zPr 5)) 1 rfl ?_
  refine wp_blk (pc' := 10) (L' := [some (.ref 19), some (.int 0)]) (st' := [.int 8, .int 0]) (h' := zH I (zPr 5)) 1 rfl ?_
  refine wp_blk (pc' := 13) (L' := [some (.ref 19), some (.int 0)]) (st' := []) (h' := zH I (zPr 5)) 1 rfl ?_
  refine wp_blk (pc' := 14) (L' := [some (.ref 19), some (.int 0)]) (st' := [.ref 19]) (h' := zH I (zPr 5)) 1 rfl ?_
  refine wp_blk (pc' := 17) (L' := [some (.ref 19), some (.int 0)]) (st' := [.ref 20]) (h' := zH I (zPr 5)) 1 rfl ?_
  refine wp_blk (pc' := 18) (L' := [some (.ref 19), some (.int 0)]) (st' := [.int 0, .ref 20]) (h' := zH I (zPr 5)) 1 rfl ?_
  refine wp_blk (pc' := 19) (L' := [some (.ref 19), some (.int 0)]) (st' := [.ref 41]) (h' := zH I (zPr 5)) 1 rfl ?_
  refine wp_blk (pc' := 23) (L' := [some (.ref 19), some (.int 0)]) (st' := [.ref 41]) (h' := zH I (zPr 5)) 1 rfl ?_
  exact wp_end rfl rfl ⟨rfl, rfl⟩
set_option maxRecDepth 100000 in
theorem sp_at19_5_1 {X : Nat × (Nat → Int32)} (I : Nat → Nat → Int32) : Wf X 68 [some (.ref 19), some (.int 1)] (zH I (zPr 5)) (some (.ref 45)) (zH I (zPr 5)) := by
  unfold Wf
  refine wp_blk (pc' := 1) (L' := [some (.ref 19), some (.int 1)]) (st' := [.int 1]) (h' := zH I (zPr 5)) 1 rfl ?_
  refine wp_blk (pc' := 4) (L' := [some (.ref 19), some (.int 1)]) (st' := []) (h' := zH I (zPr 5)) 1 rfl ?_
  refine wp_blk (pc' := 5) (L' := [some (.ref 19), some (.int 1)]) (st' := [.int 1]) (h' := zH I (zPr 5)) 1 rfl ?_
  refine wp_blk (pc' := 6) (L' := [some (.ref 19), some (.int 1)]) (st' := [.ref 19, .int 1]) (h' := zH I (zPr 5)) 1 rfl ?_
  refine wp_blk (pc' := 9) (L' := [some (.ref 19), some (.int 1)]) (st' := [.ref 20, .int 1]) (h' := zH I (zPr 5)) 1 rfl ?_
  refine wp_blk (pc' := 10) (L' := [some (.ref 19), some (.int 1)]) (st' := [.int 8, .int 1]) (h' := zH I (zPr 5)) 1 rfl ?_
  refine wp_blk (pc' := 13) (L' := [some (.ref 19), some (.int 1)]) (st' := []) (h' := zH I (zPr 5)) 1 rfl ?_
  refine wp_blk (pc' := 14) (L' := [some (.ref 19), some (.int 1)]) (st' := [.ref 19]) (h' := zH I (zPr 5)) 1 rfl ?_
  refine wp_blk (pc' := 17) (L' := [some (.ref 19), some (.int 1)]) (st' := [.ref 20]) (h' := zH I (zPr 5)) 1 rfl ?_
  refine wp_blk (pc' := 18) (L' := [some (.ref 19), some (.int 1)]) (st' := [.int 1, .ref 20]) (h' := zH I (zPr 5)) 1 rfl ?_
  refine wp_blk (pc' := 19) (L' := [some (.ref 19), some (.int 1)]) (st' := [.ref 45]) (h' := zH I (zPr 5)) 1 rfl ?_
  refine wp_blk (pc' := 23) (L' := [some (.ref 19), some (.int 1)]) (st' := [.ref 45]) (h' := zH I (zPr 5)) 1 rfl ?_
  exact wp_end rfl rfl ⟨rfl, rfl⟩
set_option maxRecDepth 100000 in
theorem sp_at19_5_2 {X : Nat × (Nat → Int32)} (I : Nat → Nat → Int32) : Wf X 68 [some (.ref 19), some (.int 2)] (zH I (zPr 5)) (some (.ref 49)) (zH I (zPr 5)) := by
  unfold Wf
  refine wp_blk (pc' := 1) (L' := [some (.ref 19), some (.int 2)]) (st' := [.int 2]) (h' := zH I (zPr 5)) 1 rfl ?_
  refine wp_blk (pc' := 4) (L' := [some (.ref 19), some (.int 2)]) (st' := []) (h' := zH I (zPr 5)) 1 rfl ?_
  refine wp_blk (pc' := 5) (L' := [some (.ref 19), some (.int 2)]) (st' := [.int 2]) (h' := zH I (zPr 5)) 1 rfl ?_
  refine wp_blk (pc' := 6) (L' := [some (.ref 19), some (.int 2)]) (st' := [.ref 19, .int 2]) (h' := zH I (zPr 5)) 1 rfl ?_
  refine wp_blk (pc' := 9) (L' := [some (.ref 19), some (.int 2)]) (st' := [.ref 20, .int 2]) (h' := zH I (zPr 5)) 1 rfl ?_
  refine wp_blk (pc' := 10) (L' := [some (.ref 19), some (.int 2)]) (st' := [.int 8, .int 2]) (h' := zH I (zPr 5)) 1 rfl ?_
  refine wp_blk (pc' := 13) (L' := [some (.ref 19), some (.int 2)]) (st' := []) (h' := zH I (zPr 5)) 1 rfl ?_
  refine wp_blk (pc' := 14) (L' := [some (.ref 19), some (.int 2)]) (st' := [.ref 19]) (h' := zH I (zPr 5)) 1 rfl ?_
  refine wp_blk (pc' := 17) (L' := [some (.ref 19), some (.int 2)]) (st' := [.ref 20]) (h' := zH I (zPr 5)) 1 rfl ?_
  refine wp_blk (pc' := 18) (L' := [some (.ref 19), some (.int 2)]) (st' := [.int 2, .ref 20]) (h' := zH I (zPr 5)) 1 rfl ?_
  refine wp_blk (pc' := 19) (L' := [some (.ref 19), some (.int 2)]) (st' := [.ref 49]) (h' := zH I (zPr 5)) 1 rfl ?_
  refine wp_blk (pc' := 23) (L' := [some (.ref 19), some (.int 2)]) (st' := [.ref 49]) (h' := zH I (zPr 5)) 1 rfl ?_
  exact wp_end rfl rfl ⟨rfl, rfl⟩
set_option maxRecDepth 100000 in
theorem sp_at19_5_3 {X : Nat × (Nat → Int32)} (I : Nat → Nat → Int32) : Wf X 68 [some (.ref 19), some (.int 3)] (zH I (zPr 5)) (some (.ref 21)) (zH I (zPr 5)) := by
  unfold Wf
  refine wp_blk (pc' := 1) (L' := [some (.ref 19), some (.int 3)]) (st' := [.int 3]) (h' := zH I (zPr 5)) 1 rfl ?_
  refine wp_blk (pc' := 4) (L' := [some (.ref 19), some (.int 3)]) (st' := []) (h' := zH I (zPr 5)) 1 rfl ?_
  refine wp_blk (pc' := 5) (L' := [some (.ref 19), some (.int 3)]) (st' := [.int 3]) (h' := zH I (zPr 5)) 1 rfl ?_
  refine wp_blk (pc' := 6) (L' := [some (.ref 19), some (.int 3)]) (st' := [.ref 19, .int 3]) (h' := zH I (zPr 5)) 1 rfl ?_
  refine wp_blk (pc' := 9) (L' := [some (.ref 19), some (.int 3)]) (st' := [.ref 20, .int 3]) (h' := zH I (zPr 5)) 1 rfl ?_
  refine wp_blk (pc' := 10) (L' := [some (.ref 19), some (.int 3)]) (st' := [.int 8, .int 3]) (h' := zH I (zPr 5)) 1 rfl ?_
  refine wp_blk (pc' := 13) (L' := [some (.ref 19), some (.int 3)]) (st' := []) (h' := zH I (zPr 5)) 1 rfl ?_
  refine wp_blk (pc' := 14) (L' := [some (.ref 19), some (.int 3)]) (st' := [.ref 19]) (h' := zH I (zPr 5)) 1 rfl ?_
  refine wp_blk (pc' := 17) (L' := [some (.ref 19), some (.int 3)]) (st' := [.ref 20]) (h' := zH I (zPr 5)) 1 rfl ?_
  refine wp_blk (pc' := 18) (L' := [some (.ref 19), some (.int 3)]) (st' := [.int 3, .ref 20]) (h' := zH I (zPr 5)) 1 rfl ?_
  refine wp_blk (pc' := 19) (L' := [some (.ref 19), some (.int 3)]) (st' := [.ref 21]) (h' := zH I (zPr 5)) 1 rfl ?_
  refine wp_blk (pc' := 23) (L' := [some (.ref 19), some (.int 3)]) (st' := [.ref 21]) (h' := zH I (zPr 5)) 1 rfl ?_
  exact wp_end rfl rfl ⟨rfl, rfl⟩
set_option maxRecDepth 100000 in
theorem sp_at19_5_4 {X : Nat × (Nat → Int32)} (I : Nat → Nat → Int32) : Wf X 68 [some (.ref 19), some (.int 4)] (zH I (zPr 5)) (some (.ref 25)) (zH I (zPr 5)) := by
  unfold Wf
  refine wp_blk (pc' := 1) (L' := [some (.ref 19), some (.int 4)]) (st' := [.int 4]) (h' := zH I (zPr 5)) 1 rfl ?_
  refine wp_blk (pc' := 4) (L' := [some (.ref 19), some (.int 4)]) (st' := []) (h' := zH I (zPr 5)) 1 rfl ?_
  refine wp_blk (pc' := 5) (L' := [some (.ref 19), some (.int 4)]) (st' := [.int 4]) (h' := zH I (zPr 5)) 1 rfl ?_
  refine wp_blk (pc' := 6) (L' := [some (.ref 19), some (.int 4)]) (st' := [.ref 19, .int 4]) (h' := zH I (zPr 5)) 1 rfl ?_
  refine wp_blk (pc' := 9) (L' := [some (.ref 19), some (.int 4)]) (st' := [.ref 20, .int 4]) (h' := zH I (zPr 5)) 1 rfl ?_
  refine wp_blk (pc' := 10) (L' := [some (.ref 19), some (.int 4)]) (st' := [.int 8, .int 4]) (h' := zH I (zPr 5)) 1 rfl ?_
  refine wp_blk (pc' := 13) (L' := [some (.ref 19), some (.int 4)]) (st' := []) (h' := zH I (zPr 5)) 1 rfl ?_
  refine wp_blk (pc' := 14) (L' := [some (.ref 19), some (.int 4)]) (st' := [.ref 19]) (h' := zH I (zPr 5)) 1 rfl ?_
  refine wp_blk (pc' := 17) (L' := [some (.ref 19), some (.int 4)]) (st' := [.ref 20]) (h' := zH I (zPr 5)) 1 rfl ?_
  refine wp_blk (pc' := 18) (L' := [some (.ref 19), some (.int 4)]) (st' := [.int 4, .ref 20]) (h' := zH I (zPr 5)) 1 rfl ?_
  refine wp_blk (pc' := 19) (L' := [some (.ref 19), some (.int 4)]) (st' := [.ref 25]) (h' := zH I (zPr 5)) 1 rfl ?_
  refine wp_blk (pc' := 23) (L' := [some (.ref 19), some (.int 4)]) (st' := [.ref 25]) (h' := zH I (zPr 5)) 1 rfl ?_
  exact wp_end rfl rfl ⟨rfl, rfl⟩
set_option maxRecDepth 100000 in
theorem sp_at19_5_5 {X : Nat × (Nat → Int32)} (I : Nat → Nat → Int32) : Wf X 68 [some (.ref 19), some (.int 5)] (zH I (zPr 5)) (some (.ref 29)) (zH I (zPr 5)) := by
  unfold Wf
  refine wp_blk (pc' := 1) (L' := [some (.ref 19), some (.int 5)]) (st' := [.int 5]) (h' := zH I (zPr 5)) 1 rfl ?_
  refine wp_blk (pc' := 4) (L' := [some (.ref 19), some (.int 5)]) (st' := []) (h' := zH I (zPr 5)) 1 rfl ?_
  refine wp_blk (pc' := 5) (L' := [some (.ref 19), some (.int 5)]) (st' := [.int 5]) (h' := zH I (zPr 5)) 1 rfl ?_
  refine wp_blk (pc' := 6) (L' := [some (.ref 19), some (.int 5)]) (st' := [.ref 19, .int 5]) (h' := zH I (zPr 5)) 1 rfl ?_
  refine wp_blk (pc' := 9) (L' := [some (.ref 19), some (.int 5)]) (st' := [.ref 20, .int 5]) (h' := zH I (zPr 5)) 1 rfl ?_
  refine wp_blk (pc' := 10) (L' := [some (.ref 19), some (.int 5)]) (st' := [.int 8, .int 5]) (h' := zH I (zPr 5)) 1 rfl ?_
  refine wp_blk (pc' := 13) (L' := [some (.ref 19), some (.int 5)]) (st' := []) (h' := zH I (zPr 5)) 1 rfl ?_
  refine wp_blk (pc' := 14) (L' := [some (.ref 19), some (.int 5)]) (st' := [.ref 19]) (h' := zH I (zPr 5)) 1 rfl ?_
  refine wp_blk (pc' := 17) (L' := [some (.ref 19), some (.int 5)]) (st' := [.ref 20]) (h' := zH I (zPr 5)) 1 rfl ?_
  refine wp_blk (pc' := 18) (L' := [some (.ref 19), some (.int 5)]) (st' := [.int 5, .ref 20]) (h' := zH I (zPr 5)) 1 rfl ?_
  refine wp_blk (pc' := 19) (L' := [some (.ref 19), some (.int 5)]) (st' := [.ref 29]) (h' := zH I (zPr 5)) 1 rfl ?_
  refine wp_blk (pc' := 23) (L' := [some (.ref 19), some (.int 5)]) (st' := [.ref 29]) (h' := zH I (zPr 5)) 1 rfl ?_
  exact wp_end rfl rfl ⟨rfl, rfl⟩
set_option maxRecDepth 100000 in
theorem sp_at19_5_6 {X : Nat × (Nat → Int32)} (I : Nat → Nat → Int32) : Wf X 68 [some (.ref 19), some (.int 6)] (zH I (zPr 5)) (some (.ref 33)) (zH I (zPr 5)) := by
  unfold Wf
  refine wp_blk (pc' := 1) (L' := [some (.ref 19), some (.int 6)]) (st' := [.int 6]) (h' := zH I (zPr 5)) 1 rfl ?_
  refine wp_blk (pc' := 4) (L' := [some (.ref 19), some (.int 6)]) (st' := []) (h' := zH I (zPr 5)) 1 rfl ?_
  refine wp_blk (pc' := 5) (L' := [some (.ref 19), some (.int 6)]) (st' := [.int 6]) (h' := zH I (zPr 5)) 1 rfl ?_
  refine wp_blk (pc' := 6) (L' := [some (.ref 19), some (.int 6)]) (st' := [.ref 19, .int 6]) (h' := zH I (zPr 5)) 1 rfl ?_
  refine wp_blk (pc' := 9) (L' := [some (.ref 19), some (.int 6)]) (st' := [.ref 20, .int 6]) (h' := zH I (zPr 5)) 1 rfl ?_
  refine wp_blk (pc' := 10) (L' := [some (.ref 19), some (.int 6)]) (st' := [.int 8, .int 6]) (h' := zH I (zPr 5)) 1 rfl ?_
  refine wp_blk (pc' := 13) (L' := [some (.ref 19), some (.int 6)]) (st' := []) (h' := zH I (zPr 5)) 1 rfl ?_
  refine wp_blk (pc' := 14) (L' := [some (.ref 19), some (.int 6)]) (st' := [.ref 19]) (h' := zH I (zPr 5)) 1 rfl ?_
  refine wp_blk (pc' := 17) (L' := [some (.ref 19), some (.int 6)]) (st' := [.ref 20]) (h' := zH I (zPr 5)) 1 rfl ?_
  refine wp_blk (pc' := 18) (L' := [some (.ref 19), some (.int 6)]) (st' := [.int 6, .ref 20]) (h' := zH I (zPr 5)) 1 rfl ?_
  refine wp_blk (pc' := 19) (L' := [some (.ref 19), some (.int 6)]) (st' := [.ref 33]) (h' := zH I (zPr 5)) 1 rfl ?_
  refine wp_blk (pc' := 23) (L' := [some (.ref 19), some (.int 6)]) (st' := [.ref 33]) (h' := zH I (zPr 5)) 1 rfl ?_
  exact wp_end rfl rfl ⟨rfl, rfl⟩
set_option maxRecDepth 100000 in
theorem sp_at19_5_7 {X : Nat × (Nat → Int32)} (I : Nat → Nat → Int32) : Wf X 68 [some (.ref 19), some (.int 7)] (zH I (zPr 5)) (some (.ref 37)) (zH I (zPr 5)) := by
  unfold Wf
  refine wp_blk (pc' := 1) (L' := [some (.ref 19), some (.int 7)]) (st' := [.int 7]) (h' := zH I (zPr 5)) 1 rfl ?_
  refine wp_blk (pc' := 4) (L' := [some (.ref 19), some (.int 7)]) (st' := []) (h' := zH I (zPr 5)) 1 rfl ?_
  refine wp_blk (pc' := 5) (L' := [some (.ref 19), some (.int 7)]) (st' := [.int 7]) (h' := zH I (zPr 5)) 1 rfl ?_
  refine wp_blk (pc' := 6) (L' := [some (.ref 19), some (.int 7)]) (st' := [.ref 19, .int 7]) (h' := zH I (zPr 5)) 1 rfl ?_
  refine wp_blk (pc' := 9) (L' := [some (.ref 19), some (.int 7)]) (st' := [.ref 20, .int 7]) (h' := zH I (zPr 5)) 1 rfl ?_
  refine wp_blk (pc' := 10) (L' := [some (.ref 19), some (.int 7)]) (st' := [.int 8, .int 7]) (h' := zH I (zPr 5)) 1 rfl ?_
  refine wp_blk (pc' := 13) (L' := [some (.ref 19), some (.int 7)]) (st' := []) (h' := zH I (zPr 5)) 1 rfl ?_
  refine wp_blk (pc' := 14) (L' := [some (.ref 19), some (.int 7)]) (st' := [.ref 19]) (h' := zH I (zPr 5)) 1 rfl ?_
  refine wp_blk (pc' := 17) (L' := [some (.ref 19), some (.int 7)]) (st' := [.ref 20]) (h' := zH I (zPr 5)) 1 rfl ?_
  refine wp_blk (pc' := 18) (L' := [some (.ref 19), some (.int 7)]) (st' := [.int 7, .ref 20]) (h' := zH I (zPr 5)) 1 rfl ?_
  refine wp_blk (pc' := 19) (L' := [some (.ref 19), some (.int 7)]) (st' := [.ref 37]) (h' := zH I (zPr 5)) 1 rfl ?_
  refine wp_blk (pc' := 23) (L' := [some (.ref 19), some (.int 7)]) (st' := [.ref 37]) (h' := zH I (zPr 5)) 1 rfl ?_
  exact wp_end rfl rfl ⟨rfl, rfl⟩
set_option maxRecDepth 100000 in
theorem sp_at19_6_m {X : Nat × (Nat → Int32)} (I : Nat → Nat → Int32) : Wf X 68 [some (.ref 19), some (.int (-1))] (zH I (zPr 6)) (some .null) (zH I (zPr 6)) := by
  unfold Wf
  refine wp_blk (pc' := 1) (L' := [some (.ref 19), some (.int (-1))]) (st' := [.int (-1)]) (h' := zH I (zPr 6)) 1 rfl ?_
  refine wp_blk (pc' := 22) (L' := [some (.ref 19), some (.int (-1))]) (st' := []) (h' := zH I (zPr 6)) 1 rfl ?_
  refine wp_blk (pc' := 23) (L' := [some (.ref 19), some (.int (-1))]) (st' := [.null]) (h' := zH I (zPr 6)) 1 rfl ?_
  exact wp_end rfl rfl ⟨rfl, rfl⟩
set_option maxRecDepth 100000 in
theorem sp_at19_6_0 {X : Nat × (Nat → Int32)} (I : Nat → Nat → Int32) : Wf X 68 [some (.ref 19), some (.int 0)] (zH I (zPr 6)) (some (.ref 45)) (zH I (zPr 6)) := by
  unfold Wf
  refine wp_blk (pc' := 1) (L' := [some (.ref 19), some (.int 0)]) (st' := [.int 0]) (h' := zH I (zPr 6)) 1 rfl ?_
  refine wp_blk (pc' := 4) (L' := [some (.ref 19), some (.int 0)]) (st' := []) (h' := zH I (zPr 6)) 1 rfl ?_
  refine wp_blk (pc' := 5) (L' := [some (.ref 19), some (.int 0)]) (st' := [.int 0]) (h' := zH I (zPr 6)) 1 rfl ?_
  refine wp_blk (pc' := 6) (L' := [some (.ref 19), some (.int 0)]) (st' := [.ref 19, .int 0]) (h' := zH I (zPr 6)) 1 rfl ?_
  refine wp_blk (pc' := 9) (L' := [some (.ref 19), some (.int 0)]) (st' := [.ref 20, .int 0]) (h' := zH I (zPr 6)) 1 rfl ?_
  refine wp_blk (pc' := 10) (L' := [some (.ref 19), some (.int 0)]) (st' := [.int 8, .int 0]) (h' := zH I (zPr 6)) 1 rfl ?_
  refine wp_blk (pc' := 13) (L' := [some (.ref 19), some (.int 0)]) (st' := []) (h' := zH I (zPr 6)) 1 rfl ?_
  refine wp_blk (pc' := 14) (L' := [some (.ref 19), some (.int 0)]) (st' := [.ref 19]) (h' := zH I (zPr 6)) 1 rfl ?_
  refine wp_blk (pc' := 17) (L' := [some (.ref 19), some (.int 0)]) (st' := [.ref 20]) (h' := zH I (zPr 6)) 1 rfl ?_
  refine wp_blk (pc' := 18) (L' := [some (.ref 19), some (.int 0)]) (st' := [.int 0, .ref 20]) (h' := zH I (zPr 6)) 1 rfl ?_
  refine wp_blk (pc' := 19) (L' := [some (.ref 19), some (.int 0)]) (st' := [.ref 45]) (h' := zH I (zPr 6)) 1 rfl ?_
  refine wp_blk (pc' := 23) (L' := [some (.ref 19), some (.int 0)]) (st' := [.ref 45]) (h' := zH I (zPr 6)) 1 rfl ?_
  exact wp_end rfl rfl ⟨rfl, rfl⟩
set_option maxRecDepth 100000 in
theorem sp_at19_6_1 {X : Nat × (Nat → Int32)} (I : Nat → Nat → Int32) : Wf X 68 [some (.ref 19), some (.int 1)] (zH I (zPr 6)) (some (.ref 49)) (zH I (zPr 6)) := by
  unfold Wf
  refine wp_blk (pc' := 1) (L' := [some (.ref 19), some (.int 1)]) (st' := [.int 1]) (h' := zH I (zPr 6)) 1 rfl ?_
  refine wp_blk (pc' := 4) (L' := [some (.ref 19), some (.int 1)]) (st' := []) (h' := zH I (zPr 6)) 1 rfl ?_
  refine wp_blk (pc' := 5) (L' := [some (.ref 19), some (.int 1)]) (st' := [.int 1]) (h' := zH I (zPr 6)) 1 rfl ?_
  refine wp_blk (pc' := 6) (L' := [some (.ref 19), some (.int 1)]) (st' := [.ref 19, .int 1]) (h' := zH I (zPr 6)) 1 rfl ?_
  refine wp_blk (pc' := 9) (L' := [some (.ref 19), some (.int 1)]) (st' := [.ref 20, .int 1]) (h' := zH I (zPr 6)) 1 rfl ?_
  refine wp_blk (pc' := 10) (L' := [some (.ref 19), some (.int 1)]) (st' := [.int 8, .int 1]) (h' := zH I (zPr 6)) 1 rfl ?_
  refine wp_blk (pc' := 13) (L' := [some (.ref 19), some (.int 1)]) (st' := []) (h' := zH I (zPr 6)) 1 rfl ?_
  refine wp_blk (pc' := 14) (L' := [some (.ref 19), some (.int 1)]) (st' := [.ref 19]) (h' := zH I (zPr 6)) 1 rfl ?_
  refine wp_blk (pc' := 17) (L' := [some (.ref 19), some (.int 1)]) (st' := [.ref 20]) (h' := zH I (zPr 6)) 1 rfl ?_
  refine wp_blk (pc' := 18) (L' := [some (.ref 19), some (.int 1)]) (st' := [.int 1, .ref 20]) (h' := zH I (zPr 6)) 1 rfl ?_
  refine wp_blk (pc' := 19) (L' := [some (.ref 19), some (.int 1)]) (st' := [.ref 49]) (h' := zH I (zPr 6)) 1 rfl ?_
  refine wp_blk (pc' := 23) (L' := [some (.ref 19), some (.int 1)]) (st' := [.ref 49]) (h' := zH I (zPr 6)) 1 rfl ?_
  exact wp_end rfl rfl ⟨rfl, rfl⟩
set_option maxRecDepth 100000 in
theorem sp_at19_6_2 {X : Nat × (Nat → Int32)} (I : Nat → Nat → Int32) : Wf X 68 [some (.ref 19), some (.int 2)] (zH I (zPr 6)) (some (.ref 21)) (zH I (zPr 6)) := by
  unfold Wf
  refine wp_blk (pc' := 1) (L' := [some (.ref 19), some (.int 2)]) (st' := [.int 2]) (h' := zH I (zPr 6)) 1 rfl ?_
  refine wp_blk (pc' := 4) (L' := [some (.ref 19), some (.int 2)]) (st' := []) (h' := zH I (zPr 6)) 1 rfl ?_
  refine wp_blk (pc' := 5) (L' := [some (.ref 19), some (.int 2)]) (st' := [.int 2]) (h' := zH I (zPr 6)) 1 rfl ?_
  refine wp_blk (pc' := 6) (L' := [some (.ref 19), some (.int 2)]) (st' := [.ref 19, .int 2]) (h' := zH I (zPr 6)) 1 rfl ?_
  refine wp_blk (pc' := 9) (L' := [some (.ref 19), some (.int 2)]) (st' := [.ref 20, .int 2]) (h' := zH I (zPr 6)) 1 rfl ?_
  refine wp_blk (pc' := 10) (L' := [some (.ref 19), some (.int 2)]) (st' := [.int 8, .int 2]) (h' := zH I (zPr 6)) 1 rfl ?_
  refine wp_blk (pc' := 13) (L' := [some (.ref 19), some (.int 2)]) (st' := []) (h' := zH I (zPr 6)) 1 rfl ?_
  refine wp_blk (pc' := 14) (L' := [some (.ref 19), some (.int 2)]) (st' := [.ref 19]) (h' := zH I (zPr 6)) 1 rfl ?_
  refine wp_blk (pc' := 17) (L' := [some (.ref 19), some (.int 2)]) (st' := [.ref 20]) (h' := zH I (zPr 6)) 1 rfl ?_
  refine wp_blk (pc' := 18) (L' := [some (.ref 19), some (.int 2)]) (st' := [.int 2, .ref 20]) (h' := zH I (zPr 6)) 1 rfl ?_
  refine wp_blk (pc' := 19) (L' := [some (.ref 19), some (.int 2)]) (st' := [.ref 21]) (h' := zH I (zPr 6)) 1 rfl ?_
  refine wp_blk (pc' := 23) (L' := [some (.ref 19), some (.int 2)]) (st' := [.ref 21]) (h' := zH I (zPr 6)) 1 rfl ?_
  exact wp_end rfl rfl ⟨rfl, rfl⟩
set_option maxRecDepth 100000 in
theorem sp_at19_6_3 {X : Nat × (Nat → Int32)} (I : Nat → Nat → Int32) : Wf X 68 [some (.ref 19), some (.int 3)] (zH I (zPr 6)) (some (.ref 25)) (zH I (zPr 6)) := by
  unfold Wf
  refine wp_blk (pc' := 1) (L' := [some (.ref 19), some (.int 3)]) (st' := [.int 3]) (h' := zH I (zPr 6)) 1 rfl ?_
  refine wp_blk (pc' := 4) (L' := [some (.ref 19), some (.int 3)]) (st' := []) (h' := zH I (zPr 6)) 1 rfl ?_
  refine wp_blk (pc' := 5) (L' := [some (.ref 19), some (.int 3)]) (st' := [.int 3]) (h' := zH I (zPr 6)) 1 rfl ?_
  refine wp_blk (pc' := 6) (L' := [some (.ref 19), some (.int 3)]) (st' := [.ref 19, .int 3]) (h' := zH I (zPr 6)) 1 rfl ?_
  refine wp_blk (pc' := 9) (L' := [some (.ref 19), some (.int 3)]) (st' := [.ref 20, .int 3]) (h' := zH I (zPr 6)) 1 rfl ?_
  refine wp_blk (pc' := 10) (L' := [some (.ref 19), some (.int 3)]) (st' := [.int 8, .int 3]) (h' := zH I (zPr 6)) 1 rfl ?_
  refine wp_blk (pc' := 13) (L' := [some (.ref 19), some (.int 3)]) (st' := []) (h' := zH I (zPr 6)) 1 rfl ?_
  refine wp_blk (pc' := 14) (L' := [some (.ref 19), some (.int 3)]) (st' := [.ref 19]) (h' := zH I (zPr 6)) 1 rfl ?_
  refine wp_blk (pc' := 17) (L' := [some (.ref 19), some (.int 3)]) (st' := [.ref 20]) (h' := zH I (zPr 6)) 1 rfl ?_
  refine wp_blk (pc' := 18) (L' := [some (.ref 19), some (.int 3)]) (st' := [.int 3, .ref 20]) (h' := zH I (zPr 6)) 1 rfl ?_
  refine wp_blk (pc' := 19) (L' := [some (.ref 19), some (.int 3)]) (st' := [.ref 25]) (h' := zH I (zPr 6)) 1 rfl ?_
  refine wp_blk (pc' := 23) (L' := [some (.ref 19), some (.int 3)]) (st' := [.ref 25]) (h' := zH I (zPr 6)) 1 rfl ?_
  exact wp_end rfl rfl ⟨rfl, rfl⟩
set_option maxRecDepth 100000 in
theorem sp_at19_6_4 {X : Nat × (Nat → Int32)} (I : Nat → Nat → Int32) : Wf X 68 [some (.ref 19), some (.int 4)] (zH I (zPr 6)) (some (.ref 29)) (zH I (zPr 6)) := by
  unfold Wf
  refine wp_blk (pc' := 1) (L' := [some (.ref 19), some (.int 4)]) (st' := [.int 4]) (h' := zH I (zPr 6)) 1 rfl ?_
  refine wp_blk (pc' := 4) (L' := [some (.ref 19), some (.int 4)]) (st' := []) (h' := zH I (zPr 6)) 1 rfl ?_
  refine wp_blk (pc' := 5) (L' := [some (.ref 19), some (.int 4)]) (st' := [.int 4]) (h' := zH I (zPr 6)) 1 rfl ?_
  refine wp_blk (pc' := 6) (L' := [some (.ref 19), some (.int 4)]) (st' := [.ref 19, .int 4]) (h' := zH I (zPr 6)) 1 rfl ?_
  refine wp_blk (pc' := 9) (L' := [some (.ref 19), some (.int 4)]) (st' := [.ref 20, .int 4]) (h' := zH I (zPr 6)) 1 rfl ?_
  refine wp_blk (pc' := 10) (L' := [some (.ref 19), some (.int 4)]) (st' := [.int 8, .int 4]) (h' := zH I (zPr 6)) 1 rfl ?_
  refine wp_blk (pc' := 13) (L' := [some (.ref 19), some (.int 4)]) (st' := []) (h' := zH I (zPr 6)) 1 rfl ?_
  refine wp_blk (pc' := 14) (L' := [some (.ref 19), some (.int 4)]) (st' := [.ref 19]) (h' := zH I (zPr 6)) 1 rfl ?_
  refine wp_blk (pc' := 17) (L' := [some (.ref 19), some (.int 4)]) (st' := [.ref 20]) (h' := zH I (zPr 6)) 1 rfl ?_
  refine wp_blk (pc' := 18) (L' := [some (.ref 19), some (.int 4)]) (st' := [.int 4, .ref 20]) (h' := zH I (zPr 6)) 1 rfl ?_
  refine wp_blk (pc' := 19) (L' := [some (.ref 19), some (.int 4)]) (st' := [.ref 29]) (h' := zH I (zPr 6)) 1 rfl ?_
  refine wp_blk (pc' := 23) (L' := [some (.ref 19), some (.int 4)]) (st' := [.ref 29]) (h' := zH I (zPr 6)) 1 rfl ?_
  exact wp_end rfl rfl ⟨rfl, rfl⟩
set_option maxRecDepth 100000 in
theorem sp_at19_6_5 {X : Nat × (Nat → Int32)} (I : Nat → Nat → Int32) : Wf X 68 [some (.ref 19), some (.int 5)] (zH I (zPr 6)) (some (.ref 33)) (zH I (zPr 6)) := by
  unfold Wf
  refine wp_blk (pc' := 1) (L' := [some (.ref 19), some (.int 5)]) (st' := [.int 5]) (h' := zH I (zPr 6)) 1 rfl ?_
  refine wp_blk (pc' := 4) (L' := [some (.ref 19), some (.int 5)]) (st' := []) (h' := zH I (zPr 6)) 1 rfl ?_
  refine wp_blk (pc' := 5) (L' := [some (.ref 19), some (.int 5)]) (st' := [.int 5]) (h' := zH I (zPr 6)) 1 rfl ?_
  refine wp_blk (pc' := 6) (L' := [some (.ref 19), some (.int 5)]) (st' := [.ref 19, .int 5]) (h' := zH I (zPr 6)) 1 rfl ?_
  refine wp_blk (pc' := 9) (L' := [some (.ref 19), some (.int 5)]) (st' := [.ref 20, .int 5]) (h' := zH I (zPr 6)) 1 rfl ?_
  refine wp_blk (pc' := 10) (L' := [some (.ref 19), some (.int 5)]) (st' := [.int 8, .int 5]) (h' := zH I (zPr 6)) 1 rfl ?_
  refine wp_blk (pc' := 13) (L' := [some (.ref 19), some (.int 5)]) (st' := []) (h' := zH I (zPr 6)) 1 rfl ?_
  refine wp_blk (pc' := 14) (L' := [some (.ref 19), some (.int 5)]) (st' := [.ref 19]) (h' := zH I (zPr 6)) 1 rfl ?_
  refine wp_blk (pc' := 17) (L' := [some (.ref 19), some (.int 5)]) (st' := [.ref 20]) (h' := zH I (zPr 6)) 1 rfl ?_
  refine wp_blk (pc' := 18) (L' := [some (.ref 19), some (.int 5)]) (st' := [.int 5, .ref 20]) (h' := zH I (zPr 6)) 1 rfl ?_
  refine wp_blk (pc' := 19) (L' := [some (.ref 19), some (.int 5)]) (st' := [.ref 33]) (h' := zH I (zPr 6)) 1 rfl ?_
  refine wp_blk (pc' := 23) (L' := [some (.ref 19), some (.int 5)]) (st' := [.ref 33]) (h' := zH I (zPr 6)) 1 rfl ?_
  exact wp_end rfl rfl ⟨rfl, rfl⟩
set_option maxRecDepth 100000 in
theorem sp_at19_6_6 {X : Nat × (Nat → Int32)} (I : Nat → Nat → Int32) : Wf X 68 [some (.ref 19), some (.int 6)] (zH I (zPr 6)) (some (.ref 37)) (zH I (zPr 6)) := by
  unfold Wf
  refine wp_blk (pc' := 1) (L' := [some (.ref 19), some (.int 6)]) (st' := [.int 6]) (h' := zH I (zPr 6)) 1 rfl ?_
  refine wp_blk (pc' := 4) (L' := [some (.ref 19), some (.int 6)]) (st' := []) (h' := zH I (zPr 6)) 1 rfl ?_
  refine wp_blk (pc' := 5) (L' := [some (.ref 19), some (.int 6)]) (st' := [.int 6]) (h' := zH I (zPr 6)) 1 rfl ?_
  refine wp_blk (pc' := 6) (L' := [some (.ref 19), some (.int 6)]) (st' := [.ref 19, .int 6]) (h' := zH I (zPr 6)) 1 rfl ?_
  refine wp_blk (pc' := 9) (L' := [some (.ref 19), some (.int 6)]) (st' := [.ref 20, .int 6]) (h' := zH I (zPr 6)) 1 rfl ?_
  refine wp_blk (pc' := 10) (L' := [some (.ref 19), some (.int 6)]) (st' := [.int 8, .int 6]) (h' := zH I (zPr 6)) 1 rfl ?_
  refine wp_blk (pc' := 13) (L' := [some (.ref 19), some (.int 6)]) (st' := []) (h' := zH I (zPr 6)) 1 rfl ?_
  refine wp_blk (pc' := 14) (L' := [some (.ref 19), some (.int 6)]) (st' := [.ref 19]) (h' := zH I (zPr 6)) 1 rfl ?_
  refine wp_blk (pc' := 17) (L' := [some (.ref 19), some (.int 6)]) (st' := [.ref 20]) (h' := zH I (zPr 6)) 1 rfl ?_
  refine wp_blk (pc' := 18) (L' := [some (.ref 19), some (.int 6)]) (st' := [.int 6, .ref 20]) (h' := zH I (zPr 6)) 1 rfl ?_
  refine wp_blk (pc' := 19) (L' := [some (.ref 19), some (.int 6)]) (st' := [.ref 37]) (h' := zH I (zPr 6)) 1 rfl ?_
  refine wp_blk (pc' := 23) (L' := [some (.ref 19), some (.int 6)]) (st' := [.ref 37]) (h' := zH I (zPr 6)) 1 rfl ?_
  exact wp_end rfl rfl ⟨rfl, rfl⟩
set_option maxRecDepth 100000 in
theorem sp_at19_6_7 {X : Nat × (Nat → Int32)} (I : Nat → Nat → Int32) : Wf X 68 [some (.ref 19), some (.int 7)] (zH I (zPr 6)) (some (.ref 41)) (zH I (zPr 6)) := by
  unfold Wf
  refine wp_blk (pc' := 1) (L' := [some (.ref 19), some (.int 7)]) (st' := [.int 7]) (h' := zH I (zPr 6)) 1 rfl ?_
  refine wp_blk (pc' := 4) (L' := [some (.ref 19), some (.int 7)]) (st' := []) (h' := zH I (zPr 6)) 1 rfl ?_
  refine wp_blk (pc' := 5) (L' := [some (.ref 19), some (.int 7)]) (st' := [.int 7]) (h' := zH I (zPr 6)) 1 rfl ?_
  refine wp_blk (pc' := 6) (L' := [some (.ref 19), some (.int 7)]) (st' := [.ref 19, .int 7]) (h' := zH I (zPr 6)) 1 rfl ?_
  refine wp_blk (pc' := 9) (L' := [some (.ref 19), some (.int 7)]) (st' := [.ref 20, .int 7]) (h' := zH I (zPr 6)) 1 rfl ?_
  refine wp_blk (pc' := 10) (L' := [some (.ref 19), some (.int 7)]) (st' := [.int 8, .int 7]) (h' := zH I (zPr 6)) 1 rfl ?_
  refine wp_blk (pc' := 13) (L' := [some (.ref 19), some (.int 7)]) (st' := []) (h' := zH I (zPr 6)) 1 rfl ?_
  refine wp_blk (pc' := 14) (L' := [some (.ref 19), some (.int 7)]) (st' := [.ref 19]) (h' := zH I (zPr 6)) 1 rfl ?_
  refine wp_blk (pc' := 17) (L' := [some (.ref 19), some (.int 7)]) (st' := [.ref 20]) (h' := zH I (zPr 6)) 1 rfl ?_
  refine wp_blk (pc' := 18) (L' := [some (.ref 19), some (.int 7)]) (st' := [.int 7, .ref 20]) (h' := zH I (zPr 6)) 1 rfl ?_
  refine wp_blk (pc' := 19) (L' := [some (.ref 19), some (.int 7)]) (st' := [.ref 41]) (h' := zH I (zPr 6)) 1 rfl ?_
  refine wp_blk (pc' := 23) (L' := [some (.ref 19), some (.int 7)]) (st' := [.ref 41]) (h' := zH I (zPr 6)) 1 rfl ?_
  exact wp_end rfl rfl ⟨rfl, rfl⟩
set_option maxRecDepth 100000 in
theorem sp_at19_7_m {X : Nat × (Nat → Int32)} (I : Nat → Nat → Int32) : Wf X 68 [some (.ref 19), some (.int (-1))] (zH I (zPr 7)) (some .null) (zH I (zPr 7)) := by
  unfold Wf
  refine wp_blk (pc' := 1) (L' := [some (.ref 19), some (.int (-1))]) (st' := [.int (-1)]) (h' := zH I (zPr 7)) 1 rfl ?_
  refine wp_blk (pc' := 22) (L' := [some (.ref 19), some (.int (-1))]) (st' := []) (h' := zH I (zPr 7)) 1 rfl ?_
  refine wp_blk (pc' := 23) (L' := [some (.ref 19), some (.int (-1))]) (st' := [.null]) (h' := zH I (zPr 7)) 1 rfl ?_
  exact wp_end rfl rfl ⟨rfl, rfl⟩
set_option maxRecDepth 100000 in
theorem sp_at19_7_0 {X : Nat × (Nat → Int32)} (I : Nat → Nat → Int32) : Wf X 68 [some (.ref 19), some (.int 0)] (zH I (zPr 7)) (some (.ref 49)) (zH I (zPr 7)) := by
  unfold Wf
  refine wp_blk (pc' := 1) (L' := [some (.ref 19), some (.int 0)]) (st' := [.int 0]) (h' := zH I (zPr 7)) 1 rfl ?_
  refine wp_blk (pc' := 4) (L' := [some (.ref 19), some (.int 0)]) (st' := []) (h' := zH I (zPr 7)) 1 rfl ?_
  refine wp_blk (pc' := 5) (L' := [some (.ref 19), some (.int 0)]) (st' := [.int 0]) (h' := zH I (zPr 7)) 1 rfl ?_
  refine wp_blk (pc' := 6) (L' := [some (.ref 19), some (.int 0)]) (st' := [.ref 19, .int 0]) (h' := zH I (zPr 7)) 1 rfl ?_
  refine wp_blk (pc' := 9) (L' := [some (.ref 19), some (.int 0)]) (st' := [.ref 20, .int 0]) (h' := zH I (zPr 7)) 1 rfl ?_
  refine wp_blk (pc' := 10) (L' := [some (.ref 19), some (.int 0)]) (st' := [.int 8, .int 0]) (h' := zH I (zPr 7)) 1 rfl ?_
  refine wp_blk (pc' := 13) (L' := [some (.ref 19), some (.int 0)]) (st' := []) (h' := zH I (zPr 7)) 1 rfl ?_
  refine wp_blk (pc' := 14) (L' := [some (.ref 19), some (.int 0)]) (st' := [.ref 19]) (h' := zH I (zPr 7)) 1 rfl ?_
  refine wp_blk (pc' := 17) (L' := [some (.ref 19), some (.int 0)]) (st' := [.ref 20]) (h' := zH I (zPr 7)) 1 rfl ?_
  refine wp_blk (pc' := 18) (L' := [some (.ref 19), some (.int 0)]) (st' := [.int 0, .ref 20]) (h' := zH I (zPr 7)) 1 rfl ?_
  refine wp_blk (pc' := 19) (L' := [some (.ref 19), some (.int 0)]) (st' := [.ref 49]) (h' := zH I (zPr 7)) 1 rfl ?_
  refine wp_blk (pc' := 23) (L' := [some (.ref 19), some (.int 0)]) (st' := [.ref 49]) (h' := zH I (zPr 7)) 1 rfl ?_
  exact wp_end rfl rfl ⟨rfl, rfl⟩
set_option maxRecDepth 100000 in
theorem sp_at19_7_1 {X : Nat × (Nat → Int32)} (I : Nat → Nat → Int32) : Wf X 68 [some (.ref 19), some (.int 1)] (zH I (zPr 7)) (some (.ref 21)) (zH I (zPr 7)) := by
  unfold Wf
  refine wp_blk (pc' := 1) (L' := [some (.ref 19), some (.int 1)]) (st' := [.int 1]) (h' := zH I (zPr 7)) 1 rfl ?_
  refine wp_blk (pc' := 4) (L' := [some (.ref 19), some (.int 1)]) (st' := []) (h' := zH I (zPr 7)) 1 rfl ?_
  refine wp_blk (pc' := 5) (L' := [some (.ref 19), some (.int 1)]) (st' := [.int 1]) (h' := zH I (zPr 7)) 1 rfl ?_
  refine wp_blk (pc' := 6) (L' := [some (.ref 19), some (.int 1)]) (st' := [.ref 19, .int 1]) (h' := zH I (zPr 7)) 1 rfl ?_
  refine wp_blk (pc' := 9) (L' := [some (.ref 19), some (.int 1)]) (st' := [.ref 20, .int 1]) (h' := zH I (zPr 7)) 1 rfl ?_
  refine wp_blk (pc' := 10) (L' := [some (.ref 19), some (.int 1)]) (st' := [.int 8, .int 1]) (h' := zH I (zPr 7)) 1 rfl ?_
  refine wp_blk (pc' := 13) (L' := [some (.ref 19), some (.int 1)]) (st' := []) (h' := zH I (zPr 7)) 1 rfl ?_
  refine wp_blk (pc' := 14) (L' := [some (.ref 19), some (.int 1)]) (st' := [.ref 19]) (h' := zH I (zPr 7)) 1 rfl ?_
  refine wp_blk (pc' := 17) (L' := [some (.ref 19), some (.int 1)]) (st' := [.ref 20]) (h' := zH I (zPr 7)) 1 rfl ?_
  refine wp_blk (pc' := 18) (L' := [some (.ref 19), some (.int 1)]) (st' := [.int 1, .ref 20]) (h' := zH I (zPr 7)) 1 rfl ?_
  refine wp_blk (pc' := 19) (L' := [some (.ref 19), some (.int 1)]) (st' := [.ref 21]) (h' := zH I (zPr 7)) 1 rfl ?_
  refine wp_blk (pc' := 23) (L' := [some (.ref 19), some (.int 1)]) (st' := [.ref 21]) (h' := zH I (zPr 7)) 1 rfl ?_
  exact wp_end rfl rfl ⟨rfl, rfl⟩
set_option maxRecDepth 100000 in
theorem sp_at19_7_2 {X : Nat × (Nat → Int32)} (I : Nat → Nat → Int32) : Wf X 68 [some (.ref 19), some (.int 2)] (zH I (zPr 7)) (some (.ref 25)) (zH I (zPr 7)) := by
  unfold Wf
  refine wp_blk (pc' := 1) (L' := [some (.ref 19), some (.int 2)]) (st' := [.int 2]) (h' := zH I (zPr 7)) 1 rfl ?_
  refine wp_blk (pc' := 4) (L' := [some (.ref 19), some (.int 2)]) (st' := []) (h' := zH I (zPr 7)) 1 rfl ?_
  refine wp_blk (pc' := 5) (L' := [some (.ref 19), some (.int 2)]) (st' := [.int 2]) (h' := zH I (zPr 7)) 1 rfl ?_
  refine wp_blk (pc' := 6) (L' := [some (.ref 19), some (.int 2)]) (st' := [.ref 19, .int 2]) (h' := zH I (zPr 7)) 1 rfl ?_
  refine wp_blk (pc' := 9) (L' := [some (.ref 19), some (.int 2)]) (st' := [.ref 20, .int 2]) (h' := zH I (zPr 7)) 1 rfl ?_
  refine wp_blk (pc' := 10) (L' := [some (.ref 19), some (.int 2)]) (st' := [.int 8, .int 2]) (h' := zH I (zPr 7)) 1 rfl ?_
  refine wp_blk (pc' := 13) (L' := [some (.ref 19), some (.int 2)]) (st' := []) (h' := zH I (zPr 7)) 1 rfl ?_
  refine wp_blk (pc' := 14) (L' := [some (.ref 19), some (.int 2)]) (st' := [.ref 19]) (h' := zH I (zPr 7)) 1 rfl ?_
  refine wp_blk (pc' := 17) (L' := [some (.ref 19), some (.int 2)]) (st' := [.ref 20]) (h' := zH I (zPr 7)) 1 rfl ?_
  refine wp_blk (pc' := 18) (L' := [some (.ref 19), some (.int 2)]) (st' := [.int 2, .ref 20]) (h' := zH I (zPr 7)) 1 rfl ?_
  refine wp_blk (pc' := 19) (L' := [some (.ref 19), some (.int 2)]) (st' := [.ref 25]) (h' := zH I (zPr 7)) 1 rfl ?_
  refine wp_blk (pc' := 23) (L' := [some (.ref 19), some (.int 2)]) (st' := [.ref 25]) (h' := zH I (zPr 7)) 1 rfl ?_
  exact wp_end rfl rfl ⟨rfl, rfl⟩
set_option maxRecDepth 100000 in
theorem sp_at19_7_3 {X : Nat × (Nat → Int32)} (I : Nat → Nat → Int32) : Wf X 68 [some (.ref 19), some (.int 3)] (zH I (zPr 7)) (some (.ref 29)) (zH I (zPr 7)) := by
  unfold Wf
  refine wp_blk (pc' := 1) (L' := [some (.ref 19), some (.int 3)]) (st' := [.int 3]) (h' := zH I (zPr 7)) 1 rfl ?_
  refine wp_blk (pc' := 4) (L' := [some (.ref 19), some (.int 3)]) (st' := []) (h' := zH I (zPr 7)) 1 rfl ?_
  refine wp_blk (pc' := 5) (L' := [some (.ref 19), some (.int 3)]) (st' := [.int 3]) (h' := zH I (zPr 7)) 1 rfl ?_
  refine wp_blk (pc' := 6) (L' := [some (.ref 19), some (.int 3)]) (st' := [.ref 19, .int 3]) (h' := zH I (zPr 7)) 1 rfl ?_
  refine wp_blk (pc' := 9) (L' := [some (.ref 19), some (.int 3)]) (st' := [.ref 20, .int 3]) (h' := zH I (zPr 7)) 1 rfl ?_
  refine wp_blk (pc' := 10) (L' := [some (.ref 19), some (.int 3)]) (st' := [.int 8, .int 3]) (h' := zH I (zPr 7)) 1 rfl ?_
  refine wp_blk (pc' := 13) (L' := [some (.ref 19), some (.int 3)]) (st' := []) (h' := zH I (zPr 7)) 1 rfl ?_
  refine wp_blk (pc' := 14) (L' := [some (.ref 19), some (.int 3)]) (st' := [.ref 19]) (h' := zH I (zPr 7)) 1 rfl ?_
  refine wp_blk (pc' := 17) (L' := [some (.ref 19), some (.int 3)]) (st' := [.ref 20]) (h' := zH I (zPr 7)) 1 rfl ?_
  refine wp_blk (pc' := 18) (L' := [some (.ref 19), some (.int 3)]) (st' := [.int 3, .ref 20]) (h' := zH I (zPr 7)) 1 rfl ?_
  refine wp_blk (pc' := 19) (L' := [some (.ref 19), some (.int 3)]) (st' := [.ref 29]) (h' := zH I (zPr 7)) 1 rfl ?_
  refine wp_blk (pc' := 23) (L' := [some (.ref 19), some (.int 3)]) (st' := [.ref 29]) (h' := zH I (zPr 7)) 1 rfl ?_
  exact wp_end rfl rfl ⟨rfl, rfl⟩
set_option maxRecDepth 100000 in
theorem sp_at19_7_4 {X : Nat × (Nat → Int32)} (I : Nat → Nat → Int32) : Wf X 68 [some (.ref 19), some (.int 4)] (zH I (zPr 7)) (some (.ref 33)) (zH I (zPr 7)) := by
  unfold Wf
  refine wp_blk (pc' := 1) (L' := [some (.ref 19), some (.int 4)]) (st' := [.int 4]) (h' := zH I (zPr 7)) 1 rfl ?_
  refine wp_blk (pc' := 4) (L' := [some (.ref 19), some (.int 4)]) (st' := []) (h' := zH I (zPr 7)) 1 rfl ?_
  refine wp_blk (pc' := 5) (L' := [some (.ref 19), some (.int 4)]) (st' := [.int 4]) (h' := zH I (zPr 7)) 1 rfl ?_
  refine wp_blk (pc' := 6) (L' := [some (.ref 19), some (.int 4)]) (st' := [.ref 19, .int 4]) (h' := zH I (zPr 7)) 1 rfl ?_
  refine wp_blk (pc' := 9) (L' := [some (.ref 19), some (.int 4)]) (st' := [.ref 20, .int 4]) (h' := zH I (zPr 7)) 1 rfl ?_
  refine wp_blk (pc' := 10) (L' := [some (.ref 19), some (.int 4)]) (st' := [.int 8, .int 4]) (h' := zH I (zPr 7)) 1 rfl ?_
  refine wp_blk (pc' := 13) (L' := [some (.ref 19), some (.int 4)]) (st' := []) (h' := zH I (zPr 7)) 1 rfl ?_
  refine wp_blk (pc' := 14) (L' := [some (.ref 19), some (.int 4)]) (st' := [.ref 19]) (h' := zH I (zPr 7)) 1 rfl ?_
  refine wp_blk (pc' := 17) (L' := [some (.ref 19), some (.int 4)]) (st' := [.ref 20]) (h' := zH I (zPr 7)) 1 rfl ?_
  refine wp_blk (pc' := 18) (L' := [some (.ref 19), some (.int 4)]) (st' := [.int 4, .ref 20]) (h' := zH I (zPr 7)) 1 rfl ?_
  refine wp_blk (pc' := 19) (L' := [some (.ref 19), some (.int 4)]) (st' := [.ref 33]) (h' := zH I (zPr 7)) 1 rfl ?_
  refine wp_blk (pc' := 23) (L' := [some (.ref 19), some (.int 4)]) (st' := [.ref 33]) (h' := zH I (zPr 7)) 1 rfl ?_
  exact wp_end rfl rfl ⟨rfl, rfl⟩
set_option maxRecDepth 100000 in
theorem sp_at19_7_5 {X : Nat × (Nat → Int32)} (I : Nat → Nat → Int32) : Wf X 68 [some (.ref 19), some (.int 5)] (zH I (zPr 7)) (some (.ref 37)) (zH I (zPr 7)) := by
  unfold Wf
  refine wp_blk (pc' := 1) (L' := [some (.ref 19), some (.int 5)]) (st' := [.int 5]) (h' := zH I (zPr 7)) 1 rfl ?_
  refine wp_blk (pc' := 4) (L' := [some (.ref 19), some (.int 5)]) (st' := []) (h' := zH I (zPr 7)) 1 rfl ?_
  refine wp_blk (pc' := 5) (L' := [some (.ref 19), some (.int 5)]) (st' := [.int 5]) (h' := zH I (zPr 7)) 1 rfl ?_
  refine wp_blk (pc' := 6) (L' := [some (.ref 19), some (.int 5)]) (st' := [.ref 19, .int 5]) (h' := zH I (zPr 7)) 1 rfl ?_
  refine wp_blk (pc' := 9) (L' := [some (.ref 19), some (.int 5)]) (st' := [.ref 20, .int 5]) (h' := zH I (zPr 7)) 1 rfl ?_
  refine wp_blk (pc' := 10) (L' := [some (.ref 19), some (.int 5)]) (st' := [.int 8, .int 5]) (h' := zH I (zPr 7)) 1 rfl ?_
  refine wp_blk (pc' := 13) (L' := [some (.ref 19), some (.int 5)]) (st' := []) (h' := zH I (zPr 7)) 1 rfl ?_
  refine wp_blk (pc' := 14) (L' := [some (.ref 19), some (.int 5)]) (st' := [.ref 19]) (h' := zH I (zPr 7)) 1 rfl ?_
  refine wp_blk (pc' := 17) (L' := [some (.ref 19), some (.int 5)]) (st' := [.ref 20]) (h' := zH I (zPr 7)) 1 rfl ?_
  refine wp_blk (pc' := 18) (L' := [some (.ref 19), some (.int 5)]) (st' := [.int 5, .ref 20]) (h' := zH I (zPr 7)) 1 rfl ?_
  refine wp_blk (pc' := 19) (L' := [some (.ref 19), some (.int 5)]) (st' := [.ref 37]) (h' := zH I (zPr 7)) 1 rfl ?_
  refine wp_blk (pc' := 23) (L' := [some (.ref 19), some (.int 5)]) (st' := [.ref 37]) (h' := zH I (zPr 7)) 1 rfl ?_
  exact wp_end rfl rfl ⟨rfl, rfl⟩
set_option maxRecDepth 100000 in
theorem sp_at19_7_6 {X : Nat × (Nat → Int32)} (I : Nat → Nat → Int32) : Wf X 68 [some (.ref 19), some (.int 6)] (zH I (zPr 7)) (some (.ref 41)) (zH I (zPr 7)) := by
  unfold Wf
  refine wp_blk (pc' := 1) (L' := [some (.ref 19), some (.int 6)]) (st' := [.int 6]) (h' := zH I (zPr 7)) 1 rfl ?_
  refine wp_blk (pc' := 4) (L' := [some (.ref 19), some (.int 6)]) (st' := []) (h' := zH I (zPr 7)) 1 rfl ?_
  refine wp_blk (pc' := 5) (L' := [some (.ref 19), some (.int 6)]) (st' := [.int 6]) (h' := zH I (zPr 7)) 1 rfl ?_
  refine wp_blk (pc' := 6) (L' := [some (.ref 19), some (.int 6)]) (st' := [.ref 19, .int 6]) (h' := zH I (zPr 7)) 1 rfl ?_
  refine wp_blk (pc' := 9) (L' := [some (.ref 19), some (.int 6)]) (st' := [.ref 20, .int 6]) (h' := zH I (zPr 7)) 1 rfl ?_
  refine wp_blk (pc' := 10) (L' := [some (.ref 19), some (.int 6)]) (st' := [.int 8, .int 6]) (h' := zH I (zPr 7)) 1 rfl ?_
  refine wp_blk (pc' := 13) (L' := [some (.ref 19), some (.int 6)]) (st' := []) (h' := zH I (zPr 7)) 1 rfl ?_
  refine wp_blk (pc' := 14) (L' := [some (.ref 19), some (.int 6)]) (st' := [.ref 19]) (h' := zH I (zPr 7)) 1 rfl ?_
  refine wp_blk (pc' := 17) (L' := [some (.ref 19), some (.int 6)]) (st' := [.ref 20]) (h' := zH I (zPr 7)) 1 rfl ?_
  refine wp_blk (pc' := 18) (L' := [some (.ref 19), some (.int 6)]) (st' := [.int 6, .ref 20]) (h' := zH I (zPr 7)) 1 rfl ?_
  refine wp_blk (pc' := 19) (L' := [some (.ref 19), some (.int 6)]) (st' := [.ref 41]) (h' := zH I (zPr 7)) 1 rfl ?_
  refine wp_blk (pc' := 23) (L' := [some (.ref 19), some (.int 6)]) (st' := [.ref 41]) (h' := zH I (zPr 7)) 1 rfl ?_
  exact wp_end rfl rfl ⟨rfl, rfl⟩
set_option maxRecDepth 100000 in
theorem sp_at19_7_7 {X : Nat × (Nat → Int32)} (I : Nat → Nat → Int32) : Wf X 68 [some (.ref 19), some (.int 7)] (zH I (zPr 7)) (some (.ref 45)) (zH I (zPr 7)) := by
  unfold Wf
  refine wp_blk (pc' := 1) (L' := [some (.ref 19), some (.int 7)]) (st' := [.int 7]) (h' := zH I (zPr 7)) 1 rfl ?_
  refine wp_blk (pc' := 4) (L' := [some (.ref 19), some (.int 7)]) (st' := []) (h' := zH I (zPr 7)) 1 rfl ?_
  refine wp_blk (pc' := 5) (L' := [some (.ref 19), some (.int 7)]) (st' := [.int 7]) (h' := zH I (zPr 7)) 1 rfl ?_
  refine wp_blk (pc' := 6) (L' := [some (.ref 19), some (.int 7)]) (st' := [.ref 19, .int 7]) (h' := zH I (zPr 7)) 1 rfl ?_
  refine wp_blk (pc' := 9) (L' := [some (.ref 19), some (.int 7)]) (st' := [.ref 20, .int 7]) (h' := zH I (zPr 7)) 1 rfl ?_
  refine wp_blk (pc' := 10) (L' := [some (.ref 19), some (.int 7)]) (st' := [.int 8, .int 7]) (h' := zH I (zPr 7)) 1 rfl ?_
  refine wp_blk (pc' := 13) (L' := [some (.ref 19), some (.int 7)]) (st' := []) (h' := zH I (zPr 7)) 1 rfl ?_
  refine wp_blk (pc' := 14) (L' := [some (.ref 19), some (.int 7)]) (st' := [.ref 19]) (h' := zH I (zPr 7)) 1 rfl ?_
  refine wp_blk (pc' := 17) (L' := [some (.ref 19), some (.int 7)]) (st' := [.ref 20]) (h' := zH I (zPr 7)) 1 rfl ?_
  refine wp_blk (pc' := 18) (L' := [some (.ref 19), some (.int 7)]) (st' := [.int 7, .ref 20]) (h' := zH I (zPr 7)) 1 rfl ?_
  refine wp_blk (pc' := 19) (L' := [some (.ref 19), some (.int 7)]) (st' := [.ref 45]) (h' := zH I (zPr 7)) 1 rfl ?_
  refine wp_blk (pc' := 23) (L' := [some (.ref 19), some (.int 7)]) (st' := [.ref 45]) (h' := zH I (zPr 7)) 1 rfl ?_
  exact wp_end rfl rfl ⟨rfl, rfl⟩
set_option maxRecDepth 100000 in
theorem sp_at53_k_m {X : Nat × (Nat → Int32)} (I : Nat → Nat → Int32) (r : Nat) : Wf X 68 [some (.ref 53), some (.int (-1))] (zH I (zPr r)) (some .null) (zH I (zPr r)) := by
  unfold Wf
  refine wp_blk (pc' := 1) (L' := [some (.ref 53), some (.int (-1))]) (st' := [.int (-1)]) (h' := zH I (zPr r)) 1 rfl ?_
  refine wp_blk (pc' := 22) (L' := [some (.ref 53), some (.int (-1))]) (st' := []) (h' := zH I (zPr r)) 1 rfl ?_
  refine wp_blk (pc' := 23) (L' := [some (.ref 53), some (.int (-1))]) (st' := [.null]) (h' := zH I (zPr r)) 1 rfl ?_
  exact wp_end rfl rfl ⟨rfl, rfl⟩
set_option maxRecDepth 100000 in
theorem sp_at53_k_0 {X : Nat × (Nat → Int32)} (I : Nat → Nat → Int32) (r : Nat) : Wf X 68 [some (.ref 53), some (.int 0)] (zH I (zPr r)) (some (.ref 55)) (zH I (zPr r)) := by
  unfold Wf
  refine wp_blk (pc' := 1) (L' := [some (.ref 53), some (.int 0)]) (st' := [.int 0]) (h' := zH I (zPr r)) 1 rfl ?_
  refine wp_blk (pc' := 4) (L' := [some (.ref 53), some (.int 0)]) (st' := []) (h' := zH I (zPr r)) 1 rfl ?_
  refine wp_blk (pc' := 5) (L' := [some (.ref 53), some (.int 0)]) (st' := [.int 0]) (h' := zH I (zPr r)) 1 rfl ?_
  refine wp_blk (pc' := 6) (L' := [some (.ref 53), some (.int 0)]) (st' := [.ref 53, .int 0]) (h' := zH I (zPr r)) 1 rfl ?_
  refine wp_blk (pc' := 9) (L' := [some (.ref 53), some (.int 0)]) (st' := [.ref 54, .int 0]) (h' := zH I (zPr r)) 1 rfl ?_
  refine wp_blk (pc' := 10) (L' := [some (.ref 53), some (.int 0)]) (st' := [.int 2, .int 0]) (h' := zH I (zPr r)) 1 rfl ?_
  refine wp_blk (pc' := 13) (L' := [some (.ref 53), some (.int 0)]) (st' := []) (h' := zH I (zPr r)) 1 rfl ?_
  refine wp_blk (pc' := 14) (L' := [some (.ref 53), some (.int 0)]) (st' := [.ref 53]) (h' := zH I (zPr r)) 1 rfl ?_
  refine wp_blk (pc' := 17) (L' := [some (.ref 53), some (.int 0)]) (st' := [.ref 54]) (h' := zH I (zPr r)) 1 rfl ?_
  refine wp_blk (pc' := 18) (L' := [some (.ref 53), some (.int 0)]) (st' := [.int 0, .ref 54]) (h' := zH I (zPr r)) 1 rfl ?_
  refine wp_blk (pc' := 19) (L' := [some (.ref 53), some (.int 0)]) (st' := [.ref 55]) (h' := zH I (zPr r)) 1 rfl ?_
  refine wp_blk (pc' := 23) (L' := [some (.ref 53), some (.int 0)]) (st' := [.ref 55]) (h' := zH I (zPr r)) 1 rfl ?_
  exact wp_end rfl rfl ⟨rfl, rfl⟩
set_option maxRecDepth 100000 in
theorem sp_at53_k_1 {X : Nat × (Nat → Int32)} (I : Nat → Nat → Int32) (r : Nat) : Wf X 68 [some (.ref 53), some (.int 1)] (zH I (zPr r)) (some (.ref 59)) (zH I (zPr r)) := by
  unfold Wf
  refine wp_blk (pc' := 1) (L' := [some (.ref 53), some (.int 1)]) (st' := [.int 1]) (h' := zH I (zPr r)) 1 rfl ?_
  refine wp_blk (pc' := 4) (L' := [some (.ref 53), some (.int 1)]) (st' := []) (h' := zH I (zPr r)) 1 rfl ?_
  refine wp_blk (pc' := 5) (L' := [some (.ref 53), some (.int 1)]) (st' := [.int 1]) (h' := zH I (zPr r)) 1 rfl ?_
  refine wp_blk (pc' := 6) (L' := [some (.ref 53), some (.int 1)]) (st' := [.ref 53, .int 1]) (h' := zH I (zPr r)) 1 rfl ?_
  refine wp_blk (pc' := 9) (L' := [some (.ref 53), some (.int 1)]) (st' := [.ref 54, .int 1]) (h' := zH I (zPr r)) 1 rfl ?_
  refine wp_blk (pc' := 10) (L' := [some (.ref 53), some (.int 1)]) (st' := [.int 2, .int 1]) (h' := zH I (zPr r)) 1 rfl ?_
  refine wp_blk (pc' := 13) (L' := [some (.ref 53), some (.int 1)]) (st' := []) (h' := zH I (zPr r)) 1 rfl ?_
  refine wp_blk (pc' := 14) (L' := [some (.ref 53), some (.int 1)]) (st' := [.ref 53]) (h' := zH I (zPr r)) 1 rfl ?_
  refine wp_blk (pc' := 17) (L' := [some (.ref 53), some (.int 1)]) (st' := [.ref 54]) (h' := zH I (zPr r)) 1 rfl ?_
  refine wp_blk (pc' := 18) (L' := [some (.ref 53), some (.int 1)]) (st' := [.int 1, .ref 54]) (h' := zH I (zPr r)) 1 rfl ?_
  refine wp_blk (pc' := 19) (L' := [some (.ref 53), some (.int 1)]) (st' := [.ref 59]) (h' := zH I (zPr r)) 1 rfl ?_
  refine wp_blk (pc' := 23) (L' := [some (.ref 53), some (.int 1)]) (st' := [.ref 59]) (h' := zH I (zPr r)) 1 rfl ?_
  exact wp_end rfl rfl ⟨rfl, rfl⟩
set_option maxRecDepth 100000 in
theorem sp_drop_0 {X : Nat × (Nat → Int32)} (I : Nat → Nat → Int32) : Wf X 67 [some (.ref 19), none, none] (zH I (zPr 0)) none (zH (zui I 19 1 7) (zPr 1)) := by
  unfold Wf
  refine wp_blk (pc' := 1) (L' := [some (.ref 19), none, none]) (st' := [.ref 19]) (h' := zH I (zPr 0)) 1 rfl ?_
  refine wp_blk (pc' := 2) (L' := [some (.ref 19), none, none]) (st' := [.int 0, .ref 19]) (h' := zH I (zPr 0)) 1 rfl ?_
  refine wp_callf (d := 68) (as := [.ref 19, .int 0]) (rest := []) (Ld := [some (.ref 19), some (.int 0)]) (pc' := 5) (st' := [.ref 21]) (r := some (.ref 21)) (h1 := zH I (zPr 0)) rfl rfl rfl rfl rfl rfl rfl rfl rfl (sp_at19_0_0 (X := X) I) ?_
  refine wp_blk (pc' := 6) (L' := [some (.ref 19), some (.ref 21), none]) (st' := []) (h' := zH I (zPr 0)) 1 rfl ?_
  refine wp_blk (pc' := 7) (L' := [some (.ref 19), some (.ref 21), none]) (st' := [.int 1]) (h' := zH I (zPr 0)) 1 rfl ?_
  refine wp_blk (pc' := 8) (L' := [some (.ref 19), some (.ref 21), some (.int 1)]) (st' := []) (h' := zH I (zPr 0)) 1 rfl ?_
  refine wp_blk (pc' := 9) (L' := [some (.ref 19), some (.ref 21), some (.int 1)]) (st' := [.int 1]) (h' := zH I (zPr 0)) 1 rfl ?_
  refine wp_blk (pc' := 10) (L' := [some (.ref 19), some (.ref 21), some (.int 1)]) (st' := [.ref 19, .int 1]) (h' := zH I (zPr 0)) 1 rfl ?_
  refine wp_blk (pc' := 13) (L' := [some (.ref 19), some (.ref 21), some (.int 1)]) (st' := [.ref 20, .int 1]) (h' := zH I (zPr 0)) 1 rfl ?_
  refine wp_blk (pc' := 14) (L' := [some (.ref 19), some (.ref 21), some (.int 1)]) (st' := [.int 8, .int 1]) (h' := zH I (zPr 0)) 1 rfl ?_
  refine wp_blk (pc' := 17) (L' := [some (.ref 19), some (.ref 21), some (.int 1)]) (st' := []) (h' := zH I (zPr 0)) 1 rfl ?_
  refine wp_blk (pc' := 18) (L' := [some (.ref 19), some (.ref 21), some (.int 1)]) (st' := [.ref 19]) (h' := zH I (zPr 0)) 1 rfl ?_
  refine wp_blk (pc' := 21) (L' := [some (.ref 19), some (.ref 21), some (.int 1)]) (st' := [.ref 20]) (h' := zH I (zPr 0)) 1 rfl ?_
  refine wp_blk (pc' := 22) (L' := [some (.ref 19), some (.ref 21), some (.int 1)]) (st' := [.int 1, .ref 20]) (h' := zH I (zPr 0)) 1 rfl ?_
  refine wp_blk (pc' := 23) (L' := [some (.ref 19), some (.ref 21), some (.int 1)]) (st' := [.int 1, .int 1, .ref 20]) (h' := zH I (zPr 0)) 1 rfl ?_
  refine wp_blk (pc' := 24) (L' := [some (.ref 19), some (.ref 21), some (.int 1)]) (st' := [.int 0, .ref 20]) (h' := zH I (zPr 0)) 1 rfl ?_
  refine wp_blk (pc' := 25) (L' := [some (.ref 19), some (.ref 21), some (.int 1)]) (st' := [.ref 19, .int 0, .ref 20]) (h' := zH I (zPr 0)) 1 rfl ?_
  refine wp_blk (pc' := 28) (L' := [some (.ref 19), some (.ref 21), some (.int 1)]) (st' := [.ref 20, .int 0, .ref 20]) (h' := zH I (zPr 0)) 1 rfl ?_
  refine wp_blk (pc' := 29) (L' := [some (.ref 19), some (.ref 21), some (.int 1)]) (st' := [.int 1, .ref 20, .int 0, .ref 20]) (h' := zH I (zPr 0)) 1 rfl ?_
  refine wp_blk (pc' := 30) (L' := [some (.ref 19), some (.ref 21), some (.int 1)]) (st' := [.ref 25, .int 0, .ref 20]) (h' := zH I (zPr 0)) 1 rfl ?_
  refine wp_blk (pc' := 31) (L' := [some (.ref 19), some (.ref 21), some (.int 1)]) (st' := []) (h' := ((76, 1769), zS, I, (zup (zPP (zPr 0)) 20 0 (some 25)))) 1 rfl ?_
  refine wp_blk (pc' := 34) (L' := [some (.ref 19), some (.ref 21), some (.int 2)]) (st' := []) (h' := ((76, 1769), zS, I, (zup (zPP (zPr 0)) 20 0 (some 25)))) 1 rfl ?_
  refine wp_blk (pc' := 8) (L' := [some (.ref 19), some (.ref 21), some (.int 2)]) (st' := []) (h' := ((76, 1769), zS, I, (zup (zPP (zPr 0)) 20 0 (some 25)))) 1 rfl ?_
  refine wp_blk (pc' := 9) (L' := [some (.ref 19), some (.ref 21), some (.int 2)]) (st' := [.int 2]) (h' := ((76, 1769), zS, I, (zup (zPP (zPr 0)) 20 0 (some 25)))) 1 rfl ?_
  refine wp_blk (pc' := 10) (L' := [some (.ref 19), some (.ref 21), some (.int 2)]) (st' := [.ref 19, .int 2]) (h' := ((76, 1769), zS, I, (zup (zPP (zPr 0)) 20 0 (some 25)))) 1 rfl ?_
  refine wp_blk (pc' := 13) (L' := [some (.ref 19), some (.ref 21), some (.int 2)]) (st' := [.ref 20, .int 2]) (h' := ((76, 1769), zS, I, (zup (zPP (zPr 0)) 20 0 (some 25)))) 1 rfl ?_
  refine wp_blk (pc' := 14) (L' := [some (.ref 19), some (.ref 21), some (.int 2)]) (st' := [.int 8, .int 2]) (h' := ((76, 1769), zS, I, (zup (zPP (zPr 0)) 20 0 (some 25)))) 1 rfl ?_
  refine wp_blk (pc' := 17) (L' := [some (.ref 19), some (.ref 21), some (.int 2)]) (st' := []) (h' := ((76, 1769), zS, I, (zup (zPP (zPr 0)) 20 0 (some 25)))) 1 rfl ?_
  refine wp_blk (pc' := 18) (L' := [some (.ref 19), some (.ref 21), some (.int 2)]) (st' := [.ref 19]) (h' := ((76, 1769), zS, I, (zup (zPP (zPr 0)) 20 0 (some 25)))) 1 rfl ?_
  refine wp_blk (pc' := 21) (L' := [some (.ref 19), some (.ref 21), some (.int 2)]) (st' := [.ref 20]) (h' := ((76, 1769), zS, I, (zup (zPP (zPr 0)) 20 0 (some 25)))) 1 rfl ?_
  refine wp_blk (pc' := 22) (L' := [some (.ref 19), some (.ref 21), some (.int 2)]) (st' := [.int 2, .ref 20]) (h' := ((76, 1769), zS, I, (zup (zPP (zPr 0)) 20 0 (some 25)))) 1 rfl ?_
  refine wp_blk (pc' := 23) (L' := [some (.ref 19), some (.ref 21), some (.int 2)]) (st' := [.int 1, .int 2, .ref 20]) (h' := ((76, 1769), zS, I, (zup (zPP (zPr 0)) 20 0 (some 25)))) 1 rfl ?_
  refine wp_blk (pc' := 24) (L' := [some (.ref 19), some (.ref 21), some (.int 2)]) (st' := [.int 1, .ref 20]) (h' := ((76, 1769), zS, I, (zup (zPP (zPr 0)) 20 0 (some 25)))) 1 rfl ?_
  refine wp_blk (pc' := 25) (L' := [some (.ref 19), some (.ref 21), some (.int 2)]) (st' := [.ref 19, .int 1, .ref 20]) (h' := ((76, 1769), zS, I, (zup (zPP (zPr 0)) 20 0 (some 25)))) 1 rfl ?_
  refine wp_blk (pc' := 28) (L' := [some (.ref 19), some (.ref 21), some (.int 2)]) (st' := [.ref 20, .int 1, .ref 20]) (h' := ((76, 1769), zS, I, (zup (zPP (zPr 0)) 20 0 (some 25)))) 1 rfl ?_
  refine wp_blk (pc' := 29) (L' := [some (.ref 19), some (.ref 21), some (.int 2)]) (st' := [.int 2, .ref 20, .int 1, .ref 20]) (h' := ((76, 1769), zS, I, (zup (zPP (zPr 0)) 20 0 (some 25)))) 1 rfl ?_
  refine wp_blk (pc' := 30) (L' := [some (.ref 19), some (.ref 21), some (.int 2)]) (st' := [.ref 29, .int 1, .ref 20]) (h' := ((76, 1769), zS, I, (zup (zPP (zPr 0)) 20 0 (some 25)))) 1 rfl ?_
  refine wp_blk (pc' := 31) (L' := [some (.ref 19), some (.ref 21), some (.int 2)]) (st' := []) (h' := ((76, 1769), zS, I, (zup (zup (zPP (zPr 0)) 20 0 (some 25)) 20 1 (some 29)))) 1 rfl ?_
  refine wp_blk (pc' := 34) (L' := [some (.ref 19), some (.ref 21), some (.int 3)]) (st' := []) (h' := ((76, 1769), zS, I, (zup (zup (zPP (zPr 0)) 20 0 (some 25)) 20 1 (some 29)))) 1 rfl ?_
  refine wp_blk (pc' := 8) (L' := [some (.ref 19), some (.ref 21), some (.int 3)]) (st' := []) (h' := ((76, 1769), zS, I, (zup (zup (zPP (zPr 0)) 20 0 (some 25)) 20 1 (some 29)))) 1 rfl ?_
  refine wp_blk (pc' := 9) (L' := [some (.ref 19), some (.ref 21), some (.int 3)]) (st' := [.int 3]) (h' := ((76, 1769), zS, I, (zup (zup (zPP (zPr 0)) 20 0 (some 25)) 20 1 (some 29)))) 1 rfl ?_
  refine wp_blk (pc' := 10) (L' := [some (.ref 19), some (.ref 21), some (.int 3)]) (st' := [.ref 19, .int 3]) (h' := ((76, 1769), zS, I, (zup (zup (zPP (zPr 0)) 20 0 (some 25)) 20 1 (some 29)))) 1 rfl ?_
  refine wp_blk (pc' := 13) (L' := [some (.ref 19), some (.ref 21), some (.int 3)]) (st' := [.ref 20, .int 3]) (h' := ((76, 1769), zS, I, (zup (zup (zPP (zPr 0)) 20 0 (some 25)) 20 1 (some 29)))) 1 rfl ?_
  refine wp_blk (pc' := 14) (L' := [some (.ref 19), some (.ref 21), some (.int 3)]) (st' := [.int 8, .int 3]) (h' := ((76, 1769), zS, I, (zup (zup (zPP (zPr 0)) 20 0 (some 25)) 20 1 (some 29)))) 1 rfl ?_
  refine wp_blk (pc' := 17) (L' := [some (.ref 19), some (.ref 21), some (.int 3)]) (st' := []) (h' := ((76, 1769), zS, I, (zup (zup (zPP (zPr 0)) 20 0 (some 25)) 20 1 (some 29)))) 1 rfl ?_
  refine wp_blk (pc' := 18) (L' := [some (.ref 19), some (.ref 21), some (.int 3)]) (st' := [.ref 19]) (h' := ((76, 1769), zS, I, (zup (zup (zPP (zPr 0)) 20 0 (some 25)) 20 1 (some 29)))) 1 rfl ?_
  refine wp_blk (pc' := 21) (L' := [some (.ref 19), some (.ref 21), some (.int 3)]) (st' := [.ref 20]) (h' := ((76, 1769), zS, I, (zup (zup (zPP (zPr 0)) 20 0 (some 25)) 20 1 (some 29)))) 1 rfl ?_
  refine wp_blk (pc' := 22) (L' := [some (.ref 19), some (.ref 21), some (.int 3)]) (st' := [.int 3, .ref 20]) (h' := ((76, 1769), zS, I, (zup (zup (zPP (zPr 0)) 20 0 (some 25)) 20 1 (some 29)))) 1 rfl ?_
  refine wp_blk (pc' := 23) (L' := [some (.ref 19), some (.ref 21), some (.int 3)]) (st' := [.int 1, .int 3, .ref 20]) (h' := ((76, 1769), zS, I, (zup (zup (zPP (zPr 0)) 20 0 (some 25)) 20 1 (some 29)))) 1 rfl ?_
  refine wp_blk (pc' := 24) (L' := [some (.ref 19), some (.ref 21), some (.int 3)]) (st' := [.int 2, .ref 20]) (h' := ((76, 1769), zS, I, (zup (zup (zPP (zPr 0)) 20 0 (some 25)) 20 1 (some 29)))) 1 rfl ?_
  refine wp_blk (pc' := 25) (L' := [some (.ref 19), some (.ref 21), some (.int 3)]) (st' := [.ref 19, .int 2, .ref 20]) (h' := ((76, 1769), zS, I, (zup (zup (zPP (zPr 0)) 20 0 (some 25)) 20 1 (some 29)))) 1 rfl ?_
  refine wp_blk (pc' := 28) (L' := [some (.ref 19), some (.ref 21), some (.int 3)]) (st' := [.ref 20, .int 2, .ref 20]) (h' := ((76, 1769), zS, I, (zup (zup (zPP (zPr 0)) 20 0 (some 25)) 20 1 (some 29)))) 1 rfl ?_
  refine wp_blk (pc' := 29) (L' := [some (.ref 19), some (.ref 21), some (.int 3)]) (st' := [.int 3, .ref 20, .int 2, .ref 20]) (h' := ((76, 1769), zS, I, (zup (zup (zPP (zPr 0)) 20 0 (some 25)) 20 1 (some 29)))) 1 rfl ?_
  refine wp_blk (pc' := 30) (L' := [some (.ref 19), some (.ref 21), some (.int 3)]) (st' := [.ref 33, .int 2, .ref 20]) (h' := ((76, 1769), zS, I, (zup (zup (zPP (zPr 0)) 20 0 (some 25)) 20 1 (some 29)))) 1 rfl ?_
  refine wp_blk (pc' := 31) (L' := [some (.ref 19), some (.ref 21), some (.int 3)]) (st' := []) (h' := ((76, 1769), zS, I, (zup (zup (zup (zPP (zPr 0)) 20 0 (some 25)) 20 1 (some 29)) 20 2 (some 33)))) 1 rfl ?_
  refine wp_blk (pc' := 34) (L' := [some (.ref 19), some (.ref 21), some (.int 4)]) (st' := []) (h' := ((76, 1769), zS, I, (zup (zup (zup (zPP (zPr 0)) 20 0 (some 25)) 20 1 (some 29)) 20 2 (some 33)))) 1 rfl ?_
  refine wp_blk (pc' := 8) (L' := [some (.ref 19), some (.ref 21), some (.int 4)]) (st' := []) (h' := ((76, 1769), zS, I, (zup (zup (zup (zPP (zPr 0)) 20 0 (some 25)) 20 1 (some 29)) 20 2 (some 33)))) 1 rfl ?_
  refine wp_blk (pc' := 9) (L' := [some (.ref 19), some (.ref 21), some (.int 4)]) (st' := [.int 4]) (h' := ((76, 1769), zS, I, (zup (zup (zup (zPP (zPr 0)) 20 0 (some 25)) 20 1 (some 29)) 20 2 (some 33)))) 1 rfl ?_
  refine wp_blk (pc' := 10) (L' := [some (.ref 19), some (.ref 21), some (.int 4)]) (st' := [.ref 19, .int 4]) (h' := ((76, 1769), zS, I, (zup (zup (zup (zPP (zPr 0)) 20 0 (some 25)) 20 1 (some 29)) 20 2 (some 33)))) 1 rfl ?_
  refine wp_blk (pc' := 13) (L' := [some (.ref 19), some (.ref 21), some (.int 4)]) (st' := [.ref 20, .int 4]) (h' := ((76, 1769), zS, I, (zup (zup (zup (zPP (zPr 0)) 20 0 (some 25)) 20 1 (some 29)) 20 2 (some 33)))) 1 rfl ?_
  refine wp_blk (pc' := 14) (L' := [some (.ref 19), some (.ref 21), some (.int 4)]) (st' := [.int 8, .int 4]) (h' := ((76, 1769), zS, I, (zup (zup (zup (zPP (zPr 0)) 20 0 (some 25)) 20 1 (some 29)) 20 2 (some 33)))) 1 rfl ?_
  refine wp_blk (pc' := 17) (L' := [some (.ref 19), some (.ref 21), some (.int 4)]) (st' := []) (h' := ((76, 1769), zS, I, (zup (zup (zup (zPP (zPr 0)) 20 0 (some 25)) 20 1 (some 29)) 20 2 (some 33)))) 1 rfl ?_
  refine wp_blk (pc' := 18) (L' := [some (.ref 19), some (.ref 21), some (.int 4)]) (st' := [.ref 19]) (h' := ((76, 1769), zS, I, (zup (zup (zup (zPP (zPr 0)) 20 0 (some 25)) 20 1 (some 29)) 20 2 (some 33)))) 1 rfl ?_
  refine wp_blk (pc' := 21) (L' := [some (.ref 19), some (.ref 21), some (.int 4)]) (st' := [.ref 20]) (h' := ((76, 1769), zS, I, (zup (zup (zup (zPP (zPr 0)) 20 0 (some 25)) 20 1 (some 29)) 20 2 (some 33)))) 1 rfl ?_
  refine wp_blk (pc' := 22) (L' := [some (.ref 19), some (.ref 21), some (.int 4)]) (st' := [.int 4, .ref 20]) (h' := ((76, 1769), zS, I, (zup (zup (zup (zPP (zPr 0)) 20 0 (some 25)) 20 1 (some 29)) 20 2 (some 33)))) 1 rfl ?_
  refine wp_blk (pc' := 23) (L' := [some (.ref 19), some (.ref 21), some (.int 4)]) (st' := [.int 1, .int 4, .ref 20]) (h' := ((76, 1769), zS, I, (zup (zup (zup (zPP (zPr 0)) 20 0 (some 25)) 20 1 (some 29)) 20 2 (some 33)))) 1 rfl ?_
  refine wp_blk (pc' := 24) (L' := [some (.ref 19), some (.ref 21), some (.int 4)]) (st' := [.int 3, .ref 20]) (h' := ((76, 1769), zS, I, (zup (zup (zup (zPP (zPr 0)) 20 0 (some 25)) 20 1 (some 29)) 20 2 (some 33)))) 1 rfl ?_
  refine wp_blk (pc' := 25) (L' := [some (.ref 19), some (.ref 21), some (.int 4)]) (st' := [.ref 19, .int 3, .ref 20]) (h' := ((76, 1769), zS, I, (zup (zup (zup (zPP (zPr 0)) 20 0 (some 25)) 20 1 (some 29)) 20 2 (some 33)))) 1 rfl ?_
  refine wp_blk (pc' := 28) (L' := [some (.ref 19), some (.ref 21), some (.int 4)]) (st' := [.ref 20, .int 3, .ref 20]) (h' := ((76, 1769), zS, I, (zup (zup (zup (zPP (zPr 0)) 20 0 (some 25)) 20 1 (some 29)) 20 2 (some 33)))) 1 rfl ?_
  refine wp_blk (pc' := 29) (L' := [some (.ref 19), some (.ref 21), some (.int 4)]) (st' := [.int 4, .ref 20, .int 3, .ref 20]) (h' := ((76, 1769), zS, I, (zup (zup (zup (zPP (zPr 0)) 20 0 (some 25)) 20 1 (some 29)) 20 2 (some 33)))) 1 rfl ?_
  refine wp_blk (pc' := 30) (L' := [some (.ref 19), some (.ref 21), some (.int 4)]) (st' := [.ref 37, .int 3, .ref 20]) (h' := ((76, 1769), zS, I, (zup (zup (zup (zPP (zPr 0)) 20 0 (some 25)) 20 1 (some 29)) 20 2 (some 33)))) 1 rfl ?_
  refine wp_blk (pc' := 31) (L' := [some (.ref 19), some (.ref 21), some (.int 4)]) (st' := []) (h' := ((76, 1769), zS, I, (zup (zup (zup (zup (zPP (zPr 0)) 20 0 (some 25)) 20 1 (some 29)) 20 2 (some 33)) 20 3 (some 37)))) 1 rfl ?_
  refine wp_blk (pc' := 34) (L' := [some (.ref 19), some (.ref 21), some (.int 5)]) (st' := []) (h' := ((76, 1769), zS, I, (zup (zup (zup (zup (zPP (zPr 0)) 20 0 (some 25)) 20 1 (some 29)) 20 2 (some 33)) 20 3 (some 37)))) 1 rfl ?_
  refine wp_blk (pc' := 8) (L' := [some (.ref 19), some (.ref 21), some (.int 5)]) (st' := []) (h' := ((76, 1769), zS, I, (zup (zup (zup (zup (zPP (zPr 0)) 20 0 (some 25)) 20 1 (some 29)) 20 2 (some 33)) 20 3 (some 37)))) 1 rfl ?_
  refine wp_blk (pc' := 9) (L' := [some (.ref 19), some (.ref 21), some (.int 5)]) (st' := [.int 5]) (h' := ((76, 1769), zS, I, (zup (zup (zup (zup (zPP (zPr 0)) 20 0 (some 25)) 20 1 (some 29)) 20 2 (some 33)) 20 3 (some 37)))) 1 rfl ?_
  refine wp_blk (pc' := 10) (L' := [some (.ref 19), some (.ref 21), some (.int 5)]) (st' := [.ref 19, .int 5]) (h' := ((76, 1769), zS, I, (zup (zup (zup (zup (zPP (zPr 0)) 20 0 (some 25)) 20 1 (some 29)) 20 2 (some 33)) 20 3 (some 37)))) 1 rfl ?_
  refine wp_blk (pc' := 13) (L' := [some (.ref 19), some (.ref 21), some (.int 5)]) (st' := [.ref 20, .int 5]) (h' := ((76, 1769), zS, I, (zup (zup (zup (zup (zPP (zPr 0)) 20 0 (some 25)) 20 1 (some 29)) 20 2 (some 33)) 20 3 (some 37)))) 1 rfl ?_
  refine wp_blk (pc' := 14) (L' := [some (.ref 19), some (.ref 21), some (.int 5)]) (st' := [.int 8, .int 5]) (h' := ((76, 1769), zS, I, (zup (zup (zup (zup (zPP (zPr 0)) 20 0 (some 25)) 20 1 (some 29)) 20 2 (some 33)) 20 3 (some 37)))) 1 rfl ?_
  refine wp_blk (pc' := 17) (L' := [some (.ref 19), some (.ref 21), some (.int 5)]) (st' := []) (h' := ((76, 1769), zS, I, (zup (zup (zup (zup (zPP (zPr 0)) 20 0 (some 25)) 20 1 (some 29)) 20 2 (some 33)) 20 3 (some 37)))) 1 rfl ?_
  refine wp_blk (pc' := 18) (L' := [some (.ref 19), some (.ref 21), some (.int 5)]) (st' := [.ref 19]) (h' := ((76, 1769), zS, I, (zup (zup (zup (zup (zPP (zPr 0)) 20 0 (some 25)) 20 1 (some 29)) 20 2 (some 33)) 20 3 (some 37)))) 1 rfl ?_
  refine wp_blk (pc' := 21) (L' := [some (.ref 19), some (.ref 21), some (.int 5)]) (st' := [.ref 20]) (h' := ((76, 1769), zS, I, (zup (zup (zup (zup (zPP (zPr 0)) 20 0 (some 25)) 20 1 (some 29)) 20 2 (some 33)) 20 3 (some 37)))) 1 rfl ?_
  refine wp_blk (pc' := 22) (L' := [some (.ref 19), some (.ref 21), some (.int 5)]) (st' := [.int 5, .ref 20]) (h' := ((76, 1769), zS, I, (zup (zup (zup (zup (zPP (zPr 0)) 20 0 (some 25)) 20 1 (some 29)) 20 2 (some 33)) 20 3 (some 37)))) 1 rfl ?_
  refine wp_blk (pc' := 23) (L' := [some (.ref 19), some (.ref 21), some (.int 5)]) (st' := [.int 1, .int 5, .ref 20]) (h' := ((76, 1769), zS, I, (zup (zup (zup (zup (zPP (zPr 0)) 20 0 (some 25)) 20 1 (some 29)) 20 2 (some 33)) 20 3 (some 37)))) 1 rfl ?_
  refine wp_blk (pc' := 24) (L' := [some (.ref 19), some (.ref 21), some (.int 5)]) (st' := [.int 4, .ref 20]) (h' := ((76, 1769), zS, I, (zup (zup (zup (zup (zPP (zPr 0)) 20 0 (some 25)) 20 1 (some 29)) 20 2 (some 33)) 20 3 (some 37)))) 1 rfl ?_
  refine wp_blk (pc' := 25) (L' := [some (.ref 19), some (.ref 21), some (.int 5)]) (st' := [.ref 19, .int 4, .ref 20]) (h' := ((76, 1769), zS, I, (zup (zup (zup (zup (zPP (zPr 0)) 20 0 (some 25)) 20 1 (some 29)) 20 2 (some 33)) 20 3 (some 37)))) 1 rfl ?_
  refine wp_blk (pc' := 28) (L' := [some (.ref 19), some (.ref 21), some (.int 5)]) (st' := [.ref 20, .int 4, .ref 20]) (h' := ((76, 1769), zS, I, (zup (zup (zup (zup (zPP (zPr 0)) 20 0 (some 25)) 20 1 (some 29)) 20 2 (some 33)) 20 3 (some 37)))) 1 rfl ?_
  refine wp_blk (pc' := 29) (L' := [some (.ref 19), some (.ref 21), some (.int 5)]) (st' := [.int 5, .ref 20, .int 4, .ref 20]) (h' := ((76, 1769), zS, I, (zup (zup (zup (zup (zPP (zPr 0)) 20 0 (some 25)) 20 1 (some 29)) 20 2 (some 33)) 20 3 (some 37)))) 1 rfl ?_
  refine wp_blk (pc' := 30) (L' := [some (.ref 19), some (.ref 21), some (.int 5)]) (st' := [.ref 41, .int 4, .ref 20]) (h' := ((76, 1769), zS, I, (zup (zup (zup (zup (zPP (zPr 0)) 20 0 (some 25)) 20 1 (some 29)) 20 2 (some 33)) 20 3 (some 37)))) 1 rfl ?_
  refine wp_blk (pc' := 31) (L' := [some (.ref 19), some (.ref 21), some (.int 5)]) (st' := []) (h' := ((76, 1769), zS, I, (zup (zup (zup (zup (zup (zPP (zPr 0)) 20 0 (some 25)) 20 1 (some 29)) 20 2 (some 33)) 20 3 (some 37)) 20 4 (some 41)))) 1 rfl ?_
  refine wp_blk (pc' := 34) (L' := [some (.ref 19), some (.ref 21), some (.int 6)]) (st' := []) (h' := ((76, 1769), zS, I, (zup (zup (zup (zup (zup (zPP (zPr 0)) 20 0 (some 25)) 20 1 (some 29)) 20 2 (some 33)) 20 3 (some 37)) 20 4 (some 41)))) 1 rfl ?_
  refine wp_blk (pc' := 8) (L' := [some (.ref 19), some (.ref 21), some (.int 6)]) (st' := []) (h' := ((76, 1769), zS, I, (zup (zup (zup (zup (zup (zPP (zPr 0)) 20 0 (some 25)) 20 1 (some 29)) 20 2 (some 33)) 20 3 (some 37)) 20 4 (some 41)))) 1 rfl ?_
  refine wp_blk (pc' := 9) (L' := [some (.ref 19), some (.ref 21), some (.int 6)]) (st' := [.int 6]) (h' := ((76, 1769), zS, I, (zup (zup (zup (zup (zup (zPP (zPr 0)) 20 0 (some 25)) 20 1 (some 29)) 20 2 (some 33)) 20 3 (some 37)) 20 4 (some 41)))) 1 rfl ?_
  refine wp_blk (pc' := 10) (L' := [some (.ref 19), some (.ref 21), some (.int 6)]) (st' := [.ref 19, .int 6]) (h' := ((76, 1769), zS, I, (zup (zup (zup (zup (zup (zPP (zPr 0)) 20 0 (some 25)) 20 1 (some 29)) 20 2 (some 33)) 20 3 (some 37)) 20 4 (some 41)))) 1 rfl ?_
  refine wp_blk (pc' := 13) (L' := [some (.ref 19), some (.ref 21), some (.int 6)]) (st' := [.ref 20, .int 6]) (h' := ((76, 1769), zS, I, (zup (zup (zup (zup (zup (zPP (zPr 0)) 20 0 (some 25)) 20 1 (some 29)) 20 2 (some 33)) 20 3 (some 37)) 20 4 (some 41)))) 1 rfl ?_
  refine wp_blk (pc' := 14) (L' := [some (.ref 19), some (.ref 21), some (.int 6)]) (st' := [.int 8, .int 6]) (h' := ((76, 1769), zS, I, (zup (zup (zup (zup (zup (zPP (zPr 0)) 20 0 (some 25)) 20 1 (some 29)) 20 2 (some 33)) 20 3 (some 37)) 20 4 (some 41)))) 1 rfl ?_
  refine wp_blk (pc' := 17) (L' := [some (.ref 19), some (.ref 21), some (.int 6)]) (st' := []) (h' := ((76, 1769), zS, I, (zup (zup (zup (zup (zup (zPP (zPr 0)) 20 0 (some 25)) 20 1 (some 29)) 20 2 (some 33)) 20 3 (some 37)) 20 4 (some 41)))) 1 rfl ?_
  refine wp_blk (pc' := 18) (L' := [some (.ref 19), some (.ref 21), some (.int 6)]) (st' := [.ref 19]) (h' := ((76, 1769), zS, I, (zup (zup (zup (zup (zup (zPP (zPr 0)) 20 0 (some 25)) 20 1 (some 29)) 20 2 (some 33)) 20 3 (some 37)) 20 4 (some 41)))) 1 rfl ?_
  refine wp_blk (pc' := 21) (L' := [some (.ref 19), some (.ref 21), some (.int 6)]) (st' := [.ref 20]) (h' := ((76, 1769), zS, I, (zup (zup (zup (zup (zup (zPP (zPr 0)) 20 0 (some 25)) 20 1 (some 29)) 20 2 (some 33)) 20 3 (some 37)) 20 4 (some 41)))) 1 rfl ?_
  refine wp_blk (pc' := 22) (L' := [some (.ref 19), some (.ref 21), some (.int 6)]) (st' := [.int 6, .ref 20]) (h' := ((76, 1769), zS, I, (zup (zup (zup (zup (zup (zPP (zPr 0)) 20 0 (some 25)) 20 1 (some 29)) 20 2 (some 33)) 20 3 (some 37)) 20 4 (some 41)))) 1 rfl ?_
  refine wp_blk (pc' := 23) (L' := [some (.ref 19), some (.ref 21), some (.int 6)]) (st' := [.int 1, .int 6, .ref 20]) (h' := ((76, 1769), zS, I, (zup (zup (zup (zup (zup (zPP (zPr 0)) 20 0 (some 25)) 20 1 (some 29)) 20 2 (some 33)) 20 3 (some 37)) 20 4 (some 41)))) 1 rfl ?_
  refine wp_blk (pc' := 24) (L' := [some (.ref 19), some (.ref 21), some (.int 6)]) (st' := [.int 5, .ref 20]) (h' := ((76, 1769), zS, I, (zup (zup (zup (zup (zup (zPP (zPr 0)) 20 0 (some 25)) 20 1 (some 29)) 20 2 (some 33)) 20 3 (some 37)) 20 4 (some 41)))) 1 rfl ?_
  refine wp_blk (pc' := 25) (L' := [some (.ref 19), some (.ref 21), some (.int 6)]) (st' := [.ref 19, .int 5, .ref 20]) (h' := ((76, 1769), zS, I, (zup (zup (zup (zup (zup (zPP (zPr 0)) 20 0 (some 25)) 20 1 (some 29)) 20 2 (some 33)) 20 3 (some 37)) 20 4 (some 41)))) 1 rfl ?_
  refine wp_blk (pc' := 28) (L' := [some (.ref 19), some (.ref 21), some (.int 6)]) (st' := [.ref 20, .int 5, .ref 20]) (h' := ((76, 1769), zS, I, (zup (zup (zup (zup (zup (zPP (zPr 0)) 20 0 (some 25)) 20 1 (some 29)) 20 2 (some 33)) 20 3 (some 37)) 20 4 (some 41)))) 1 rfl ?_
  refine wp_blk (pc' := 29) (L' := [some (.ref 19), some (.ref 21), some (.int 6)]) (st' := [.int 6, .ref 20, .int 5, .ref 20]) (h' := ((76, 1769), zS, I, (zup (zup (zup (zup (zup (zPP (zPr 0)) 20 0 (some 25)) 20 1 (some 29)) 20 2 (some 33)) 20 3 (some 37)) 20 4 (some 41)))) 1 rfl ?_
  refine wp_blk (pc' := 30) (L' := [some (.ref 19), some (.ref 21), some (.int 6)]) (st' := [.ref 45, .int 5, .ref 20]) (h' := ((76, 1769), zS, I, (zup (zup (zup (zup (zup (zPP (zPr 0)) 20 0 (some 25)) 20 1 (some 29)) 20 2 (some 33)) 20 3 (some 37)) 20 4 (some 41)))) 1 rfl ?_
  refine wp_blk (pc' := 31) (L' := [some (.ref 19), some (.ref 21), some (.int 6)]) (st' := []) (h' := ((76, 1769), zS, I, (zup (zup (zup (zup (zup (zup (zPP (zPr 0)) 20 0 (some 25)) 20 1 (some 29)) 20 2 (some 33)) 20 3 (some 37)) 20 4 (some 41)) 20 5 (some 45)))) 1 rfl ?_
  refine wp_blk (pc' := 34) (L' := [some (.ref 19), some (.ref 21), some (.int 7)]) (st' := []) (h' := ((76, 1769), zS, I, (zup (zup (zup (zup (zup (zup (zPP (zPr 0)) 20 0 (some 25)) 20 1 (some 29)) 20 2 (some 33)) 20 3 (some 37)) 20 4 (some 41)) 20 5 (some 45)))) 1 rfl ?_
  refine wp_blk (pc' := 8) (L' := [some (.ref 19), some (.ref 21), some (.int 7)]) (st' := []) (h' := ((76, 1769), zS, I, (zup (zup (zup (zup (zup (zup (zPP (zPr 0)) 20 0 (some 25)) 20 1 (some 29)) 20 2 (some 33)) 20 3 (some 37)) 20 4 (some 41)) 20 5 (some 45)))) 1 rfl ?_
  refine wp_blk (pc' := 9) (L' := [some (.ref 19), some (.ref 21), some (.int 7)]) (st' := [.int 7]) (h' := ((76, 1769), zS, I, (zup (zup (zup (zup (zup (zup (zPP (zPr 0)) 20 0 (some 25)) 20 1 (some 29)) 20 2 (some 33)) 20 3 (some 37)) 20 4 (some 41)) 20 5 (some 45)))) 1 rfl ?_
  refine wp_blk (pc' := 10) (L' := [some (.ref 19), some (.ref 21), some (.int 7)]) (st' := [.ref 19, .int 7]) (h' := ((76, 1769), zS, I, (zup (zup (zup (zup (zup (zup (zPP (zPr 0)) 20 0 (some 25)) 20 1 (some 29)) 20 2 (some 33)) 20 3 (some 37)) 20 4 (some 41)) 20 5 (some 45)))) 1 rfl ?_
  refine wp_blk (pc' := 13) (L' := [some (.ref 19), some (.ref 21), some (.int 7)]) (st' := [.ref 20, .int 7]) (h' := ((76, 1769), zS, I, (zup (zup (zup (zup (zup (zup (zPP (zPr 0)) 20 0 (some 25)) 20 1 (some 29)) 20 2 (some 33)) 20 3 (some 37)) 20 4 (some 41)) 20 5 (some 45)))) 1 rfl ?_
  refine wp_blk (pc' := 14) (L' := [some (.ref 19), some (.ref 21), some (.int 7)]) (st' := [.int 8, .int 7]) (h' := ((76, 1769), zS, I, (zup (zup (zup (zup (zup (zup (zPP (zPr 0)) 20 0 (some 25)) 20 1 (some 29)) 20 2 (some 33)) 20 3 (some 37)) 20 4 (some 41)) 20 5 (some 45)))) 1 rfl ?_
  refine wp_blk (pc' := 17) (L' := [some (.ref 19), some (.ref 21), some (.int 7)]) (st' := []) (h' := ((76, 1769), zS, I, (zup (zup (zup (zup (zup (zup (zPP (zPr 0)) 20 0 (some 25)) 20 1 (some 29)) 20 2 (some 33)) 20 3 (some 37)) 20 4 (some 41)) 20 5 (some 45)))) 1 rfl ?_
  refine wp_blk (pc' := 18) (L' := [some (.ref 19), some (.ref 21), some (.int 7)]) (st' := [.ref 19]) (h' := ((76, 1769), zS, I, (zup (zup (zup (zup (zup (zup (zPP (zPr 0)) 20 0 (some 25)) 20 1 (some 29)) 20 2 (some 33)) 20 3 (some 37)) 20 4 (some 41)) 20 5 (some 45)))) 1 rfl ?_
  refine wp_blk (pc' := 21) (L' := [some (.ref 19), some (.ref 21), some (.int 7)]) (st' := [.ref 20]) (h' := ((76, 1769), zS, I, (zup (zup (zup (zup (zup (zup (zPP (zPr 0)) 20 0 (some 25)) 20 1 (some 29)) 20 2 (some 33)) 20 3 (some 37)) 20 4 (some 41)) 20 5 (some 45)))) 1 rfl ?_
  refine wp_blk (pc' := 22) (L' := [some (.ref 19), some (.ref 21), some (.int 7)]) (st' := [.int 7, .ref 20]) (h' := ((76, 1769), zS, I, (zup (zup (zup (zup (zup (zup (zPP (zPr 0)) 20 0 (some 25)) 20 1 (some 29)) 20 2 (some 33)) 20 3 (some 37)) 20 4 (some 41)) 20 5 (some 45)))) 1 rfl ?_
  refine wp_blk (pc' := 23) (L' := [some (.ref 19), some (.ref 21), some (.int 7)]) (st' := [.int 1, .int 7, .ref 20]) (h' := ((76, 1769), zS, I, (zup (zup (zup (zup (zup (zup (zPP (zPr 0)) 20 0 (some 25)) 20 1 (some 29)) 20 2 (some 33)) 20 3 (some 37)) 20 4 (some 41)) 20 5 (some 45)))) 1 rfl ?_
  refine wp_blk (pc' := 24) (L' := [some (.ref 19), some (.ref 21), some (.int 7)]) (st' := [.int 6, .ref 20]) (h' := ((76, 1769), zS, I, (zup (zup (zup (zup (zup (zup (zPP (zPr 0)) 20 0 (some 25)) 20 1 (some 29)) 20 2 (some 33)) 20 3 (some 37)) 20 4 (some 41)) 20 5 (some 45)))) 1 rfl ?_
  refine wp_blk (pc' := 25) (L' := [some (.ref 19), some (.ref 21), some (.int 7)]) (st' := [.ref 19, .int 6, .ref 20]) (h' := ((76, 1769), zS, I, (zup (zup (zup (zup (zup (zup (zPP (zPr 0)) 20 0 (some 25)) 20 1 (some 29)) 20 2 (some 33)) 20 3 (some 37)) 20 4 (some 41)) 20 5 (some 45)))) 1 rfl ?_
  refine wp_blk (pc' := 28) (L' := [some (.ref 19), some (.ref 21), some (.int 7)]) (st' := [.ref 20, .int 6, .ref 20]) (h' := ((76, 1769), zS, I, (zup (zup (zup (zup (zup (zup (zPP (zPr 0)) 20 0 (some 25)) 20 1 (some 29)) 20 2 (some 33)) 20 3 (some 37)) 20 4 (some 41)) 20 5 (some 45)))) 1 rfl ?_
  refine wp_blk (pc' := 29) (L' := [some (.ref 19), some (.ref 21), some (.int 7)]) (st' := [.int 7, .ref 20, .int 6, .ref 20]) (h' := ((76, 1769), zS, I, (zup (zup (zup (zup (zup (zup (zPP (zPr 0)) 20 0 (some 25)) 20 1 (some 29)) 20 2 (some 33)) 20 3 (some 37)) 20 4 (some 41)) 20 5 (some 45)))) 1 rfl ?_
  refine wp_blk (pc' := 30) (L' := [some (.ref 19), some (.ref 21), some (.int 7)]) (st' := [.ref 49, .int 6, .ref 20]) (h' := ((76, 1769), zS, I, (zup (zup (zup (zup (zup (zup (zPP (zPr 0)) 20 0 (some 25)) 20 1 (some 29)) 20 2 (some 33)) 20 3 (some 37)) 20 4 (some 41)) 20 5 (some 45)))) 1 rfl ?_
  refine wp_blk (pc' := 31) (L' := [some (.ref 19), some (.ref 21), some (.int 7)]) (st' := []) (h' := ((76, 1769), zS, I, (zup (zup (zup (zup (zup (zup (zup (zPP (zPr 0)) 20 0 (some 25)) 20 1 (some 29)) 20 2 (some 33)) 20 3 (some 37)) 20 4 (some 41)) 20 5 (some 45)) 20 6 (some 49)))) 1 rfl ?_
  refine wp_blk (pc' := 34) (L' := [some (.ref 19), some (.ref 21), some (.int 8)]) (st' := []) (h' := ((76, 1769), zS, I, (zup (zup (zup (zup (zup (zup (zup (zPP (zPr 0)) 20 0 (some 25)) 20 1 (some 29)) 20 2 (some 33)) 20 3 (some 37)) 20 4 (some 41)) 20 5 (some 45)) 20 6 (some 49)))) 1 rfl ?_
  refine wp_blk (pc' := 8) (L' := [some (.ref 19), some (.ref 21), some (.int 8)]) (st' := []) (h' := ((76, 1769), zS, I, (zup (zup (zup (zup (zup (zup (zup (zPP (zPr 0)) 20 0 (some 25)) 20 1 (some 29)) 20 2 (some 33)) 20 3 (some 37)) 20 4 (some 41)) 20 5 (some 45)) 20 6 (some 49)))) 1 rfl ?_
  refine wp_blk (pc' := 9) (L' := [some (.ref 19), some (.ref 21), some (.int 8)]) (st' := [.int 8]) (h' := ((76, 1769), zS, I, (zup (zup (zup (zup (zup (zup (zup (zPP (zPr 0)) 20 0 (some 25)) 20 1 (some 29)) 20 2 (some 33)) 20 3 (some 37)) 20 4 (some 41)) 20 5 (some 45)) 20 6 (some 49)))) 1 rfl ?_
  refine wp_blk (pc' := 10) (L' := [some (.ref 19), some (.ref 21), some (.int 8)]) (st' := [.ref 19, .int 8]) (h' := ((76, 1769), zS, I, (zup (zup (zup (zup (zup (zup (zup (zPP (zPr 0)) 20 0 (some 25)) 20 1 (some 29)) 20 2 (some 33)) 20 3 (some 37)) 20 4 (some 41)) 20 5 (some 45)) 20 6 (some 49)))) 1 rfl ?_
  refine wp_blk (pc' := 13) (L' := [some (.ref 19), some (.ref 21), some (.int 8)]) (st' := [.ref 20, .int 8]) (h' := ((76, 1769), zS, I, (zup (zup (zup (zup (zup (zup (zup (zPP (zPr 0)) 20 0 (some 25)) 20 1 (some 29)) 20 2 (some 33)) 20 3 (some 37)) 20 4 (some 41)) 20 5 (some 45)) 20 6 (some 49)))) 1 rfl ?_
  refine wp_blk (pc' := 14) (L' := [some (.ref 19), some (.ref 21), some (.int 8)]) (st' := [.int 8, .int 8]) (h' := ((76, 1769), zS, I, (zup (zup (zup (zup (zup (zup (zup (zPP (zPr 0)) 20 0 (some 25)) 20 1 (some 29)) 20 2 (some 33)) 20 3 (some 37)) 20 4 (some 41)) 20 5 (some 45)) 20 6 (some 49)))) 1 rfl ?_
  refine wp_blk (pc' := 37) (L' := [some (.ref 19), some (.ref 21), some (.int 8)]) (st' := []) (h' := ((76, 1769), zS, I, (zup (zup (zup (zup (zup (zup (zup (zPP (zPr 0)) 20 0 (some 25)) 20 1 (some 29)) 20 2 (some 33)) 20 3 (some 37)) 20 4 (some 41)) 20 5 (some 45)) 20 6 (some 49)))) 1 rfl ?_
  refine wp_blk (pc' := 38) (L' := [some (.ref 19), some (.ref 21), some (.int 8)]) (st' := [.ref 19]) (h' := ((76, 1769), zS, I, (zup (zup (zup (zup (zup (zup (zup (zPP (zPr 0)) 20 0 (some 25)) 20 1 (some 29)) 20 2 (some 33)) 20 3 (some 37)) 20 4 (some 41)) 20 5 (some 45)) 20 6 (some 49)))) 1 rfl ?_
  refine wp_blk (pc' := 39) (L' := [some (.ref 19), some (.ref 21), some (.int 8)]) (st' := [.ref 19, .ref 19]) (h' := ((76, 1769), zS, I, (zup (zup (zup (zup (zup (zup (zup (zPP (zPr 0)) 20 0 (some 25)) 20 1 (some 29)) 20 2 (some 33)) 20 3 (some 37)) 20 4 (some 41)) 20 5 (some 45)) 20 6 (some 49)))) 1 rfl ?_
  refine wp_blk (pc' := 42) (L' := [some (.ref 19), some (.ref 21), some (.int 8)]) (st' := [.ref 20, .ref 19]) (h' := ((76, 1769), zS, I, (zup (zup (zup (zup (zup (zup (zup (zPP (zPr 0)) 20 0 (some 25)) 20 1 (some 29)) 20 2 (some 33)) 20 3 (some 37)) 20 4 (some 41)) 20 5 (some 45)) 20 6 (some 49)))) 1 rfl ?_
  refine wp_blk (pc' := 43) (L' := [some (.ref 19), some (.ref 21), some (.int 8)]) (st' := [.int 8, .ref 19]) (h' := ((76, 1769), zS, I, (zup (zup (zup (zup (zup (zup (zup (zPP (zPr 0)) 20 0 (some 25)) 20 1 (some 29)) 20 2 (some 33)) 20 3 (some 37)) 20 4 (some 41)) 20 5 (some 45)) 20 6 (some 49)))) 1 rfl ?_
  refine wp_blk (pc' := 44) (L' := [some (.ref 19), some (.ref 21), some (.int 8)]) (st' := [.int 1, .int 8, .ref 19]) (h' := ((76, 1769), zS, I, (zup (zup (zup (zup (zup (zup (zup (zPP (zPr 0)) 20 0 (some 25)) 20 1 (some 29)) 20 2 (some 33)) 20 3 (some 37)) 20 4 (some 41)) 20 5 (some 45)) 20 6 (some 49)))) 1 rfl ?_
  refine wp_blk (pc' := 45) (L' := [some (.ref 19), some (.ref 21), some (.int 8)]) (st' := [.int 7, .ref 19]) (h' := ((76, 1769), zS, I, (zup (zup (zup (zup (zup (zup (zup (zPP (zPr 0)) 20 0 (some 25)) 20 1 (some 29)) 20 2 (some 33)) 20 3 (some 37)) 20 4 (some 41)) 20 5 (some 45)) 20 6 (some 49)))) 1 rfl ?_
  refine wp_blk (pc' := 48) (L' := [some (.ref 19), some (.ref 21), some (.int 8)]) (st' := []) (h' := ((76, 1769), zS, (zui I 19 1 7), (zup (zup (zup (zup (zup (zup (zup (zPP (zPr 0)) 20 0 (some 25)) 20 1 (some 29)) 20 2 (some 33)) 20 3 (some 37)) 20 4 (some 41)) 20 5 (some 45)) 20 6 (some 49)))) 1 rfl ?_
  refine wp_blk (pc' := 49) (L' := [some (.ref 19), some (.ref 21), some (.int 8)]) (st' := [.ref 19]) (h' := ((76, 1769), zS, (zui I 19 1 7), (zup (zup (zup (zup (zup (zup (zup (zPP (zPr 0)) 20 0 (some 25)) 20 1 (some 29)) 20 2 (some 33)) 20 3 (some 37)) 20 4 (some 41)) 20 5 (some 45)) 20 6 (some 49)))) 1 rfl ?_
  refine wp_blk (pc' := 52) (L' := [some (.ref 19), some (.ref 21), some (.int 8)]) (st' := [.int 7]) (h' := ((76, 1769), zS, (zui I 19 1 7), (zup (zup (zup (zup (zup (zup (zup (zPP (zPr 0)) 20 0 (some 25)) 20 1 (some 29)) 20 2 (some 33)) 20 3 (some 37)) 20 4 (some 41)) 20 5 (some 45)) 20 6 (some 49)))) 1 rfl ?_
  refine wp_blk (pc' := 55) (L' := [some (.ref 19), some (.ref 21), some (.int 8)]) (st' := []) (h' := ((76, 1769), zS, (zui I 19 1 7), (zup (zup (zup (zup (zup (zup (zup (zPP (zPr 0)) 20 0 (some 25)) 20 1 (some 29)) 20 2 (some 33)) 20 3 (some 37)) 20 4 (some 41)) 20 5 (some 45)) 20 6 (some 49)))) 1 rfl ?_
  refine wp_blk (pc' := 56) (L' := [some (.ref 19), some (.ref 21), some (.int 8)]) (st' := [.ref 19]) (h' := ((76, 1769), zS, (zui I 19 1 7), (zup (zup (zup (zup (zup (zup (zup (zPP (zPr 0)) 20 0 (some 25)) 20 1 (some 29)) 20 2 (some 33)) 20 3 (some 37)) 20 4 (some 41)) 20 5 (some 45)) 20 6 (some 49)))) 1 rfl ?_
  refine wp_blk (pc' := 59) (L' := [some (.ref 19), some (.ref 21), some (.int 8)]) (st' := [.ref 20]) (h' := ((76, 1769), zS, (zui I 19 1 7), (zup (zup (zup (zup (zup (zup (zup (zPP (zPr 0)) 20 0 (some 25)) 20 1 (some 29)) 20 2 (some 33)) 20 3 (some 37)) 20 4 (some 41)) 20 5 (some 45)) 20 6 (some 49)))) 1 rfl ?_
  refine wp_blk (pc' := 60) (L' := [some (.ref 19), some (.ref 21), some (.int 8)]) (st' := [.ref 19, .ref 20]) (h' := ((76, 1769), zS, (zui I 19 1 7), (zup (zup (zup (zup (zup (zup (zup (zPP (zPr 0)) 20 0 (some 25)) 20 1 (some 29)) 20 2 (some 33)) 20 3 (some 37)) 20 4 (some 41)) 20 5 (some 45)) 20 6 (some 49)))) 1 rfl ?_
  refine wp_blk (pc' := 63) (L' := [some (.ref 19), some (.ref 21), some (.int 8)]) (st' := [.int 7, .ref 20]) (h' := ((76, 1769), zS, (zui I 19 1 7), (zup (zup (zup (zup (zup (zup (zup (zPP (zPr 0)) 20 0 (some 25)) 20 1 (some 29)) 20 2 (some 33)) 20 3 (some 37)) 20 4 (some 41)) 20 5 (some 45)) 20 6 (some 49)))) 1 rfl ?_
  refine wp_blk (pc' := 64) (L' := [some (.ref 19), some (.ref 21), some (.int 8)]) (st' := [.ref 21, .int 7, .ref 20]) (h' := ((76, 1769), zS, (zui I 19 1 7), (zup (zup (zup (zup (zup (zup (zup (zPP (zPr 0)) 20 0 (some 25)) 20 1 (some 29)) 20 2 (some 33)) 20 3 (some 37)) 20 4 (some 41)) 20 5 (some 45)) 20 6 (some 49)))) 1 rfl ?_
  refine wp_blk (pc' := 65) (L' := [some (.ref 19), some (.ref 21), some (.int 8)]) (st' := []) (h' := ((76, 1769), zS, (zui I 19 1 7), (zup (zup (zup (zup (zup (zup (zup (zup (zPP (zPr 0)) 20 0 (some 25)) 20 1 (some 29)) 20 2 (some 33)) 20 3 (some 37)) 20 4 (some 41)) 20 5 (some 45)) 20 6 (some 49)) 20 7 (some 21)))) 1 rfl ?_
  exact wp_end rfl rfl ⟨rfl, by rw [zH, ← zrot_0]⟩
set_option maxRecDepth 100000 in
theorem sp_drop_1 {X : Nat × (Nat → Int32)} (I : Nat → Nat → Int32) : Wf X 67 [some (.ref 19), none, none] (zH I (zPr 1)) none (zH (zui I 19 1 7) (zPr 2)) := by
  unfold Wf
  refine wp_blk (pc' := 1) (L' := [some (.ref 19), none, none]) (st' := [.ref 19]) (h' := zH I (zPr 1)) 1 rfl ?_
  refine wp_blk (pc' := 2) (L' := [some (.ref 19), none, none]) (st' := [.int 0, .ref 19]) (h' := zH I (zPr 1)) 1 rfl ?_
  refine wp_callf (d := 68) (as := [.ref 19, .int 0]) (rest := []) (Ld := [some (.ref 19), some (.int 0)]) (pc' := 5) (st' := [.ref 25]) (r := some (.ref 25)) (h1 := zH I (zPr 1)) rfl rfl rfl rfl rfl rfl rfl rfl rfl (sp_at19_1_0 (X := X) I) ?_
  refine wp_blk (pc' := 6) (L' := [some (.ref 19), some (.ref 25), none]) (st' := []) (h' := zH I (zPr 1)) 1 rfl ?_
  refine wp_blk (pc' := 7) (L' := [some (.ref 19), some (.ref 25), none]) (st' := [.int 1]) (h' := zH I (zPr 1)) 1 rfl ?_
  refine wp_blk (pc' := 8) (L' := [some (.ref 19), some (.ref 25), some (.int 1)]) (st' := []) (h' := zH I (zPr 1)) 1 rfl ?_
  refine wp_blk (pc' := 9) (L' := [some (.ref 19), some (.ref 25), some (.int 1)]) (st' := [.int 1]) (h' := zH I (zPr 1)) 1 rfl ?_
  refine wp_blk (pc' := 10) (L' := [some (.ref 19), some (.ref 25), some (.int 1)]) (st' := [.ref 19, .int 1]) (h' := zH I (zPr 1)) 1 rfl ?_
  refine wp_blk (pc' := 13) (L' := [some (.ref 19), some (.ref 25), some (.int 1)]) (st' := [.ref 20, .int 1]) (h' := zH I (zPr 1)) 1 rfl ?_
  refine wp_blk (pc' := 14) (L' := [some (.ref 19), some (.ref 25), some (.int 1)]) (st' := [.int 8, .int 1]) (h' := zH I (zPr 1)) 1 rfl ?_
  refine wp_blk (pc' := 17) (L' := [some (.ref 19), some (.ref 25), some (.int 1)]) (st' := []) (h' := zH I (zPr 1)) 1 rfl ?_
  refine wp_blk (pc' := 18) (L' := [some (.ref 19), some (.ref 25), some (.int 1)]) (st' := [.ref 19]) (h' := zH I (zPr 1)) 1 rfl ?_
  refine wp_blk (pc' := 21) (L' := [some (.ref 19), some (.ref 25), some (.int 1)]) (st' := [.ref 20]) (h' := zH I (zPr 1)) 1 rfl ?_
  refine wp_blk (pc' := 22) (L' := [some (.ref 19), some (.ref 25), some (.int 1)]) (st' := [.int 1, .ref 20]) (h' := zH I (zPr 1)) 1 rfl ?_
  refine wp_blk (pc' := 23) (L' := [some (.ref 19), some (.ref 25), some (.int 1)]) (st' := [.int 1, .int 1, .ref 20]) (h' := zH I (zPr 1)) 1 rfl ?_
  refine wp_blk (pc' := 24) (L' := [some (.ref 19), some (.ref 25), some (.int 1)]) (st' := [.int 0, .ref 20]) (h' := zH I (zPr 1)) 1 rfl ?_
  refine wp_blk (pc' := 25) (L' := [some (.ref 19), some (.ref 25), some (.int 1)]) (st' := [.ref 19, .int 0, .ref 20]) (h' := zH I (zPr 1)) 1 rfl ?_
  refine wp_blk (pc' := 28) (L' := [some (.ref 19), some (.ref 25), some (.int 1)]) (st' := [.ref 20, .int 0, .ref 20]) (h' := zH I (zPr 1)) 1 rfl ?_
  refine wp_blk (pc' := 29) (L' := [some (.ref 19), some (.ref 25), some (.int 1)]) (st' := [.int 1, .ref 20, .int 0, .ref 20]) (h' := zH I (zPr 1)) 1 rfl ?_
  refine wp_blk (pc' := 30) (L' := [some (.ref 19), some (.ref 25), some (.int 1)]) (st' := [.ref 29, .int 0, .ref 20]) (h' := zH I (zPr 1)) 1 rfl ?_
  refine wp_blk (pc' := 31) (L' := [some (.ref 19), some (.ref 25), some (.int 1)]) (st' := []) (h' := ((76, 1769), zS, I, (zup (zPP (zPr 1)) 20 0 (some 29)))) 1 rfl ?_
  refine wp_blk (pc' := 34) (L' := [some (.ref 19), some (.ref 25), some (.int 2)]) (st' := []) (h' := ((76, 1769), zS, I, (zup (zPP (zPr 1)) 20 0 (some 29)))) 1 rfl ?_
  refine wp_blk (pc' := 8) (L' := [some (.ref 19), some (.ref 25), some (.int 2)]) (st' := []) (h' := ((76, 1769), zS, I, (zup (zPP (zPr 1)) 20 0 (some 29)))) 1 rfl ?_
  refine wp_blk (pc' := 9) (L' := [some (.ref 19), some (.ref 25), some (.int 2)]) (st' := [.int 2]) (h' := ((76, 1769), zS, I, (zup (zPP (zPr 1)) 20 0 (some 29)))) 1 rfl ?_
  refine wp_blk (pc' := 10) (L' := [some (.ref 19), some (.ref 25), some (.int 2)]) (st' := [.ref 19, .int 2]) (h' := ((76, 1769), zS, I, (zup (zPP (zPr 1)) 20 0 (some 29)))) 1 rfl ?_
  refine wp_blk (pc' := 13) (L' := [some (.ref 19), some (.ref 25), some (.int 2)]) (st' := [.ref 20, .int 2]) (h' := ((76, 1769), zS, I, (zup (zPP (zPr 1)) 20 0 (some 29)))) 1 rfl ?_
  refine wp_blk (pc' := 14) (L' := [some (.ref 19), some (.ref 25), some (.int 2)]) (st' := [.int 8, .int 2]) (h' := ((76, 1769), zS, I, (zup (zPP (zPr 1)) 20 0 (some 29)))) 1 rfl ?_
  refine wp_blk (pc' := 17) (L' := [some (.ref 19), some (.ref 25), some (.int 2)]) (st' := []) (h' := ((76, 1769), zS, I, (zup (zPP (zPr 1)) 20 0 (some 29)))) 1 rfl ?_
  refine wp_blk (pc' := 18) (L' := [some (.ref 19), some (.ref 25), some (.int 2)]) (st' := [.ref 19]) (h' := ((76, 1769), zS, I, (zup (zPP (zPr 1)) 20 0 (some 29)))) 1 rfl ?_
  refine wp_blk (pc' := 21) (L' := [some (.ref 19), some (.ref 25), some (.int 2)]) (st' := [.ref 20]) (h' := ((76, 1769), zS, I, (zup (zPP (zPr 1)) 20 0 (some 29)))) 1 rfl ?_
  refine wp_blk (pc' := 22) (L' := [some (.ref 19), some (.ref 25), some (.int 2)]) (st' := [.int 2, .ref 20]) (h' := ((76, 1769), zS, I, (zup (zPP (zPr 1)) 20 0 (some 29)))) 1 rfl ?_
  refine wp_blk (pc' := 23) (L' := [some (.ref 19), some (.ref 25), some (.int 2)]) (st' := [.int 1, .int 2, .ref 20]) (h' := ((76, 1769), zS, I, (zup (zPP (zPr 1)) 20 0 (some 29)))) 1 rfl ?_
  refine wp_blk (pc' := 24) (L' := [some (.ref 19), some (.ref 25), some (.int 2)]) (st' := [.int 1, .ref 20]) (h' := ((76, 1769), zS, I, (zup (zPP (zPr 1)) 20 0 (some 29)))) 1 rfl ?_
  refine wp_blk (pc' := 25) (L' := [some (.ref 19), some (.ref 25), some (.int 2)]) (st' := [.ref 19, .int 1, .ref 20]) (h' := ((76, 1769), zS, I, (zup (zPP (zPr 1)) 20 0 (some 29)))) 1 rfl ?_
  refine wp_blk (pc' := 28) (L' := [some (.ref 19), some (.ref 25), some (.int 2)]) (st' := [.ref 20, .int 1, .ref 20]) (h' := ((76, 1769), zS, I, (zup (zPP (zPr 1)) 20 0 (some 29)))) 1 rfl ?_
  refine wp_blk (pc' := 29) (L' := [some (.ref 19), some (.ref 25), some (.int 2)]) (st' := [.int 2, .ref 20, .int 1, .ref 20]) (h' := ((76, 1769), zS, I, (zup (zPP (zPr 1)) 20 0 (some 29)))) 1 rfl ?_
  refine wp_blk (pc' := 30) (L' := [some (.ref 19), some (.ref 25), some (.int 2)]) (st' := [.ref 33, .int 1, .ref 20]) (h' := ((76, 1769), zS, I, (zup (zPP (zPr 1)) 20 0 (some 29)))) 1 rfl ?_
  refine wp_blk (pc' := 31) (L' := [some (.ref 19), some (.ref 25), some (.int 2)]) (st' := []) (h' := ((76, 1769), zS, I, (zup (zup (zPP (zPr 1)) 20 0 (some 29)) 20 1 (some 33)))) 1 rfl ?_
  refine wp_blk (pc' := 34) (L' := [some (.ref 19), some (.ref 25), some (.int 3)]) (st' := []) (h' := ((76, 1769), zS, I, (zup (zup (zPP (zPr 1)) 20 0 (some 29)) 20 1 (some 33)))) 1 rfl ?_
  refine wp_blk (pc' := 8) (L' := [some (.ref 19), some (.ref 25), some (.int 3)]) (st' := []) (h' := ((76, 1769), zS, I, (zup (zup (zPP (zPr 1)) 20 0 (some 29)) 20 1 (some 33)))) 1 rfl ?_
  refine wp_blk (pc' := 9) (L' := [some (.ref 19), some (.ref 25), some (.int 3)]) (st' := [.int 3]) (h' := ((76, 1769), zS, I, (zup (zup (zPP (zPr 1)) 20 0 (some 29)) 20 1 (some 33)))) 1 rfl ?_
  refine wp_blk (pc' := 10) (L' := [some (.ref 19), some (.ref 25), some (.int 3)]) (st' := [.ref 19, .int 3]) (h' := ((76, 1769), zS, I, (zup (zup (zPP (zPr 1)) 20 0 (some 29)) 20 1 (some 33)))) 1 rfl ?_
  refine wp_blk (pc' := 13) (L' := [some (.ref 19), some (.ref 25), some (.int 3)]) (st' := [.ref 20, .int 3]) (h' := ((76, 1769), zS, I, (zup (zup (zPP (zPr 1)) 20 0 (some 29)) 20 1 (some 33)))) 1 rfl ?_
  refine wp_blk (pc' := 14) (L' := [some (.ref 19), some (.ref 25), some (.int 3)]) (st' := [.int 8, .int 3]) (h' := ((76, 1769), zS, I, (zup (zup (zPP (zPr 1)) 20 0 (some 29)) 20 1 (some 33)))) 1 rfl ?_
  refine wp_blk (pc' := 17) (L' := [some (.ref 19), some (.ref 25), some (.int 3)]) (st' := []) (h' := ((76, 1769), zS, I, (zup (zup (zPP (zPr 1)) 20 0 (some 29)) 20 1 (some 33)))) 1 rfl ?_
  refine wp_blk (pc' := 18) (L' := [some (.ref 19), some (.ref 25), some (.int 3)]) (st' := [.ref 19]) (h' := ((76, 1769), zS, I, (zup (zup (zPP (zPr 1)) 20 0 (some 29)) 20 1 (some 33)))) 1 rfl ?_
  refine wp_blk (pc' := 21) (L' := [some (.ref 19), some (.ref 25), some (.int 3)]) (st' := [.ref 20]) (h' := ((76, 1769), zS, I, (zup (zup (zPP (zPr 1)) 20 0 (some 29)) 20 1 (some 33)))) 1 rfl ?_
  refine wp_blk (pc' := 22) (L' := [some (.ref 19), some (.ref 25), some (.int 3)]) (st' := [.int 3, .ref 20]) (h' := ((76, 1769), zS, I, (zup (zup (zPP (zPr 1)) 20 0 (some 29)) 20 1 (some 33)))) 1 rfl ?_
  refine wp_blk (pc' := 23) (L' := [some (.ref 19), some (.ref 25), some (.int 3)]) (st' := [.int 1, .int 3, .ref 20]) (h' := ((76, 1769), zS, I, (zup (zup (zPP (zPr 1)) 20 0 (some 29)) 20 1 (some 33)))) 1 rfl ?_
  refine wp_blk (pc' := 24) (L' := [some (.ref 19), some (.ref 25), some (.int 3)]) (st' := [.int 2, .ref 20]) (h' := ((76, 1769), zS, I, (zup (zup (zPP (zPr 1)) 20 0 (some 29)) 20 1 (some 33)))) 1 rfl ?_
  refine wp_blk (pc' := 25) (L' := [some (.ref 19), some (.ref 25), some (.int 3)]) (st' := [.ref 19, .int 2, .ref 20]) (h' := ((76, 1769), zS, I, (zup (zup (zPP (zPr 1)) 20 0 (some 29)) 20 1 (some 33)))) 1 rfl ?_
  refine wp_blk (pc' := 28) (L' := [some (.ref 19), some (.ref 25), some (.int 3)]) (st' := [.ref 20, .int 2, .ref 20]) (h' := ((76, 1769), zS, I, (zup (zup (zPP (zPr 1)) 20 0 (some 29)) 20 1 (some 33)))) 1 rfl ?_
  refine wp_blk (pc' := 29) (L' := [some (.ref 19), some (.ref 25), some (.int 3)]) (st' := [.int 3, .ref 20, .int 2, .ref 20]) (h' := ((76, 1769), zS, I, (zup (zup (zPP (zPr 1)) 20 0 (some 29)) 20 1 (some 33)))) 1 rfl ?_
  refine wp_blk (pc' := 30) (L' := [some (.ref 19), some (.ref 25), some (.int 3)]) (st' := [.ref 37, .int 2, .ref 20]) (h' := ((76, 1769), zS, I, (zup (zup (zPP (zPr 1)) 20 0 (some 29)) 20 1 (some 33)))) 1 rfl ?_
  refine wp_blk (pc' := 31) (L' := [some (.ref 19), some (.ref 25), some (.int 3)]) (st' := []) (h' := ((76, 1769), zS, I, (zup (zup (zup (zPP (zPr 1)) 20 0 (some 29)) 20 1 (some 33)) 20 2 (some 37)))) 1 rfl ?_
  refine wp_blk (pc' := 34) (L' := [some (.ref 19), some (.ref 25), some (.int 4)]) (st' := []) (h' := ((76, 1769), zS, I, (zup (zup (zup (zPP (zPr 1)) 20 0 (some 29)) 20 1 (some 33)) 20 2 (some 37)))) 1 rfl ?_
  refine wp_blk (pc' := 8) (L' := [some (.ref 19), some (.ref 25), some (.int 4)]) (st' := []) (h' := ((76, 1769), zS, I, (zup (zup (zup (zPP (zPr 1)) 20 0 (some 29)) 20 1 (some 33)) 20 2 (some 37)))) 1 rfl ?_
  refine wp_blk (pc' := 9) (L' := [some (.ref 19), some (.ref 25), some (.int 4)]) (st' := [.int 4]) (h' := ((76, 1769), zS, I, (zup (zup (zup (zPP (zPr 1)) 20 0 (some 29)) 20 1 (some 33)) 20 2 (some 37)))) 1 rfl ?_
  refine wp_blk (pc' := 10) (L' := [some (.ref 19), some (.ref 25), some (.int 4)]) (st' := [.ref 19, .int 4]) (h' := ((76, 1769), zS, I, (zup (zup (zup (zPP (zPr 1)) 20 0 (some 29)) 20 1 (some 33)) 20 2 (some 37)))) 1 rfl ?_
  refine wp_blk (pc' := 13) (L' := [some (.ref 19), some (.ref 25), some (.int 4)]) (st' := [.ref 20, .int 4]) (h' := ((76, 1769), zS, I, (zup (zup (zup (zPP (zPr 1)) 20 0 (some 29)) 20 1 (some 33)) 20 2 (some 37)))) 1 rfl ?_
  refine wp_blk (pc' := 14) (L' := [some (.ref 19), some (.ref 25), some (.int 4)]) (st' := [.int 8, .int 4]) (h' := ((76, 1769), zS, I, (zup (zup (zup (zPP (zPr 1)) 20 0 (some 29)) 20 1 (some 33)) 20 2 (some 37)))) 1 rfl ?_
  refine wp_blk (pc' := 17) (L' := [some (.ref 19), some (.ref 25), some (.int 4)]) (st' := []) (h' := ((76, 1769), zS, I, (zup (zup (zup (zPP (zPr 1)) 20 0 (some 29)) 20 1 (some 33)) 20 2 (some 37)))) 1 rfl ?_
  refine wp_blk (pc' := 18) (L' := [some (.ref 19), some (.ref 25), some (.int 4)]) (st' := [.ref 19]) (h' := ((76, 1769), zS, I, (zup (zup (zup (zPP (zPr 1)) 20 0 (some 29)) 20 1 (some 33)) 20 2 (some 37)))) 1 rfl ?_
  refine wp_blk (pc' := 21) (L' := [some (.ref 19), some (.ref 25), some (.int 4)]) (st' := [.ref 20]) (h' := ((76, 1769), zS, I, (zup (zup (zup (zPP (zPr 1)) 20 0 (some 29)) 20 1 (some 33)) 20 2 (some 37)))) 1 rfl ?_
  refine wp_blk (pc' := 22) (L' := [some (.ref 19), some (.ref 25), some (.int 4)]) (st' := [.int 4, .ref 20]) (h' := ((76, 1769), zS, I, (zup (zup (zup (zPP (zPr 1)) 20 0 (some 29)) 20 1 (some 33)) 20 2 (some 37)))) 1 rfl ?_
  refine wp_blk (pc' := 23) (L' := [some (.ref 19), some (.ref 25), some (.int 4)]) (st' := [.int 1, .int 4, .ref 20]) (h' := ((76, 1769), zS, I, (zup (zup (zup (zPP (zPr 1)) 20 0 (some 29)) 20 1 (some 33)) 20 2 (some 37)))) 1 rfl ?_
  refine wp_blk (pc' := 24) (L' := [some (.ref 19), some (.ref 25), some (.int 4)]) (st' := [.int 3, .ref 20]) (h' := ((76, 1769), zS, I, (zup (zup (zup (zPP (zPr 1)) 20 0 (some 29)) 20 1 (some 33)) 20 2 (some 37)))) 1 rfl ?_
  refine wp_blk (pc' := 25) (L' := [some (.ref 19), some (.ref 25), some (.int 4)]) (st' := [.ref 19, .int 3, .ref 20]) (h' := ((76, 1769), zS, I, (zup (zup (zup (zPP (zPr 1)) 20 0 (some 29)) 20 1 (some 33)) 20 2 (some 37)))) 1 rfl ?_
  refine wp_blk (pc' := 28) (L' := [some (.ref 19), some (.ref 25), some (.int 4)]) (st' := [.ref 20, .int 3, .ref 20]) (h' := ((76, 1769), zS, I, (zup (zup (zup (zPP (zPr 1)) 20 0 (some 29)) 20 1 (some 33)) 20 2 (some 37)))) 1 rfl ?_
  refine wp_blk (pc' := 29) (L' := [some (.ref 19), some (.ref 25), some (.int 4)]) (st' := [.int 4, .ref 20, .int 3, .ref 20]) (h' := ((76, 1769), zS, I, (zup (zup (zup (zPP (zPr 1)) 20 0 (some 29)) 20 1 (some 33)) 20 2 (some 37)))) 1 rfl ?_
  refine wp_blk (pc' := 30) (L' := [some (.ref 19), some (.ref 25), some (.int 4)]) (st' := [.ref 41, .int 3, .ref 20]) (h' := ((76, 1769), zS, I, (zup (zup (zup (zPP (zPr 1)) 20 0 (some 29)) 20 1 (some 33)) 20 2 (some 37)))) 1 rfl ?_
  refine wp_blk (pc' := 31) (L' := [some (.ref 19), some (.ref 25), some (.int 4)]) (st' := []) (h' := ((76, 1769), zS, I, (zup (zup (zup (zup (zPP (zPr 1)) 20 0 (some 29)) 20 1 (some 33)) 20 2 (some 37)) 20 3 (some 41)))) 1 rfl ?_
  refine wp_blk (pc' := 34) (L' := [some (.ref 19), some (.ref 25), some (.int 5)]) (st' := []) (h' := ((76, 1769), zS, I, (zup (zup (zup (zup (zPP (zPr 1)) 20 0 (some 29)) 20 1 (some 33)) 20 2 (some 37)) 20 3 (some 41)))) 1 rfl ?_
  refine wp_blk (pc' := 8) (L' := [some (.ref 19), some (.ref 25), some (.int 5)]) (st' := []) (h' := ((76, 1769), zS, I, (zup (zup (zup (zup (zPP (zPr 1)) 20 0 (some 29)) 20 1 (some 33)) 20 2 (some 37)) 20 3 (some 41)))) 1 rfl ?_
  refine wp_blk (pc' := 9) (L' := [some (.ref 19), some (.ref 25), some (.int 5)]) (st' := [.int 5]) (h' := ((76, 1769), zS, I, (zup (zup (zup (zup (zPP (zPr 1)) 20 0 (some 29)) 20 1 (some 33)) 20 2 (some 37)) 20 3 (some 41)))) 1 rfl ?_
  refine wp_blk (pc' := 10) (L' := [some (.ref 19), some (.ref 25), some (.int 5)]) (st' := [.ref 19, .int 5]) (h' := ((76, 1769), zS, I, (zup (zup (zup (zup (zPP (zPr 1)) 20 0 (some 29)) 20 1 (some 33)) 20 2 (some 37)) 20 3 (some 41)))) 1 rfl ?_
  refine wp_blk (pc' := 13) (L' := [some (.ref 19), some (.ref 25), some (.int 5)]) (st' := [.ref 20, .int 5]) (h' := ((76, 1769), zS, I, (zup (zup (zup (zup (zPP (zPr 1)) 20 0 (some 29)) 20 1 (some 33)) 20 2 (some 37)) 20 3 (some 41)))) 1 rfl ?_
  refine wp_blk (pc' := 14) (L' := [some (.ref 19), some (.ref 25), some (.int 5)]) (st' := [.int 8, .int 5]) (h' := ((76, 1769), zS, I, (zup (zup (zup (zup (zPP (zPr 1)) 20 0 (some 29)) 20 1 (some 33)) 20 2 (some 37)) 20 3 (some 41)))) 1 rfl ?_
  refine wp_blk (pc' := 17) (L' := [some (.ref 19), some (.ref 25), some (.int 5)]) (st' := []) (h' := ((76, 1769), zS, I, (zup (zup (zup (zup (zPP (zPr 1)) 20 0 (some 29)) 20 1 (some 33)) 20 2 (some 37)) 20 3 (some 41)))) 1 rfl ?_
  refine wp_blk (pc' := 18) (L' := [some (.ref 19), some (.ref 25), some (.int 5)]) (st' := [.ref 19]) (h' := ((76, 1769), zS, I, (zup (zup (zup (zup (zPP (zPr 1)) 20 0 (some 29)) 20 1 (some 33)) 20 2 (some 37)) 20 3 (some 41)))) 1 rfl ?_
  refine wp_blk (pc' := 21) (L' := [some (.ref 19), some (.ref 25), some (.int 5)]) (st' := [.ref 20]) (h' := ((76, 1769), zS, I, (zup (zup (zup (zup (zPP (zPr 1)) 20 0 (some 29)) 20 1 (some 33)) 20 2 (some 37)) 20 3 (some 41)))) 1 rfl ?_
  refine wp_blk (pc' := 22) (L' := [some (.ref 19), some (.ref 25), some (.int 5)]) (st' := [.int 5, .ref 20]) (h' := ((76, 1769), zS, I, (zup (zup (zup (zup (zPP (zPr 1)) 20 0 (some 29)) 20 1 (some 33)) 20 2 (some 37)) 20 3 (some 41)))) 1 rfl ?_
  refine wp_blk (pc' := 23) (L' := [some (.ref 19), some (.ref 25), some (.int 5)]) (st' := [.int 1, .int 5, .ref 20]) (h' := ((76, 1769), zS, I, (zup (zup (zup (zup (zPP (zPr 1)) 20 0 (some 29)) 20 1 (some 33)) 20 2 (some 37)) 20 3 (some 41)))) 1 rfl ?_
  refine wp_blk (pc' := 24) (L' := [some (.ref 19), some (.ref 25), some (.int 5)]) (st' := [.int 4, .ref 20]) (h' := ((76, 1769), zS, I, (zup (zup (zup (zup (zPP (zPr 1)) 20 0 (some 29)) 20 1 (some 33)) 20 2 (some 37)) 20 3 (some 41)))) 1 rfl ?_
  refine wp_blk (pc' := 25) (L' := [some (.ref 19), some (.ref 25), some (.int 5)]) (st' := [.ref 19, .int 4, .ref 20]) (h' := ((76, 1769), zS, I, (zup (zup (zup (zup (zPP (zPr 1)) 20 0 (some 29)) 20 1 (some 33)) 20 2 (some 37)) 20 3 (some 41)))) 1 rfl ?_
  refine wp_blk (pc' := 28) (L' := [some (.ref 19), some (.ref 25), some (.int 5)]) (st' := [.ref 20, .int 4, .ref 20]) (h' := ((76, 1769), zS, I, (zup (zup (zup (zup (zPP (zPr 1)) 20 0 (some 29)) 20 1 (some 33)) 20 2 (some 37)) 20 3 (some 41)))) 1 rfl ?_
  refine wp_blk (pc' := 29) (L' := [some (.ref 19), some (.ref 25), some (.int 5)]) (st' := [.int 5, .ref 20, .int 4, .ref 20]) (h' := ((76, 1769), zS, I, (zup (zup (zup (zup (zPP (zPr 1)) 20 0 (some 29)) 20 1 (some 33)) 20 2 (some 37)) 20 3 (some 41)))) 1 rfl ?_
  refine wp_blk (pc' := 30) (L' := [some (.ref 19), some (.ref 25), some (.int 5)]) (st' := [.ref 45, .int 4, .ref 20]) (h' := ((76, 1769), zS, I, (zup (zup (zup (zup (zPP (zPr 1)) 20 0 (some 29)) 20 1 (some 33)) 20 2 (some 37)) 20 3 (some 41)))) 1 rfl ?_
  refine wp_blk (pc' := 31) (L' := [some (.ref 19), some (.ref 25), some (.int 5)]) (st' := []) (h' := ((76, 1769), zS, I, (zup (zup (zup (zup (zup (zPP (zPr 1)) 20 0 (some 29)) 20 1 (some 33)) 20 2 (some 37)) 20 3 (some 41)) 20 4 (some 45)))) 1 rfl ?_
  refine wp_blk (pc' := 34) (L' := [some (.ref 19), some (.ref 25), some (.int 6)]) (st' := []) (h' := ((76, 1769), zS, I, (zup (zup (zup (zup (zup (zPP (zPr 1)) 20 0 (some 29)) 20 1 (some 33)) 20 2 (some 37)) 20 3 (some 41)) 20 4 (some 45)))) 1 rfl ?_
  refine wp_blk (pc' := 8) (L' := [some (.ref 19), some (.ref 25), some (.int 6)]) (st' := []) (h' := ((76, 1769), zS, I, (zup (zup (zup (zup (zup (zPP (zPr 1)) 20 0 (some 29)) 20 1 (some 33)) 20 2 (some 37)) 20 3 (some 41)) 20 4 (some 45)))) 1 rfl ?_
  refine wp_blk (pc' := 9) (L' := [some (.ref 19), some (.ref 25), some (.int 6)]) (st' := [.int 6]) (h' := ((76, 1769), zS, I, (zup (zup (zup (zup (zup (zPP (zPr 1)) 20 0 (some 29)) 20 1 (some 33)) 20 2 (some 37)) 20 3 (some 41)) 20 4 (some 45)))) 1 rfl ?_
  refine wp_blk (pc' := 10) (L' := [some (.ref 19), some (.ref 25), some (.int 6)]) (st' := [.ref 19, .int 6]) (h' := ((76, 1769), zS, I, (zup (zup (zup (zup (zup (zPP (zPr 1)) 20 0 (some 29)) 20 1 (some 33)) 20 2 (some 37)) 20 3 (some 41)) 20 4 (some 45)))) 1 rfl ?_
  refine wp_blk (pc' := 13) (L' := [some (.ref 19), some (.ref 25), some (.int 6)]) (st' := [.ref 20, .int 6]) (h' := ((76, 1769), zS, I, (zup (zup (zup (zup (zup (zPP (zPr 1)) 20 0 (some 29)) 20 1 (some 33)) 20 2 (some 37)) 20 3 (some 41)) 20 4 (some 45)))) 1 rfl ?_
  refine wp_blk (pc' := 14) (L' := [some (.ref 19), some (.ref 25), some (.int 6)]) (st' := [.int 8, .int 6]) (h' := ((76, 1769), zS, I, (zup (zup (zup (zup (zup (zPP (zPr 1)) 20 0 (some 29)) 20 1 (some 33)) 20 2 (some 37)) 20 3 (some 41)) 20 4 (some 45)))) 1 rfl ?_
  refine wp_blk (pc' := 17) (L' := [some (.ref 19), some (.ref 25), some (.int 6)]) (st' := []) (h' := ((76, 1769), zS, I, (zup (zup (zup (zup (zup (zPP (zPr 1)) 20 0 (some 29)) 20 1 (some 33)) 20 2 (some 37)) 20 3 (some 41)) 20 4 (some 45)))) 1 rfl ?_
  refine wp_blk (pc' := 18) (L' := [some (.ref 19), some (.ref 25), some (.int 6)]) (st' := [.ref 19]) (h' := ((76, 1769), zS, I, (zup (zup (zup (zup (zup (zPP (zPr 1)) 20 0 (some 29)) 20 1 (some 33)) 20 2 (some 37)) 20 3 (some 41)) 20 4 (some 45)))) 1 rfl ?_
  refine wp_blk (pc' := 21) (L' := [some (.ref 19), some (.ref 25), some (.int 6)]) (st' := [.ref 20]) (h' := ((76, 1769), zS, I, (zup (zup (zup (zup (zup (zPP (zPr 1)) 20 0 (some 29)) 20 1 (some 33)) 20 2 (some 37)) 20 3 (some 41)) 20 4 (some 45)))) 1 rfl ?_
  refine wp_blk (pc' := 22) (L' := [some (.ref 19), some (.ref 25), some (.int 6)]) (st' := [.int 6, .ref 20]) (h' := ((76, 1769), zS, I, (zup (zup (zup (zup (zup (zPP (zPr 1)) 20 0 (some 29)) 20 1 (some 33)) 20 2 (some 37)) 20 3 (some 41)) 20 4 (some 45)))) 1 rfl ?_
  refine wp_blk (pc' := 23) (L' := [some (.ref 19), some (.ref 25), some (.int 6)]) (st' := [.int 1, .int 6, .ref 20]) (h' := ((76, 1769), zS, I, (zup (zup (zup (zup (zup (zPP (zPr 1)) 20 0 (some 29)) 20 1 (some 33)) 20 2 (some 37)) 20 3 (some 41)) 20 4 (some 45)))) 1 rfl ?_
  refine wp_blk (pc' := 24) (L' := [some (.ref 19), some (.ref 25), some (.int 6)]) (st' := [.int 5, .ref 20]) (h' := ((76, 1769), zS, I, (zup (zup (zup (zup (zup (zPP (zPr 1)) 20 0 (some 29)) 20 1 (some 33)) 20 2 (some 37)) 20 3 (some 41)) 20 4 (some 45)))) 1 rfl ?_
  refine wp_blk (pc' := 25) (L' := [some (.ref 19), some (.ref 25), some (.int 6)]) (st' := [.ref 19, .int 5, .ref 20]) (h' := ((76, 1769), zS, I, (zup (zup (zup (zup (zup (zPP (zPr 1)) 20 0 (some 29)) 20 1 (some 33)) 20 2 (some 37)) 20 3 (some 41)) 20 4 (some 45)))) 1 rfl ?_
  refine wp_blk (pc' := 28) (L' := [some (.ref 19), some (.ref 25), some (.int 6)]) (st' := [.ref 20, .int 5, .ref 20]) (h' := ((76, 1769), zS, I, (zup (zup (zup (zup (zup (zPP (zPr 1)) 20 0 (some 29)) 20 1 (some 33)) 20 2 (some 37)) 20 3 (some 41)) 20 4 (some 45)))) 1 rfl ?_
  refine wp_blk (pc' := 29) (L' := [some (.ref 19), some (.ref 25), some (.int 6)]) (st' := [.int 6, .ref 20, .int 5, .ref 20]) (h' := ((76, 1769), zS, I, (zup (zup (zup (zup (zup (zPP (zPr 1)) 20 0 (some 29)) 20 1 (some 33)) 20 2 (some 37)) 20 3 (some 41)) 20 4 (some 45)))) 1 rfl ?_
  refine wp_blk (pc' := 30) (L' := [some (.ref 19), some (.ref 25), some (.int 6)]) (st' := [.ref 49, .int 5, .ref 20]) (h' := ((76, 1769), zS, I, (zup (zup (zup (zup (zup (zPP (zPr 1)) 20 0 (some 29)) 20 1 (some 33)) 20 2 (some 37)) 20 3 (some 41)) 20 4 (some 45)))) 1 rfl ?_
  refine wp_blk (pc' := 31) (L' := [some (.ref 19), some (.ref 25), some (.int 6)]) (st' := []) (h' := ((76, 1769), zS, I, (zup (zup (zup (zup (zup (zup (zPP (zPr 1)) 20 0 (some 29)) 20 1 (some 33)) 20 2 (some 37)) 20 3 (some 41)) 20 4 (some 45)) 20 5 (some 49)))) 1 rfl ?_
  refine wp_blk (pc' := 34) (L' := [some (.ref 19), some (.ref 25), some (.int 7)]) (st' := []) (h' := ((76, 1769), zS, I, (zup (zup (zup (zup (zup (zup (zPP (zPr 1)) 20 0 (some 29)) 20 1 (some 33)) 20 2 (some 37)) 20 3 (some 41)) 20 4 (some 45)) 20 5 (some 49)))) 1 rfl ?_
  refine wp_blk (pc' := 8) (L' := [some (.ref 19), some (.ref 25), some (.int 7)]) (st' := []) (h' := ((76, 1769), zS, I, (zup (zup (zup (zup (zup (zup (zPP (zPr 1)) 20 0 (some 29)) 20 1 (some 33)) 20 2 (some 37)) 20 3 (some 41)) 20 4 (some 45)) 20 5 (some 49)))) 1 rfl ?_
  refine wp_blk (pc' := 9) (L' := [some (.ref 19), some (.ref 25), some (.int 7)]) (st' := [.int 7]) (h' := ((76, 1769), zS, I, (zup (zup (zup (zup (zup (zup (zPP (zPr 1)) 20 0 (some 29)) 20 1 (some 33)) 20 2 (some 37)) 20 3 (some 41)) 20 4 (some 45)) 20 5 (some 49)))) 1 rfl ?_
  refine wp_blk (pc' := 10) (L' := [some (.ref 19), some (.ref 25), some (.int 7)]) (st' := [.ref 19, .int 7]) (h' := ((76, 1769), zS, I, (zup (zup (zup (zup (zup (zup (zPP (zPr 1)) 20 0 (some 29)) 20 1 (some 33)) 20 2 (some 37)) 20 3 (some 41)) 20 4 (some 45)) 20 5 (some 49)))) 1 rfl ?_
  refine wp_blk (pc' := 13) (L' := [some (.ref 19), some (.ref 25), some (.int 7)]) (st' := [.ref 20, .int 7]) (h' := ((76, 1769), zS, I, (zup (zup (zup (zup (zup (zup (zPP (zPr 1)) 20 0 (some 29)) 20 1 (some 33)) 20 2 (some 37)) 20 3 (some 41)) 20 4 (some 45)) 20 5 (some 49)))) 1 rfl ?_
  refine wp_blk (pc' := 14) (L' := [some (.ref 19), some (.ref 25), some (.int 7)]) (st' := [.int 8, .int 7]) (h' := ((76, 1769), zS, I, (zup (zup (zup (zup (zup (zup (zPP (zPr 1)) 20 0 (some 29)) 20 1 (some 33)) 20 2 (some 37)) 20 3 (some 41)) 20 4 (some 45)) 20 5 (some 49)))) 1 rfl ?_
  refine wp_blk (pc' := 17) (L' := [some (.ref 19), some (.ref 25), some (.int 7)]) (st' := []) (h' := ((76, 1769), zS, I, (zup (zup (zup (zup (zup (zup (zPP (zPr 1)) 20 0 (some 29)) 20 1 (some 33)) 20 2 (some 37)) 20 3 (some 41)) 20 4 (some 45)) 20 5 (some 49)))) 1 rfl ?_
  refine wp_blk (pc' := 18) (L' := [some (.ref 19), some (.ref 25), some (.int 7)]) (st' := [.ref 19]) (h' := ((76, 1769), zS, I, (zup (zup (zup (zup (zup (zup (zPP (zPr 1)) 20 0 (some 29)) 20 1 (some 33)) 20 2 (some 37)) 20 3 (some 41)) 20 4 (some 45)) 20 5 (some 49)))) 1 rfl ?_
  refine wp_blk (pc' := 21) (L' := [some (.ref 19), some (.ref 25), some (.int 7)]) (st' := [.ref 20]) (h' := ((76, 1769), zS, I, (zup (zup (zup (zup (zup (zup (zPP (zPr 1)) 20 0 (some 29)) 20 1 (some 33)) 20 2 (some 37)) 20 3 (some 41)) 20 4 (some 45)) 20 5 (some 49)))) 1 rfl ?_
  refine wp_blk (pc' := 22) (L' := [some (.ref 19), some (.ref 25), some (.int 7)]) (st' := [.int 7, .ref 20]) (h' := ((76, 1769), zS, I, (zup (zup (zup (zup (zup (zup (zPP (zPr 1)) 20 0 (some 29)) 20 1 (some 33)) 20 2 (some 37)) 20 3 (some 41)) 20 4 (some 45)) 20 5 (some 49)))) 1 rfl ?_
  refine wp_blk (pc' := 23) (L' := [some (.ref 19), some (.ref 25), some (.int 7)]) (st' := [.int 1, .int 7, .ref 20]) (h' := ((76, 1769), zS, I, (zup (zup (zup (zup (zup (zup (zPP (zPr 1)) 20 0 (some 29)) 20 1 (some 33)) 20 2 (some 37)) 20 3 (some 41)) 20 4 (some 45)) 20 5 (some 49)))) 1 rfl ?_
  refine wp_blk (pc' := 24) (L' := [some (.ref 19), some (.ref 25), some (.int 7)]) (st' := [.int 6, .ref 20]) (h' := ((76, 1769), zS, I, (zup (zup (zup (zup (zup (zup (zPP (zPr 1)) 20 0 (some 29)) 20 1 (some 33)) 20 2 (some 37)) 20 3 (some 41)) 20 4 (some 45)) 20 5 (some 49)))) 1 rfl ?_
  refine wp_blk (pc' := 25) (L' := [some (.ref 19), some (.ref 25), some (.int 7)]) (st' := [.ref 19, .int 6, .ref 20]) (h' := ((76, 1769), zS, I, (zup (zup (zup (zup (zup (zup (zPP (zPr 1)) 20 0 (some 29)) 20 1 (some 33)) 20 2 (some 37)) 20 3 (some 41)) 20 4 (some 45)) 20 5 (some 49)))) 1 rfl ?_
  refine wp_blk (pc' := 28) (L' := [some (.ref 19), some (.ref 25), some (.int 7)]) (st' := [.ref 20, .int 6, .ref 20]) (h' := ((76, 1769), zS, I, (zup (zup (zup (zup (zup (zup (zPP (zPr 1)) 20 0 (some 29)) 20 1 (some 33)) 20 2 (some 37)) 20 3 (some 41)) 20 4 (some 45)) 20 5 (some 49)))) 1 rfl ?_
  refine wp_blk (pc' := 29) (L' := [some (.ref 19), some (.ref 25), some (.int 7)]) (st' := [.int 7, .ref 20, .int 6, .ref 20]) (h' := ((76, 1769), zS, I, (zup (zup (zup (zup (zup (zup (zPP (zPr 1)) 20 0 (some 29)) 20 1 (some 33)) 20 2 (some 37)) 20 3 (some 41)) 20 4 (some 45)) 20 5 (some 49)))) 1 rfl ?_
  refine wp_blk (pc' := 30) (L' := [some (.ref 19), some (.ref 25), some (.int 7)]) (st' := [.ref 21, .int 6, .ref 20]) (h' := ((76, 1769), zS, I, (zup (zup (zup (zup (zup (zup (zPP (zPr 1)) 20 0 (some 29)) 20 1 (some 33)) 20 2 (some 37)) 20 3 (some 41)) 20 4 (some 45)) 20 5 (some 49)))) 1 rfl ?_
  refine wp_blk (pc' := 31) (L' := [some (.ref 19), some (.ref 25), some (.int 7)]) (st' := []) (h' := ((76, 1769), zS, I, (zup (zup (zup (zup (zup (zup (zup (zPP (zPr 1)) 20 0 (some 29)) 20 1 (some 33)) 20 2 (some 37)) 20 3 (some 41)) 20 4 (some 45)) 20 5 (some 49)) 20 6 (some 21)))) 1 rfl ?_
  refine wp_blk (pc' := 34) (L' := [some (.ref 19), some (.ref 25), some (.int 8)]) (st' := []) (h' := ((76, 1769), zS, I, (zup (zup (zup (zup (zup (zup (zup (zPP (zPr 1)) 20 0 (some 29)) 20 1 (some 33)) 20 2 (some 37)) 20 3 (some 41)) 20 4 (some 45)) 20 5 (some 49)) 20 6 (some 21)))) 1 rfl ?_
  refine wp_blk (pc' := 8) (L' := [some (.ref 19), some (.ref 25), some (.int 8)]) (st' := []) (h' := ((76, 1769), zS, I, (zup (zup (zup (zup (zup (zup (zup (zPP (zPr 1)) 20 0 (some 29)) 20 1 (some 33)) 20 2 (some 37)) 20 3 (some 41)) 20 4 (some 45)) 20 5 (some 49)) 20 6 (some 21)))) 1 rfl ?_
  refine wp_blk (pc' := 9) (L' := [some (.ref 19), some (.ref 25), some (.int 8)]) (st' := [.int 8]) (h' := ((76, 1769), zS, I, (zup (zup (zup (zup (zup (zup (zup (zPP (zPr 1)) 20 0 (some 29)) 20 1 (some 33)) 20 2 (some 37)) 20 3 (some 41)) 20 4 (some 45)) 20 5 (some 49)) 20 6 (some 21)))) 1 rfl ?_
  refine wp_blk (pc' := 10) (L' := [some (.ref 19), some (.ref 25), some (.int 8)]) (st' := [.ref 19, .int 8]) (h' := ((76, 1769), zS, I, (zup (zup (zup (zup (zup (zup (zup (zPP (zPr 1)) 20 0 (some 29)) 20 1 (some 33)) 20 2 (some 37)) 20 3 (some 41)) 20 4 (some 45)) 20 5 (some 49)) 20 6 (some 21)))) 1 rfl ?_
  refine wp_blk (pc' := 13) (L' := [some (.ref 19), some (.ref 25), some (.int 8)]) (st' := [.ref 20, .int 8]) (h' := ((76, 1769), zS, I, (zup (zup (zup (zup (zup (zup (zup (zPP (zPr 1)) 20 0 (some 29)) 20 1 (some 33)) 20 2 (some 37)) 20 3 (some 41)) 20 4 (some 45)) 20 5 (some 49)) 20 6 (some 21)))) 1 rfl ?_
  refine wp_blk (pc' := 14) (L' := [some (.ref 19), some (.ref 25), some (.int 8)]) (st' := [.int 8, .int 8]) (h' := ((76, 1769), zS, I, (zup (zup (zup (zup (zup (zup (zup (zPP (zPr 1)) 20 0 (some 29)) 20 1 (some 33)) 20 2 (some 37)) 20 3 (some 41)) 20 4 (some 45)) 20 5 (some 49)) 20 6 (some 21)))) 1 rfl ?_
  refine wp_blk (pc' := 37) (L' := [some (.ref 19), some (.ref 25), some (.int 8)]) (st' := []) (h' := ((76, 1769), zS, I, (zup (zup (zup (zup (zup (zup (zup (zPP (zPr 1)) 20 0 (some 29)) 20 1 (some 33)) 20 2 (some 37)) 20 3 (some 41)) 20 4 (some 45)) 20 5 (some 49)) 20 6 (some 21)))) 1 rfl ?_
  refine wp_blk (pc' := 38) (L' := [some (.ref 19), some (.ref 25), some (.int 8)]) (st' := [.ref 19]) (h' := ((76, 1769), zS, I, (zup (zup (zup (zup (zup (zup (zup (zPP (zPr 1)) 20 0 (some 29)) 20 1 (some 33)) 20 2 (some 37)) 20 3 (some 41)) 20 4 (some 45)) 20 5 (some 49)) 20 6 (some 21)))) 1 rfl ?_
  refine wp_blk (pc' := 39) (L' := [some (.ref 19), some (.ref 25), some (.int 8)]) (st' := [.ref 19, .ref 19]) (h' := ((76, 1769), zS, I, (zup (zup (zup (zup (zup (zup (zup (zPP (zPr 1)) 20 0 (some 29)) 20 1 (some 33)) 20 2 (some 37)) 20 3 (some 41)) 20 4 (some 45)) 20 5 (some 49)) 20 6 (some 21)))) 1 rfl ?_
  refine wp_blk (pc' := 42) (L' := [some (.ref 19), some (.ref 25), some (.int 8)]) (st' := [.ref 20, .ref 19]) (h' := ((76, 1769), zS, I, (zup (zup (zup (zup (zup (zup (zup (zPP (zPr 1)) 20 0 (some 29)) 20 1 (some 33)) 20 2 (some 37)) 20 3 (some 41)) 20 4 (some 45)) 20 5 (some 49)) 20 6 (some 21)))) 1 rfl ?_
  refine wp_blk (pc' := 43) (L' := [some (.ref 19), some (.ref 25), some (.int 8)]) (st' := [.int 8, .ref 19]) (h' := ((76, 1769), zS, I, (zup (zup (zup (zup (zup (zup (zup (zPP (zPr 1)) 20 0 (some 29)) 20 1 (some 33)) 20 2 (some 37)) 20 3 (some 41)) 20 4 (some 45)) 20 5 (some 49)) 20 6 (some 21)))) 1 rfl ?_
  refine wp_blk (pc' := 44) (L' := [some (.ref 19), some (.ref 25), some (.int 8)]) (st' := [.int 1, .int 8, .ref 19]) (h' := ((76, 1769), zS, I, (zup (zup (zup (zup (zup (zup (zup (zPP (zPr 1)) 20 0 (some 29)) 20 1 (some 33)) 20 2 (some 37)) 20 3 (some 41)) 20 4 (some 45)) 20 5 (some 49)) 20 6 (some 21)))) 1 rfl ?_
  refine wp_blk (pc' := 45) (L' := [some (.ref 19), some (.ref 25), some (.int 8)]) (st' := [.int 7, .ref 19]) (h' := ((76, 1769), zS, I, (zup (zup (zup (zup (zup (zup (zup (zPP (zPr 1)) 20 0 (some 29)) 20 1 (some 33)) 20 2 (some 37)) 20 3 (some 41)) 20 4 (some 45)) 20 5 (some 49)) 20 6 (some 21)))) 1 rfl ?_
  refine wp_blk (pc' := 48) (L' := [some (.ref 19), some (.ref 25), some (.int 8)]) (st' := []) (h' := ((76, 1769), zS, (zui I 19 1 7), (zup (zup (zup (zup (zup (zup (zup (zPP (zPr 1)) 20 0 (some 29)) 20 1 (some 33)) 20 2 (some 37)) 20 3 (some 41)) 20 4 (some 45)) 20 5 (some 49)) 20 6 (some 21)))) 1 rfl ?_
  refine wp_blk (pc' := 49) (L' := [some (.ref 19), some (.ref 25), some (.int 8)]) (st' := [.ref 19]) (h' := ((76, 1769), zS, (zui I 19 1 7), (zup (zup (zup (zup (zup (zup (zup (zPP (zPr 1)) 20 0 (some 29)) 20 1 (some 33)) 20 2 (some 37)) 20 3 (some 41)) 20 4 (some 45)) 20 5 (some 49)) 20 6 (some 21)))) 1 rfl ?_
  refine wp_blk (pc' := 52) (L' := [some (.ref 19), some (.ref 25), some (.int 8)]) (st' := [.int 7]) (h' := ((76, 1769), zS, (zui I 19 1 7), (zup (zup (zup (zup (zup (zup (zup (zPP (zPr 1)) 20 0 (some 29)) 20 1 (some 33)) 20 2 (some 37)) 20 3 (some 41)) 20 4 (some 45)) 20 5 (some 49)) 20 6 (some 21)))) 1 rfl ?_
  refine wp_blk (pc' := 55) (L' := [some (.ref 19), some (.ref 25), some (.int 8)]) (st' := []) (h' := ((76, 1769), zS, (zui I 19 1 7), (zup (zup (zup (zup (zup (zup (zup (zPP (zPr 1)) 20 0 (some 29)) 20 1 (some 33)) 20 2 (some 37)) 20 3 (some 41)) 20 4 (some 45)) 20 5 (some 49)) 20 6 (some 21)))) 1 rfl ?_
  refine wp_blk (pc' := 56) (L' := [some (.ref 19), some (.ref 25), some (.int 8)]) (st' := [.ref 19]) (h' := ((76, 1769), zS, (zui I 19 1 7), (zup (zup (zup (zup (zup (zup (zup (zPP (zPr 1)) 20 0 (some 29)) 20 1 (some 33)) 20 2 (some 37)) 20 3 (some 41)) 20 4 (some 45)) 20 5 (some 49)) 20 6 (some 21)))) 1 rfl ?_
  refine wp_blk (pc' := 59) (L' := [some (.ref 19), some (.ref 25), some (.int 8)]) (st' := [.ref 20]) (h' := ((76, 1769), zS, (zui I 19 1 7), (zup (zup (zup (zup (zup (zup (zup (zPP (zPr 1)) 20 0 (some 29)) 20 1 (some 33)) 20 2 (some 37)) 20 3 (some 41)) 20 4 (some 45)) 20 5 (some 49)) 20 6 (some 21)))) 1 rfl ?_
  refine wp_blk (pc' := 60) (L' := [some (.ref 19), some (.ref 25), some (.int 8)]) (st' := [.ref 19, .ref 20]) (h' := ((76, 1769), zS, (zui I 19 1 7), (zup (zup (zup (zup (zup (zup (zup (zPP (zPr 1)) 20 0 (some 29)) 20 1 (some 33)) 20 2 (some 37)) 20 3 (some 41)) 20 4 (some 45)) 20 5 (some 49)) 20 6 (some 21)))) 1 rfl ?_
  refine wp_blk (pc' := 63) (L' := [some (.ref 19), some (.ref 25), some (.int 8)]) (st' := [.int 7, .ref 20]) (h' := ((76, 1769), zS, (zui I 19 1 7), (zup (zup (zup (zup (zup (zup (zup (zPP (zPr 1)) 20 0 (some 29)) 20 1 (some 33)) 20 2 (some 37)) 20 3 (some 41)) 20 4 (some 45)) 20 5 (some 49)) 20 6 (some 21)))) 1 rfl ?_
  refine wp_blk (pc' := 64) (L' := [some (.ref 19), some (.ref 25), some (.int 8)]) (st' := [.ref 25, .int 7, .ref 20]) (h' := ((76, 1769), zS, (zui I 19 1 7), (zup (zup (zup (zup (zup (zup (zup (zPP (zPr 1)) 20 0 (some 29)) 20 1 (some 33)) 20 2 (some 37)) 20 3 (some 41)) 20 4 (some 45)) 20 5 (some 49)) 20 6 (some 21)))) 1 rfl ?_
  refine wp_blk (pc' := 65) (L' := [some (.ref 19), some (.ref 25), some (.int 8)]) (st' := []) (h' := ((76, 1769), zS, (zui I 19 1 7), (zup (zup (zup (zup (zup (zup (zup (zup (zPP (zPr 1)) 20 0 (some 29)) 20 1 (some 33)) 20 2 (some 37)) 20 3 (some 41)) 20 4 (some 45)) 20 5 (some 49)) 20 6 (some 21)) 20 7 (some 25)))) 1 rfl ?_
  exact wp_end rfl rfl ⟨rfl, by rw [zH, ← zrot_1]⟩
set_option maxRecDepth 100000 in
theorem sp_drop_2 {X : Nat × (Nat → Int32)} (I : Nat → Nat → Int32) : Wf X 67 [some (.ref 19), none, none] (zH I (zPr 2)) none (zH (zui I 19 1 7) (zPr 3)) := by
  unfold Wf
  refine wp_blk (pc' := 1) (L' := [some (.ref 19), none, none]) (st' := [.ref 19]) (h' := zH I (zPr 2)) 1 rfl ?_
  refine wp_blk (pc' := 2) (L' := [some (.ref 19), none, none]) (st' := [.int 0, .ref 19]) (h' := zH I (zPr 2)) 1 rfl ?_
  refine wp_callf (d := 68) (as := [.ref 19, .int 0]) (rest := []) (Ld := [some (.ref 19), some (.int 0)]) (pc' := 5) (st' := [.ref 29]) (r := some (.ref 29)) (h1 := zH I (zPr 2)) rfl rfl rfl rfl rfl rfl rfl rfl rfl (sp_at19_2_0 (X := X) I) ?_
  refine wp_blk (pc' := 6) (L' := [some (.ref 19), some (.ref 29), none]) (st' := []) (h' := zH I (zPr 2)) 1 rfl ?_
  refine wp_blk (pc' := 7) (L' := [some (.ref 19), some (.ref 29), none]) (st' := [.int 1]) (h' := zH I (zPr 2)) 1 rfl ?_
  refine wp_blk (pc' := 8) (L' := [some (.ref 19), some (.ref 29), some (.int 1)]) (st' := []) (h' := zH I (zPr 2)) 1 rfl ?_
  refine wp_blk (pc' := 9) (L' := [some (.ref 19), some (.ref 29), some (.int 1)]) (st' := [.int 1]) (h' := zH I (zPr 2)) 1 rfl ?_
  refine wp_blk (pc' := 10) (L' := [some (.ref 19), some (.ref 29), some (.int 1)]) (st' := [.ref 19, .int 1]) (h' := zH I (zPr 2)) 1 rfl ?_
  refine wp_blk (pc' := 13) (L' := [some (.ref 19), some (.ref 29), some (.int 1)]) (st' := [.ref 20, .int 1]) (h' := zH I (zPr 2)) 1 rfl ?_
  refine wp_blk (pc' := 14) (L' := [some (.ref 19), some (.ref 29), some (.int 1)]) (st' := [.int 8, .int 1]) (h' := zH I (zPr 2)) 1 rfl ?_
  refine wp_blk (pc' := 17) (L' := [some (.ref 19), some (.ref 29), some (.int 1)]) (st' := []) (h' := zH I (zPr 2)) 1 rfl ?_
  refine wp_blk (pc' := 18) (L' := [some (.ref 19), some (.ref 29), some (.int 1)]) (st' := [.ref 19]) (h' := zH I (zPr 2)) 1 rfl ?_
  refine wp_blk (pc' := 21) (L' := [some (.ref 19), some (.ref 29), some (.int 1)]) (st' := [.ref 20]) (h' := zH I (zPr 2)) 1 rfl ?_
  refine wp_blk (pc' := 22) (L' := [some (.ref 19), some (.ref 29), some (.int 1)]) (st' := [.int 1, .ref 20]) (h' := zH I (zPr 2)) 1 rfl ?_
  refine wp_blk (pc' := 23) (L' := [some (.ref 19), some (.ref 29), some (.int 1)]) (st' := [.int 1, .int 1, .ref 20]) (h' := zH I (zPr 2)) 1 rfl ?_
  refine wp_blk (pc' := 24) (L' := [some (.ref 19), some (.ref 29), some (.int 1)]) (st' := [.int 0, .ref 20]) (h' := zH I (zPr 2)) 1 rfl ?_
  refine wp_blk (pc' := 25) (L' := [some (.ref 19), some (.ref 29), some (.int 1)]) (st' := [.ref 19, .int 0, .ref 20]) (h' := zH I (zPr 2)) 1 rfl ?_
  refine wp_blk (pc' := 28) (L' := [some (.ref 19), some (.ref 29), some (.int 1)]) (st' := [.ref 20, .int 0, .ref 20]) (h' := zH I (zPr 2)) 1 rfl ?_
  refine wp_blk (pc' := 29) (L' := [some (.ref 19), some (.ref 29), some (.int 1)]) (st' := [.int 1, .ref 20, .int 0, .ref 20]) (h' := zH I (zPr 2)) 1 rfl ?_
  refine wp_blk (pc' := 30) (L' := [some (.ref 19), some (.ref 29), some (.int 1)]) (st' := [.ref 33, .int 0, .ref 20]) (h' := zH I (zPr 2)) 1 rfl ?_
  refine wp_blk (pc' := 31) (L' := [some (.ref 19), some (.ref 29), some (.int 1)]) (st' := []) (h' := ((76, 1769), zS, I, (zup (zPP (zPr 2)) 20 0 (some 33)))) 1 rfl ?_
  refine wp_blk (pc' := 34) (L' := [some (.ref 19), some (.ref 29), some (.int 2)]) (st' := []) (h' := ((76, 1769), zS, I, (zup (zPP (zPr 2)) 20 0 (some 33)))) 1 rfl ?_
  refine wp_blk (pc' := 8) (L' := [some (.ref 19), some (.ref 29), some (.int 2)]) (st' := []) (h' := ((76, 1769), zS, I, (zup (zPP (zPr 2)) 20 0 (some 33)))) 1 rfl ?_
  refine wp_blk (pc' := 9) (L' := [some (.ref 19), some (.ref 29), some (.int 2)]) (st' := [.int 2]) (h' := ((76, 1769), zS, I, (zup (zPP (zPr 2)) 20 0 (some 33)))) 1 rfl ?_
  refine wp_blk (pc' := 10) (L' := [some (.ref 19), some (.ref 29), some (.int 2)]) (st' := [.ref 19, .int 2]) (h' := ((76, 1769), zS, I, (zup (zPP (zPr 2)) 20 0 (some 33)))) 1 rfl ?_
  refine wp_blk (pc' := 13) (L' := [some (.ref 19), some (.ref 29), some (.int 2)]) (st' := [.ref 20, .int 2]) (h' := ((76, 1769), zS, I, (zup (zPP (zPr 2)) 20 0 (some 33)))) 1 rfl ?_
  refine wp_blk (pc' := 14) (L' := [some (.ref 19), some (.ref 29), some (.int 2)]) (st' := [.int 8, .int 2]) (h' := ((76, 1769), zS, I, (zup (zPP (zPr 2)) 20 0 (some 33)))) 1 rfl ?_
  refine wp_blk (pc' := 17) (L' := [some (.ref 19), some (.ref 29), some (.int 2)]) (st' := []) (h' := ((76, 1769), zS, I, (zup (zPP (zPr 2)) 20 0 (some 33)))) 1 rfl ?_
  refine wp_blk (pc' := 18) (L' := [some (.ref 19), some (.ref 29), some (.int 2)]) (st' := [.ref 19]) (h' := ((76, 1769), zS, I, (zup (zPP (zPr 2)) 20 0 (some 33)))) 1 rfl ?_
  refine wp_blk (pc' := 21) (L' := [some (.ref 19), some (.ref 29), some (.int 2)]) (st' := [.ref 20]) (h' := ((76, 1769), zS, I, (zup (zPP (zPr 2)) 20 0 (some 33)))) 1 rfl ?_
  refine wp_blk (pc' := 22) (L' := [some (.ref 19), some (.ref 29), some (.int 2)]) (st' := [.int 2, .ref 20]) (h' := ((76, 1769), zS, I, (zup (zPP (zPr 2)) 20 0 (some 33)))) 1 rfl ?_
  refine wp_blk (pc' := 23) (L' := [some (.ref 19), some (.ref 29), some (.int 2)]) (st' := [.int 1, .int 2, .ref 20]) (h' := ((76, 1769), zS, I, (zup (zPP (zPr 2)) 20 0 (some 33)))) 1 rfl ?_
  refine wp_blk (pc' := 24) (L' := [some (.ref 19), some (.ref 29), some (.int 2)]) (st' := [.int 1, .ref 20]) (h' := ((76, 1769), zS, I, (zup (zPP (zPr 2)) 20 0 (some 33)))) 1 rfl ?_
  refine wp_blk (pc' := 25) (L' := [some (.ref 19), some (.ref 29), some (.int 2)]) (st' := [.ref 19, .int 1, .ref 20]) (h' := ((76, 1769), zS, I, (zup (zPP (zPr 2)) 20 0 (some 33)))) 1 rfl ?_
  refine wp_blk (pc' := 28) (L' := [some (.ref 19), some (.ref 29), some (.int 2)]) (st' := [.ref 20, .int 1, .ref 20]) (h' := ((76, 1769), zS, I, (zup (zPP (zPr 2)) 20 0 (some 33)))) 1 rfl ?_
  refine wp_blk (pc' := 29) (L' := [some (.ref 19), some (.ref 29), some (.int 2)]) (st' := [.int 2, .ref 20, .int 1, .ref 20]) (h' := ((76, 1769), zS, I, (zup (zPP (zPr 2)) 20 0 (some 33)))) 1 rfl ?_
  refine wp_blk (pc' := 30) (L' := [some (.ref 19), some (.ref 29), some (.int 2)]) (st' := [.ref 37, .int 1, .ref 20]) (h' := ((76, 1769), zS, I, (zup (zPP (zPr 2)) 20 0 (some 33)))) 1 rfl ?_
  refine wp_blk (pc' := 31) (L' := [some (.ref 19), some (.ref 29), some (.int 2)]) (st' := []) (h' := ((76, 1769), zS, I, (zup (zup (zPP (zPr 2)) 20 0 (some 33)) 20 1 (some 37)))) 1 rfl ?_
  refine wp_blk (pc' := 34) (L' := [some (.ref 19), some (.ref 29), some (.int 3)]) (st' := []) (h' := ((76, 1769), zS, I, (zup (zup (zPP (zPr 2)) 20 0 (some 33)) 20 1 (some 37)))) 1 rfl ?_
  refine wp_blk (pc' := 8) (L' := [some (.ref 19), some (.ref 29), some (.int 3)]) (st' := []) (h' := ((76, 1769), zS, I, (zup (zup (zPP (zPr 2)) 20 0 (some 33)) 20 1 (some 37)))) 1 rfl ?_
  refine wp_blk (pc' := 9) (L' := [some (.ref 19), some (.ref 29), some (.int 3)]) (st' := [.int 3]) (h' := ((76, 1769), zS, I, (zup (zup (zPP (zPr 2)) 20 0 (some 33)) 20 1 (some 37)))) 1 rfl ?_
  refine wp_blk (pc' := 10) (L' := [some (.ref 19), some (.ref 29), some (.int 3)]) (st' := [.ref 19, .int 3]) (h' := ((76, 1769), zS, I, (zup (zup (zPP (zPr 2)) 20 0 (some 33)) 20 1 (some 37)))) 1 rfl ?_
  refine wp_blk (pc' := 13) (L' := [some (.ref 19), some (.ref 29), some (.int 3)]) (st' := [.ref 20, .int 3]) (h' := ((76, 1769), zS, I, (zup (zup (zPP (zPr 2)) 20 0 (some 33)) 20 1 (some 37)))) 1 rfl ?_
  refine wp_blk (pc' := 14) (L' := [some (.ref 19), some (.ref 29), some (.int 3)]) (st' := [.int 8, .int 3]) (h' := ((76, 1769), zS, I, (zup (zup (zPP (zPr 2)) 20 0 (some 33)) 20 1 (some 37)))) 1 rfl ?_
  refine wp_blk (pc' := 17) (L' := [some (.ref 19), some (.ref 29), some (.int 3)]) (st' := []) (h' := ((76, 1769), zS, I, (zup (zup (zPP (zPr 2)) 20 0 (some 33)) 20 1 (some 37)))) 1 rfl ?_
  refine wp_blk (pc' := 18) (L' := [some (.ref 19), some (.ref 29), some (.int 3)]) (st' := [.ref 19]) (h' := ((76, 1769), zS, I, (zup (zup (zPP (zPr 2)) 20 0 (some 33)) 20 1 (some 37)))) 1 rfl ?_
  refine wp_blk (pc' := 21) (L' := [some (.ref 19), some (.ref 29), some (.int 3)]) (st' := [.ref 20]) (h' := ((76, 1769), zS, I, (zup (zup (zPP (zPr 2)) 20 0 (some 33)) 20 1 (some 37)))) 1 rfl ?_
  refine wp_blk (pc' := 22) (L' := [some (.ref 19), some (.ref 29), some (.int 3)]) (st' := [.int 3, .ref 20]) (h' := ((76, 1769), zS, I, (zup (zup (zPP (zPr 2)) 20 0 (some 33)) 20 1 (some 37)))) 1 rfl ?_
  refine wp_blk (pc' := 23) (L' := [some (.ref 19), some (.ref 29), some (.int 3)]) (st' := [.int 1, .int 3, .ref 20]) (h' := ((76, 1769), zS, I, (zup (zup (zPP (zPr 2)) 20 0 (some 33)) 20 1 (some 37)))) 1 rfl ?_
  refine wp_blk (pc' := 24) (L' := [some (.ref 19), some (.ref 29), some (.int 3)]) (st' := [.int 2, .ref 20]) (h' := ((76, 1769), zS, I, (zup (zup (zPP (zPr 2)) 20 0 (some 33)) 20 1 (some 37)))) 1 rfl ?_
  refine wp_blk (pc' := 25) (L' := [some (.ref 19), some (.ref 29), some (.int 3)]) (st' := [.ref 19, .int 2, .ref 20]) (h' := ((76, 1769), zS, I, (zup (zup (zPP (zPr 2)) 20 0 (some 33)) 20 1 (some 37)))) 1 rfl ?_
  refine wp_blk (pc' := 28) (L' := [some (.ref 19), some (.ref 29), some (.int 3)]) (st' := [.ref 20, .int 2, .ref 20]) (h' := ((76, 1769), zS, I, (zup (zup (zPP (zPr 2)) 20 0 (some 33)) 20 1 (some 37)))) 1 rfl ?_
  refine wp_blk (pc' := 29) (L' := [some (.ref 19), some (.ref 29), some (.int 3)]) (st' := [.int 3, .ref 20, .int 2, .ref 20]) (h' := ((76, 1769), zS, I, (zup (zup (zPP (zPr 2)) 20 0 (some 33)) 20 1 (some 37)))) 1 rfl ?_
  refine wp_blk (pc' := 30) (L' := [some (.ref 19), some (.ref 29), some (.int 3)]) (st' := [.ref 41, .int 2, .ref 20]) (h' := ((76, 1769), zS, I, (zup (zup (zPP (zPr 2)) 20 0 (some 33)) 20 1 (some 37)))) 1 rfl ?_
  refine wp_blk (pc' := 31) (L' := [some (.ref 19), some (.ref 29), some (.int 3)]) (st' := []) (h' := ((76, 1769), zS, I, (zup (zup (zup (zPP (zPr 2)) 20 0 (some 33)) 20 1 (some 37)) 20 2 (some 41)))) 1 rfl ?_
  refine wp_blk (pc' := 34) (L' := [some (.ref 19), some (.ref 29), some (.int 4)]) (st' := []) (h' := ((76, 1769), zS, I, (zup (zup (zup (zPP (zPr 2)) 20 0 (some 33)) 20 1 (some 37)) 20 2 (some 41)))) 1 rfl ?_
  refine wp_blk (pc' := 8) (L' := [some (.ref 19), some (.ref 29), some (.int 4)]) (st' := []) (h' := ((76, 1769), zS, I, (zup (zup (zup (zPP (zPr 2)) 20 0 (some 33)) 20 1 (some 37)) 20 2 (some 41)))) 1 rfl ?_
  refine wp_blk (pc' := 9) (L' := [some (.ref 19), some (.ref 29), some (.int 4)]) (st' := [.int 4]) (h' := ((76, 1769), zS, I, (zup (zup (zup (zPP (zPr 2)) 20 0 (some 33)) 20 1 (some 37)) 20 2 (some 41)))) 1 rfl ?_
  refine wp_blk (pc' := 10) (L' := [some (.ref 19), some (.ref 29), some (.int 4)]) (st' := [.ref 19, .int 4]) (h' := ((76, 1769), zS, I, (zup (zup (zup (zPP (zPr 2)) 20 0 (some 33)) 20 1 (some 37)) 20 2 (some 41)))) 1 rfl ?_
  refine wp_blk (pc' := 13) (L' := [some (.ref 19), some (.ref 29), some (.int 4)]) (st' := [.ref 20, .int 4]) (h' := ((76, 1769), zS, I, (zup (zup (zup (zPP (zPr 2)) 20 0 (some 33)) 20 1 (some 37)) 20 2 (some 41)))) 1 rfl ?_
  refine wp_blk (pc' := 14) (L' := [some (.ref 19), some (.ref 29), some (.int 4)]) (st' := [.int 8, .int 4]) (h' := ((76, 1769), zS, I, (zup (zup (zup (zPP (zPr 2)) 20 0 (some 33)) 20 1 (some 37)) 20 2 (some 41)))) 1 rfl ?_
  refine wp_blk (pc' := 17) (L' := [some (.ref 19), some (.ref 29), some (.int 4)]) (st' := []) (h' := ((76, 1769), zS, I, (zup (zup (zup (zPP (zPr 2)) 20 0 (some 33)) 20 1 (some 37)) 20 2 (some 41)))) 1 rfl ?_
  refine wp_blk (pc' := 18) (L' := [some (.ref 19), some (.ref 29), some (.int 4)]) (st' := [.ref 19]) (h' := ((76, 1769), zS, I, (zup (zup (zup (zPP (zPr 2)) 20 0 (some 33)) 20 1 (some 37)) 20 2 (some 41)))) 1 rfl ?_
  refine wp_blk (pc' := 21) (L' := [some (.ref 19), some (.ref 29), some (.int 4)]) (st' := [.ref 20]) (h' := ((76, 1769), zS, I, (zup (zup (zup (zPP (zPr 2)) 20 0 (some 33)) 20 1 (some 37)) 20 2 (some 41)))) 1 rfl ?_
  refine wp_blk (pc' := 22) (L' := [some (.ref 19), some (.ref 29), some (.int 4)]) (st' := [.int 4, .ref 20]) (h' := ((76, 1769), zS, I, (zup (zup (zup (zPP (zPr 2)) 20 0 (some 33)) 20 1 (some 37)) 20 2 (some 41)))) 1 rfl ?_
  refine wp_blk (pc' := 23) (L' := [some (.ref 19), some (.ref 29), some (.int 4)]) (st' := [.int 1, .int 4, .ref 20]) (h' := ((76, 1769), zS, I, (zup (zup (zup (zPP (zPr 2)) 20 0 (some 33)) 20 1 (some 37)) 20 2 (some 41)))) 1 rfl ?_
  refine wp_blk (pc' := 24) (L' := [some (.ref 19), some (.ref 29), some (.int 4)]) (st' := [.int 3, .ref 20]) (h' := ((76, 1769), zS, I, (zup (zup (zup (zPP (zPr 2)) 20 0 (some 33)) 20 1 (some 37)) 20 2 (some 41)))) 1 rfl ?_
  refine wp_blk (pc' := 25) (L' := [some (.ref 19), some (.ref 29), some (.int 4)]) (st' := [.ref 19, .int 3, .ref 20]) (h' := ((76, 1769), zS, I, (zup (zup (zup (zPP (zPr 2)) 20 0 (some 33)) 20 1 (some 37)) 20 2 (some 41)))) 1 rfl ?_
  refine wp_blk (pc' := 28) (L' := [some (.ref 19), some (.ref 29), some (.int 4)]) (st' := [.ref 20, .int 3, .ref 20]) (h' := ((76, 1769), zS, I, (zup (zup (zup (zPP (zPr 2)) 20 0 (some 33)) 20 1 (some 37)) 20 2 (some 41)))) 1 rfl ?_
  refine wp_blk (pc' := 29) (L' := [some (.ref 19), some (.ref 29), some (.int 4)]) (st' := [.int 4, .ref 20, .int 3, .ref 20]) (h' := ((76, 1769), zS, I, (zup (zup (zup (zPP (zPr 2)) 20 0 (some 33)) 20 1 (some 37)) 20 2 (some 41)))) 1 rfl ?_
  refine wp_blk (pc' := 30) (L' := [some (.ref 19), some (.ref 29), some (.int 4)]) (st' := [.ref 45, .int 3, .ref 20]) (h' := ((76, 1769), zS, I, (zup (zup (zup (zPP (zPr 2)) 20 0 (some 33)) 20 1 (some 37)) 20 2 (some 41)))) 1 rfl ?_
  refine wp_blk (pc' := 31) (L' := [some (.ref 19), some (.ref 29), some (.int 4)]) (st' := []) (h' := ((76, 1769), zS, I, (zup (zup (zup (zup (zPP (zPr 2)) 20 0 (some 33)) 20 1 (some 37)) 20 2 (some 41)) 20 3 (some 45)))) 1 rfl ?_
  refine wp_blk (pc' := 34) (L' := [some (.ref 19), some (.ref 29), some (.int 5)]) (st' := []) (h' := ((76, 1769), zS, I, (zup (zup (zup (zup (zPP (zPr 2)) 20 0 (some 33)) 20 1 (some 37)) 20 2 (some 41)) 20 3 (some 45)))) 1 rfl ?_
  refine wp_blk (pc' := 8) (L' := [some (.ref 19), some (.ref 29), some (.int 5)]) (st' := []) (h' := ((76, 1769), zS, I, (zup (zup (zup (zup (zPP (zPr 2)) 20 0 (some 33)) 20 1 (some 37)) 20 2 (some 41)) 20 3 (some 45)))) 1 rfl ?_
  refine wp_blk (pc' := 9) (L' := [some (.ref 19), some (.ref 29), some (.int 5)]) (st' := [.int 5]) (h' := ((76, 1769), zS, I, (zup (zup (zup (zup (zPP (zPr 2)) 20 0 (some 33)) 20 1 (some 37)) 20 2 (some 41)) 20 3 (some 45)))) 1 rfl ?_
  refine wp_blk (pc' := 10) (L' := [some (.ref 19), some (.ref 29), some (.int 5)]) (st' := [.ref 19, .int 5]) (h' := ((76, 1769), zS, I, (zup (zup (zup (zup (zPP (zPr 2)) 20 0 (some 33)) 20 1 (some 37)) 20 2 (some 41)) 20 3 (some 45)))) 1 rfl ?_
  refine wp_blk (pc' := 13) (L' := [some (.ref 19), some (.ref 29), some (.int 5)]) (st' := [.ref 20, .int 5]) (h' := ((76, 1769), zS, I, (zup (zup (zup (zup (zPP (zPr 2)) 20 0 (some 33)) 20 1 (some 37)) 20 2 (some 41)) 20 3 (some 45)))) 1 rfl ?_
  refine wp_blk (pc' := 14) (L' := [some (.ref 19), some (.ref 29), some (.int 5)]) (st' := [.int 8, .int 5]) (h' := ((76, 1769), zS, I, (zup (zup (zup (zup (zPP (zPr 2)) 20 0 (some 33)) 20 1 (some 37)) 20 2 (some 41)) 20 3 (some 45)))) 1 rfl ?_
  refine wp_blk (pc' := 17) (L' := [some (.ref 19), some (.ref 29), some (.int 5)]) (st' := []) (h' := ((76, 1769), zS, I, (zup (zup (zup (zup (zPP (zPr 2)) 20 0 (some 33)) 20 1 (some 37)) 20 2 (some 41)) 20 3 (some 45)))) 1 rfl ?_
  refine wp_blk (pc' := 18) (L' := [some (.ref 19), some (.ref 29), some (.int 5)]) (st' := [.ref 19]) (h' := ((76, 1769), zS, I, (zup (zup (zup (zup (zPP (zPr 2)) 20 0 (some 33)) 20 1 (some 37)) 20 2 (some 41)) 20 3 (some 45)))) 1 rfl ?_
  refine wp_blk (pc' := 21) (L' := [some (.ref 19), some (.ref 29), some (.int 5)]) (st' := [.ref 20]) (h' := ((76, 1769), zS, I, (zup (zup (zup (zup (zPP (zPr 2)) 20 0 (some 33)) 20 1 (some 37)) 20 2 (some 41)) 20 3 (some 45)))) 1 rfl ?_
  refine wp_blk (pc' := 22) (L' := [some (.ref 19), some (.ref 29), some (.int 5)]) (st' := [.int 5, .ref 20]) (h' := ((76, 1769), zS, I, (zup (zup (zup (zup (zPP (zPr 2)) 20 0 (some 33)) 20 1 (some 37)) 20 2 (some 41)) 20 3 (some 45)))) 1 rfl ?_
  refine wp_blk (pc' := 23) (L' := [some (.ref 19), some (.ref 29), some (.int 5)]) (st' := [.int 1, .int 5, .ref 20]) (h' := ((76, 1769), zS, I, (zup (zup (zup (zup (zPP (zPr 2)) 20 0 (some 33)) 20 1 (some 37)) 20 2 (some 41)) 20 3 (some 45)))) 1 rfl ?_
  refine wp_blk (pc' := 24) (L' := [some (.ref 19), some (.ref 29), some (.int 5)]) (st' := [.int 4, .ref 20]) (h' := ((76, 1769), zS, I, (zup (zup (zup (zup (zPP (zPr 2)) 20 0 (some 33)) 20 1 (some 37)) 20 2 (some 41)) 20 3 (some 45)))) 1 rfl ?_
  refine wp_blk (pc' := 25) (L' := [some (.ref 19), some (.ref 29), some (.int 5)]) (st' := [.ref 19, .int 4, .ref 20]) (h' := ((76, 1769), zS, I, (zup (zup (zup (zup (zPP (zPr 2)) 20 0 (some 33)) 20 1 (some 37)) 20 2 (some 41)) 20 3 (some 45)))) 1 rfl ?_
  refine wp_blk (pc' := 28) (L' := [some (.ref 19), some (.ref 29), some (.int 5)]) (st' := [.ref 20, .int 4, .ref 20]) (h' := ((76, 1769), zS, I, (zup (zup (zup (zup (zPP (zPr 2)) 20 0 (some 33)) 20 1 (some 37)) 20 2 (some 41)) 20 3 (some 45)))) 1 rfl ?_
  refine wp_blk (pc' := 29) (L' := [some (.ref 19), some (.ref 29), some (.int 5)]) (st' := [.int 5, .ref 20, .int 4, .ref 20]) (h' := ((76, 1769), zS, I, (zup (zup (zup (zup (zPP (zPr 2)) 20 0 (some 33)) 20 1 (some 37)) 20 2 (some 41)) 20 3 (some 45)))) 1 rfl ?_
  refine wp_blk (pc' := 30) (L' := [some (.ref 19), some (.ref 29), some (.int 5)]) (st' := [.ref 49, .int 4, .ref 20]) (h' := ((76, 1769), zS, I, (zup (zup (zup (zup (zPP (zPr 2)) 20 0 (some 33)) 20 1 (some 37)) 20 2 (some 41)) 20 3 (some 45)))) 1 rfl ?_
  refine wp_blk (pc' := 31) (L' := [some (.ref 19), some (.ref 29), some (.int 5)]) (st' := []) (h' := ((76, 1769), zS, I, (zup (zup (zup (zup (zup (zPP (zPr 2)) 20 0 (some 33)) 20 1 (some 37)) 20 2 (some 41)) 20 3 (some 45)) 20 4 (some 49)))) 1 rfl ?_
  refine wp_blk (pc' := 34) (L' := [some (.ref 19), some (.ref 29), some (.int 6)]) (st' := []) (h' := ((76, 1769), zS, I, (zup (zup (zup (zup (zup (zPP (zPr 2)) 20 0 (some 33)) 20 1 (some 37)) 20 2 (some 41)) 20 3 (some 45)) 20 4 (some 49)))) 1 rfl ?_
  refine wp_blk (pc' := 8) (L' := [some (.ref 19), some (.ref 29), some (.int 6)]) (st' := []) (h' := ((76, 1769), zS, I, (zup (zup (zup (zup (zup (zPP (zPr 2)) 20 0 (some 33)) 20 1 (some 37)) 20 2 (some 41)) 20 3 (some 45)) 20 4 (some 49)))) 1 rfl ?_
  refine wp_blk (pc' := 9) (L' := [some (.ref 19), some (.ref 29), some (.int 6)]) (st' := [.int 6]) (h' := ((76, 1769), zS, I, (zup (zup (zup (zup (zup (zPP (zPr 2)) 20 0 (some 33)) 20 1 (some 37)) 20 2 (some 41)) 20 3 (some 45)) 20 4 (some 49)))) 1 rfl ?_
  refine wp_blk (pc' := 10) (L' := [some (.ref 19), some (.ref 29), some (.int 6)]) (st' := [.ref 19, .int 6]) (h' := ((76, 1769), zS, I, (zup (zup (zup (zup (zup (zPP (zPr 2)) 20 0 (some 33)) 20 1 (some 37)) 20 2 (some 41)) 20 3 (some 45)) 20 4 (some 49)))) 1 rfl ?_
  refine wp_blk (pc' := 13) (L' := [some (.ref 19), some (.ref 29), some (.int 6)]) (st' := [.ref 20, .int 6]) (h' := ((76, 1769), zS, I, (zup (zup (zup (zup (zup (zPP (zPr 2)) 20 0 (some 33)) 20 1 (some 37)) 20 2 (some 41)) 20 3 (some 45)) 20 4 (some 49)))) 1 rfl ?_
  refine wp_blk (pc' := 14) (L' := [some (.ref 19), some (.ref 29), some (.int 6)]) (st' := [.int 8, .int 6]) (h' := ((76, 1769), zS, I, (zup (zup (zup (zup (zup (zPP (zPr 2)) 20 0 (some 33)) 20 1 (some 37)) 20 2 (some 41)) 20 3 (some 45)) 20 4 (some 49)))) 1 rfl ?_
  refine wp_blk (pc' := 17) (L' := [some (.ref 19), some (.ref 29), some (.int 6)]) (st' := []) (h' := ((76, 1769), zS, I, (zup (zup (zup (zup (zup (zPP (zPr 2)) 20 0 (some 33)) 20 1 (some 37)) 20 2 (some 41)) 20 3 (some 45)) 20 4 (some 49)))) 1 rfl ?_
  refine wp_blk (pc' := 18) (L' := [some (.ref 19), some (.ref 29), some (.int 6)]) (st' := [.ref 19]) (h' := ((76, 1769), zS, I, (zup (zup (zup (zup (zup (zPP (zPr 2)) 20 0 (some 33)) 20 1 (some 37)) 20 2 (some 41)) 20 3 (some 45)) 20 4 (some 49)))) 1 rfl ?_
  refine wp_blk (pc' := 21) (L' := [some (.ref 19), some (.ref 29), some (.int 6)]) (st' := [.ref 20]) (h' := ((76, 1769), zS, I, (zup (zup (zup (zup (zup (zPP (zPr 2)) 20 0 (some 33)) 20 1 (some 37)) 20 2 (some 41)) 20 3 (some 45)) 20 4 (some 49)))) 1 rfl ?_
  refine wp_blk (pc' := 22) (L' := [some (.ref 19), some (.ref 29), some (.int 6)]) (st' := [.int 6, .ref 20]) (h' := ((76, 1769), zS, I, (zup (zup (zup (zup (zup (zPP (zPr 2)) 20 0 (some 33)) 20 1 (some 37)) 20 2 (some 41)) 20 3 (some 45)) 20 4 (some 49)))) 1 rfl ?_
  refine wp_blk (pc' := 23) (L' := [some (.ref 19), some (.ref 29), some (.int 6)]) (st' := [.int 1, .int 6, .ref 20]) (h' := ((76, 1769), zS, I, (zup (zup (zup (zup (zup (zPP (zPr 2)) 20 0 (some 33)) 20 1 (some 37)) 20 2 (some 41)) 20 3 (some 45)) 20 4 (some 49)))) 1 rfl ?_
  refine wp_blk (pc' := 24) (L' := [some (.ref 19), some (.ref 29), some (.int 6)]) (st' := [.int 5, .ref 20]) (h' := ((76, 1769), zS, I, (zup (zup (zup (zup (zup (zPP (zPr 2)) 20 0 (some 33)) 20 1 (some 37)) 20 2 (some 41)) 20 3 (some 45)) 20 4 (some 49)))) 1 rfl ?_
  refine wp_blk (pc' := 25) (L' := [some (.ref 19), some (.ref 29), some (.int 6)]) (st' := [.ref 19, .int 5, .ref 20]) (h' := ((76, 1769), zS, I, (zup (zup (zup (zup (zup (zPP (zPr 2)) 20 0 (some 33)) 20 1 (some 37)) 20 2 (some 41)) 20 3 (some 45)) 20 4 (some 49)))) 1 rfl ?_
  refine wp_blk (pc' := 28) (L' := [some (.ref 19), some (.ref 29), some (.int 6)]) (st' := [.ref 20, .int 5, .ref 20]) (h' := ((76, 1769), zS, I, (zup (zup (zup (zup (zup (zPP (zPr 2)) 20 0 (some 33)) 20 1 (some 37)) 20 2 (some 41)) 20 3 (some 45)) 20 4 (some 49)))) 1 rfl ?_
  refine wp_blk (pc' := 29) (L' := [some (.ref 19), some (.ref 29), some (.int 6)]) (st' := [.int 6, .ref 20, .int 5, .ref 20]) (h' := ((76, 1769), zS, I, (zup (zup (zup (zup (zup (zPP (zPr 2)) 20 0 (some 33)) 20 1 (some 37)) 20 2 (some 41)) 20 3 (some 45)) 20 4 (some 49)))) 1 rfl ?_
  refine wp_blk (pc' := 30) (L' := [some (.ref 19), some (.ref 29), some (.int 6)]) (st' := [.ref 21, .int 5, .ref 20]) (h' := ((76, 1769), zS, I, (zup (zup (zup (zup (zup (zPP (zPr 2)) 20 0 (some 33)) 20 1 (some 37)) 20 2 (some 41)) 20 3 (some 45)) 20 4 (some 49)))) 1 rfl ?_
  refine wp_blk (pc' := 31) (L' := [some (.ref 19), some (.ref 29), some (.int 6)]) (st' := []) (h' := ((76, 1769), zS, I, (zup (zup (zup (zup (zup (zup (zPP (zPr 2)) 20 0 (some 33)) 20 1 (some 37)) 20 2 (some 41)) 20 3 (some 45)) 20 4 (some 49)) 20 5 (some 21)))) 1 rfl ?_
  refine wp_blk (pc' := 34) (L' := [some (.ref 19), some (.ref 29), some (.int 7)]) (st' := []) (h' := ((76, 1769), zS, I, (zup (zup (zup (zup (zup (zup (zPP (zPr 2)) 20 0 (some 33)) 20 1 (some 37)) 20 2 (some 41)) 20 3 (some 45)) 20 4 (some 49)) 20 5 (some 21)))) 1 rfl ?_
  refine wp_blk (pc' := 8) (L' := [some (.ref 19), some (.ref 29), some (.int 7)]) (st' := []) (h' := ((76, 1769), zS, I, (zup (zup (zup (zup (zup (zup (zPP (zPr 2)) 20 0 (some 33)) 20 1 (some 37)) 20 2 (some 41)) 20 3 (some 45)) 20 4 (some 49)) 20 5 (some 21)))) 1 rfl ?_
  refine wp_blk (pc' := 9) (L' := [some (.ref 19), some (.ref 29), some (.int 7)]) (st' := [.int 7]) (h' := ((76, 1769), zS, I, (zup (zup (zup (zup (zup (zup (zPP (zPr 2)) 20 0 (some 33)) 20 1 (some 37)) 20 2 (some 41)) 20 3 (some 45)) 20 4 (some 49)) 20 5 (some 21)))) 1 rfl ?_
  refine wp_blk (pc' := 10) (L' := [some (.ref 19), some (.ref 29), some (.int 7)]) (st' := [.ref 19, .int 7]) (h' := ((76, 1769), zS, I, (zup (zup (zup (zup (zup (zup (zPP (zPr 2)) 20 0 (some 33)) 20 1 (some 37)) 20 2 (some 41)) 20 3 (some 45)) 20 4 (some 49)) 20 5 (some 21)))) 1 rfl ?_
  refine wp_blk (pc' := 13) (L' := [some (.ref 19), some (.ref 29), some (.int 7)]) (st' := [.ref 20, .int 7]) (h' := ((76, 1769), zS, I, (zup (zup (zup (zup (zup (zup (zPP (zPr 2)) 20 0 (some 33)) 20 1 (some 37)) 20 2 (some 41)) 20 3 (some 45)) 20 4 (some 49)) 20 5 (some 21)))) 1 rfl ?_
  refine wp_blk (pc' := 14) (L' := [some (.ref 19), some (.ref 29), some (.int 7)]) (st' := [.int 8, .int 7]) (h' := ((76, 1769), zS, I, (zup (zup (zup (zup (zup (zup (zPP (zPr 2)) 20 0 (some 33)) 20 1 (some 37)) 20 2 (some 41)) 20 3 (some 45)) 20 4 (some 49)) 20 5 (some 21)))) 1 rfl ?_
  refine wp_blk (pc' := 17) (L' := [some (.ref 19), some (.ref 29), some (.int 7)]) (st' := []) (h' := ((76, 1769), zS, I, (zup (zup (zup (zup (zup (zup (zPP (zPr 2)) 20 0 (some 33)) 20 1 (some 37)) 20 2 (some 41)) 20 3 (some 45)) 20 4 (some 49)) 20 5 (some 21)))) 1 rfl ?_
  refine wp_blk (pc' := 18) (L' := [some (.ref 19), some (.ref 29), some (.int 7)]) (st' := [.ref 19]) (h' := ((76, 1769), zS, I, (zup (zup (zup (zup (zup (zup (zPP (zPr 2)) 20 0 (some 33)) 20 1 (some 37)) 20 2 (some 41)) 20 3 (some 45)) 20 4 (some 49)) 20 5 (some 21)))) 1 rfl ?_
  refine wp_blk (pc' := 21) (L' := [some (.ref 19), some (.ref 29), some (.int 7)]) (st' := [.ref 20]) (h' := ((76, 1769), zS, I, (zup (zup (zup (zup (zup (zup (zPP (zPr 2)) 20 0 (some 33)) 20 1 (some 37)) 20 2 (some 41)) 20 3 (some 45)) 20 4 (some 49)) 20 5 (some 21)))) 1 rfl ?_
  refine wp_blk (pc' := 22) (L' := [some (.ref 19), some (.ref 29), some (.int 7)]) (st' := [.int 7, .ref 20]) (h' := ((76, 1769), zS, I, (zup (zup (zup (zup (zup (zup (zPP (zPr 2)) 20 0 (some 33)) 20 1 (some 37)) 20 2 (some 41)) 20 3 (some 45)) 20 4 (some 49)) 20 5 (some 21)))) 1 rfl ?_
  refine wp_blk (pc' := 23) (L' := [some (.ref 19), some (.ref 29), some (.int 7)]) (st' := [.int 1, .int 7, .ref 20]) (h' := ((76, 1769), zS, I, (zup (zup (zup (zup (zup (zup (zPP (zPr 2)) 20 0 (some 33)) 20 1 (some 37)) 20 2 (some 41)) 20 3 (some 45)) 20 4 (some 49)) 20 5 (some 21)))) 1 rfl ?_
  refine wp_blk (pc' := 24) (L' := [some (.ref 19), some (.ref 29), some (.int 7)]) (st' := [.int 6, .ref 20]) (h' := ((76, 1769), zS, I, (zup (zup (zup (zup (zup (zup (zPP (zPr 2)) 20 0 (some 33)) 20 1 (some 37)) 20 2 (some 41)) 20 3 (some 45)) 20 4 (some 49)) 20 5 (some 21)))) 1 rfl ?_
  refine wp_blk (pc' := 25) (L' := [some (.ref 19), some (.ref 29), some (.int 7)]) (st' := [.ref 19, .int 6, .ref 20]) (h' := ((76, 1769), zS, I, (zup (zup (zup (zup (zup (zup (zPP (zPr 2)) 20 0 (some 33)) 20 1 (some 37)) 20 2 (some 41)) 20 3 (some 45)) 20 4 (some 49)) 20 5 (some 21)))) 1 rfl ?_
  refine wp_blk (pc' := 28) (L' := [some (.ref 19), some (.ref 29), some (.int 7)]) (st' := [.ref 20, .int 6, .ref 20]) (h' := ((76, 1769), zS, I, (zup (zup (zup (zup (zup (zup (zPP (zPr 2)) 20 0 (some 33)) 20 1 (some 37)) 20 2 (some 41)) 20 3 (some 45)) 20 4 (some 49)) 20 5 (some 21)))) 1 rfl ?_
  refine wp_blk (pc' := 29) (L' := [some (.ref 19), some (.ref 29), some (.int 7)]) (st' := [.int 7, .ref 20, .int 6, .ref 20]) (h' := ((76, 1769), zS, I, (zup (zup (zup (zup (zup (zup (zPP (zPr 2)) 20 0 (some 33)) 20 1 (some 37)) 20 2 (some 41)) 20 3 (some 45)) 20 4 (some 49)) 20 5 (some 21)))) 1 rfl ?_
  refine wp_blk (pc' := 30) (L' := [some (.ref 19), some (.ref 29), some (.int 7)]) (st' := [.ref 25, .int 6, .ref 20]) (h' := ((76, 1769), zS, I, (zup (zup (zup (zup (zup (zup (zPP (zPr 2)) 20 0 (some 33)) 20 1 (some 37)) 20 2 (some 41)) 20 3 (some 45)) 20 4 (some 49)) 20 5 (some 21)))) 1 rfl ?_
  refine wp_blk (pc' := 31) (L' := [some (.ref 19), some (.ref 29), some (.int 7)]) (st' := []) (h' := ((76, 1769), zS, I, (zup (zup (zup (zup (zup (zup (zup (zPP (zPr 2)) 20 0 (some 33)) 20 1 (some 37)) 20 2 (some 41)) 20 3 (some 45)) 20 4 (some 49)) 20 5 (some 21)) 20 6 (some 25)))) 1 rfl ?_
  refine wp_blk (pc' := 34) (L' := [some (.ref 19), some (.ref 29), some (.int 8)]) (st' := []) (h' := ((76, 1769), zS, I, (zup (zup (zup (zup (zup (zup (zup (zPP (zPr 2)) 20 0 (some 33)) 20 1 (some 37)) 20 2 (some 41)) 20 3 (some 45)) 20 4 (some 49)) 20 5 (some 21)) 20 6 (some 25)))) 1 rfl ?_
  refine wp_blk (pc' := 8) (L' := [some (.ref 19), some (.ref 29), some (.int 8)]) (st' := []) (h' := ((76, 1769), zS, I, (zup (zup (zup (zup (zup (zup (zup (zPP (zPr 2)) 20 0 (some 33)) 20 1 (some 37)) 20 2 (some 41)) 20 3 (some 45)) 20 4 (some 49)) 20 5 (some 21)) 20 6 (some 25)))) 1 rfl ?_
  refine wp_blk (pc' := 9) (L' := [some (.ref 19), some (.ref 29), some (.int 8)]) (st' := [.int 8]) (h' := ((76, 1769), zS, I, (zup (zup (zup (zup (zup (zup (zup (zPP (zPr 2)) 20 0 (some 33)) 20 1 (some 37)) 20 2 (some 41)) 20 3 (some 45)) 20 4 (some 49)) 20 5 (some 21)) 20 6 (some 25)))) 1 rfl ?_
  refine wp_blk (pc' := 10) (L' := [some (.ref 19), some (.ref 29), some (.int 8)]) (st' := [.ref 19, .int 8]) (h' := ((76, 1769), zS, I, (zup (zup (zup (zup (zup (zup (zup (zPP (zPr 2)) 20 0 (some 33)) 20 1 (some 37)) 20 2 (some 41)) 20 3 (some 45)) 20 4 (some 49)) 20 5 (some 21)) 20 6 (some 25)))) 1 rfl ?_
  refine wp_blk (pc' := 13) (L' := [some (.ref 19), some (.ref 29), some (.int 8)]) (st' := [.ref 20, .int 8]) (h' := ((76, 1769), zS, I, (zup (zup (zup (zup (zup (zup (zup (zPP (zPr 2)) 20 0 (some 33)) 20 1 (some 37)) 20 2 (some 41)) 20 3 (some 45)) 20 4 (some 49)) 20 5 (some 21)) 20 6 (some 25)))) 1 rfl ?_
  refine wp_blk (pc' := 14) (L' := [some (.ref 19), some (.ref 29), some (.int 8)]) (st' := [.int 8, .int 8]) (h' := ((76, 1769), zS, I, (zup (zup (zup (zup (zup (zup (zup (zPP (zPr 2)) 20 0 (some 33)) 20 1 (some 37)) 20 2 (some 41)) 20 3 (some 45)) 20 4 (some 49)) 20 5 (some 21)) 20 6 (some 25)))) 1 rfl ?_
  refine wp_blk (pc' := 37) (L' := [some (.ref 19), some (.ref 29), some (.int 8)]) (st' := []) (h' := ((76, 1769), zS, I, (zup (zup (zup (zup (zup (zup (zup (zPP (zPr 2)) 20 0 (some 33)) 20 1 (some 37)) 20 2 (some 41)) 20 3 (some 45)) 20 4 (some 49)) 20 5 (some 21)) 20 6 (some 25)))) 1 rfl ?_
  refine wp_blk (pc' := 38) (L' := [some (.ref 19), some (.ref 29), some (.int 8)]) (st' := [.ref 19]) (h' := ((76, 1769), zS, I, (zup (zup (zup (zup (zup (zup (zup (zPP (zPr 2)) 20 0 (some 33)) 20 1 (some 37)) 20 2 (some 41)) 20 3 (some 45)) 20 4 (some 49)) 20 5 (some 21)) 20 6 (some 25)))) 1 rfl ?_
  refine wp_blk (pc' := 39) (L' := [some (.ref 19), some (.ref 29), some (.int 8)]) (st' := [.ref 19, .ref 19]) (h' := ((76, 1769), zS, I, (zup (zup (zup (zup (zup (zup (zup (zPP (zPr 2)) 20 0 (some 33)) 20 1 (some 37)) 20 2 (some 41)) 20 3 (some 45)) 20 4 (some 49)) 20 5 (some 21)) 20 6 (some 25)))) 1 rfl ?_
  refine wp_blk (pc' := 42) (L' := [some (.ref 19), some (.ref 29), some (.int 8)]) (st' := [.ref 20, .ref 19]) (h' := ((76, 1769), zS, I, (zup (zup (zup (zup (zup (zup (zup (zPP (zPr 2)) 20 0 (some 33)) 20 1 (some 37)) 20 2 (some 41)) 20 3 (some 45)) 20 4 (some 49)) 20 5 (some 21)) 20 6 (some 25)))) 1 rfl ?_
  refine wp_blk (pc' := 43) (L' := [some (.ref 19), some (.ref 29), some (.int 8)]) (st' := [.int 8, .ref 19]) (h' := ((76, 1769), zS, I, (zup (zup (zup (zup (zup (zup (zup (zPP (zPr 2)) 20 0 (some 33)) 20 1 (some 37)) 20 2 (some 41)) 20 3 (some 45)) 20 4 (some 49)) 20 5 (some 21)) 20 6 (some 25)))) 1 rfl ?_
  refine wp_blk (pc' := 44) (L' := [some (.ref 19), some (.ref 29), some (.int 8)]) (st' := [.int 1, .int 8, .ref 19]) (h' := ((76, 1769), zS, I, (zup (zup (zup (zup (zup (zup (zup (zPP (zPr 2)) 20 0 (some 33)) 20 1 (some 37)) 20 2 (some 41)) 20 3 (some 45)) 20 4 (some 49)) 20 5 (some 21)) 20 6 (some 25)))) 1 rfl ?_
  refine wp_blk (pc' := 45) (L' := [some (.ref 19), some (.ref 29), some (.int 8)]) (st' := [.int 7, .ref 19]) (h' := ((76, 1769), zS, I, (zup (zup (zup (zup (zup (zup (zup (zPP (zPr 2)) 20 0 (some 33)) 20 1 (some 37)) 20 2 (some 41)) 20 3 (some 45)) 20 4 (some 49)) 20 5 (some 21)) 20 6 (some 25)))) 1 rfl ?_
  refine wp_blk (pc' := 48) (L' := [some (.ref 19), some (.ref 29), some (.int 8)]) (st' := []) (h' := ((76, 1769), zS, (zui I 19 1 7), (zup (zup (zup (zup (zup (zup (zup (zPP (zPr 2)) 20 0 (some 33)) 20 1 (some 37)) 20 2 (some 41)) 20 3 (some 45)) 20 4 (some 49)) 20 5 (some 21)) 20 6 (some 25)))) 1 rfl ?_
  refine wp_blk (pc' := 49) (L' := [some (.ref 19), some (.ref 29), some (.int 8)]) (st' := [.ref 19]) (h' := ((76, 1769), zS, (zui I 19 1 7), (zup (zup (zup (zup (zup (zup (zup (zPP (zPr 2)) 20 0 (some 33)) 20 1 (some 37)) 20 2 (some 41)) 20 3 (some 45)) 20 4 (some 49)) 20 5 (some 21)) 20 6 (some 25)))) 1 rfl ?_
  refine wp_blk (pc' := 52) (L' := [some (.ref 19), some (.ref 29), some (.int 8)]) (st' := [.int 7]) (h' := ((76, 1769), zS, (zui I 19 1 7), (zup (zup (zup (zup (zup (zup (zup (zPP (zPr 2)) 20 0 (some 33)) 20 1 (some 37)) 20 2 (some 41)) 20 3 (some 45)) 20 4 (some 49)) 20 5 (some 21)) 20 6 (some 25)))) 1 rfl ?_
  refine wp_blk (pc' := 55) (L' := [some (.ref 19), some (.ref 29), some (.int 8)]) (st' := []) (h' := ((76, 1769), zS, (zui I 19 1 7), (zup (zup (zup (zup (zup (zup (zup (zPP (zPr 2)) 20 0 (some 33)) 20 1 (some 37)) 20 2 (some 41)) 20 3 (some 45)) 20 4 (some 49)) 20 5 (some 21)) 20 6 (some 25)))) 1 rfl ?_
  refine wp_blk (pc' := 56) (L' := [some (.ref 19), some (.ref 29), some (.int 8)]) (st' := [.ref 19]) (h' := ((76, 1769), zS, (zui I 19 1 7), (zup (zup (zup (zup (zup (zup (zup (zPP (zPr 2)) 20 0 (some 33)) 20 1 (some 37)) 20 2 (some 41)) 20 3 (some 45)) 20 4 (some 49)) 20 5 (some 21)) 20 6 (some 25)))) 1 rfl ?_
  refine wp_blk (pc' := 59) (L' := [some (.ref 19), some (.ref 29), some (.int 8)]) (st' := [.ref 20]) (h' := ((76, 1769), zS, (zui I 19 1 7), (zup (zup (zup (zup (zup (zup (zup (zPP (zPr 2)) 20 0 (some 33)) 20 1 (some 37)) 20 2 (some 41)) 20 3 (some 45)) 20 4 (some 49)) 20 5 (some 21)) 20 6 (some 25)))) 1 rfl ?_
  refine wp_blk (pc' := 60) (L' := [some (.ref 19), some (.ref 29), some (.int 8)]) (st' := [.ref 19, .ref 20]) (h' := ((76, 1769), zS, (zui I 19 1 7), (zup (zup (zup (zup (zup (zup (zup (zPP (zPr 2)) 20 0 (some 33)) 20 1 (some 37)) 20 2 (some 41)) 20 3 (some 45)) 20 4 (some 49)) 20 5 (some 21)) 20 6 (some 25)))) 1 rfl ?_
  refine wp_blk (pc' := 63) (L' := [some (.ref 19), some (.ref 29), some (.int 8)]) (st' := [.int 7, .ref 20]) (h' := ((76, 1769), zS, (zui I 19 1 7), (zup (zup (zup (zup (zup (zup (zup (zPP (zPr 2)) 20 0 (some 33)) 20 1 (some 37)) 20 2 (some 41)) 20 3 (some 45)) 20 4 (some 49)) 20 5 (some 21)) 20 6 (some 25)))) 1 rfl ?_
  refine wp_blk (pc' := 64) (L' := [some (.ref 19), some (.ref 29), some (.int 8)]) (st' := [.ref 29, .int 7, .ref 20]) (h' := ((76, 1769), zS, (zui I 19 1 7), (zup (zup (zup (zup (zup (zup (zup (zPP (zPr 2)) 20 0 (some 33)) 20 1 (some 37)) 20 2 (some 41)) 20 3 (some 45)) 20 4 (some 49)) 20 5 (some 21)) 20 6 (some 25)))) 1 rfl ?_
  refine wp_blk (pc' := 65) (L' := [some (.ref 19), some (.ref 29), some (.int 8)]) (st' := []) (h' := ((76, 1769), zS, (zui I 19 1 7), (zup (zup (zup (zup (zup (zup (zup (zup (zPP (zPr 2)) 20 0 (some 33)) 20 1 (some 37)) 20 2 (some 41)) 20 3 (some 45)) 20 4 (some 49)) 20 5 (some 21)) 20 6 (some 25)) 20 7 (some 29)))) 1 rfl ?_
  exact wp_end rfl rfl ⟨rfl, by rw [zH, ← zrot_2]⟩
set_option maxRecDepth 100000 in
theorem sp_drop_3 {X : Nat × (Nat → Int32)} (I : Nat → Nat → Int32) : Wf X 67 [some (.ref 19), none, none] (zH I (zPr 3)) none (zH (zui I 19 1 7) (zPr 4)) := by
  unfold Wf
  refine wp_blk (pc' := 1) (L' := [some (.ref 19), none, none]) (st' := [.ref 19]) (h' := zH I (zPr 3)) 1 rfl ?_
  refine wp_blk (pc' := 2) (L' := [some (.ref 19), none, none]) (st' := [.int 0, .ref 19]) (h' := zH I (zPr 3)) 1 rfl ?_
  refine wp_callf (d := 68) (as := [.ref 19, .int 0]) (rest := []) (Ld := [some (.ref 19), some (.int 0)]) (pc' := 5) (st' := [.ref 33]) (r := some (.ref 33)) (h1 := zH I (zPr 3)) rfl rfl rfl rfl rfl rfl rfl rfl rfl (sp_at19_3_0 (X := X) I) ?_
  refine wp_blk (pc' := 6) (L' := [some (.ref 19), some (.ref 33), none]) (st' := []) (h' := zH I (zPr 3)) 1 rfl ?_
  refine wp_blk (pc' := 7) (L' := [some (.ref 19), some (.ref 33), none]) (st' := [.int 1]) (h' := zH I (zPr 3)) 1 rfl ?_
  refine wp_blk (pc' := 8) (L' := [some (.ref 19), some (.ref 33), some (.int 1)]) (st' := []) (h' := zH I (zPr 3)) 1 rfl ?_
  refine wp_blk (pc' := 9) (L' := [some (.ref 19), some (.ref 33), some (.int 1)]) (st' := [.int 1]) (h' := zH I (zPr 3)) 1 rfl ?_
  refine wp_blk (pc' := 10) (L' := [some (.ref 19), some (.ref 33), some (.int 1)]) (st' := [.ref 19, .int 1]) (h' := zH I (zPr 3)) 1 rfl ?_
  refine wp_blk (pc' := 13) (L' := [some (.ref 19), some (.ref 33), some (.int 1)]) (st' := [.ref 20, .int 1]) (h' := zH I (zPr 3)) 1 rfl ?_
  refine wp_blk (pc' := 14) (L' := [some (.ref 19), some (.ref 33), some (.int 1)]) (st' := [.int 8, .int 1]) (h' := zH I (zPr 3)) 1 rfl ?_
  refine wp_blk (pc' := 17) (L' := [some (.ref 19), some (.ref 33), some (.int 1)]) (st' := []) (h' := zH I (zPr 3)) 1 rfl ?_
  refine wp_blk (pc' := 18) (L' := [some (.ref 19), some (.ref 33), some (.int 1)]) (st' := [.ref 19]) (h' := zH I (zPr 3)) 1 rfl ?_
  refine wp_blk (pc' := 21) (L' := [some (.ref 19), some (.ref 33), some (.int 1)]) (st' := [.ref 20]) (h' := zH I (zPr 3)) 1 rfl ?_
  refine wp_blk (pc' := 22) (L' := [some (.ref 19), some (.ref 33), some (.int 1)]) (st' := [.int 1, .ref 20]) (h' := zH I (zPr 3)) 1 rfl ?_
  refine wp_blk (pc' := 23) (L' := [some (.ref 19), some (.ref 33), some (.int 1)]) (st' := [.int 1, .int 1, .ref 20]) (h' := zH I (zPr 3)) 1 rfl ?_
  refine wp_blk (pc' := 24) (L' := [some (.ref 19), some (.ref 33), some (.int 1)]) (st' := [.int 0, .ref 20]) (h' := zH I (zPr 3)) 1 rfl ?_
  refine wp_blk (pc' := 25) (L' := [some (.ref 19), some (.ref 33), some (.int 1)]) (st' := [.ref 19, .int 0, .ref 20]) (h' := zH I (zPr 3)) 1 rfl ?_
  refine wp_blk (pc' := 28) (L' := [some (.ref 19), some (.ref 33), some (.int 1)]) (st' := [.ref 20, .int 0, .ref 20]) (h' := zH I (zPr 3)) 1 rfl ?_
  refine wp_blk (pc' := 29) (L' := [some (.ref 19), some (.ref 33), some (.int 1)]) (st' := [.int 1, .ref 20, .int 0, .ref 20]) (h' := zH I (zPr 3)) 1 rfl ?_
  refine wp_blk (pc' := 30) (L' := [some (.ref 19), some (.ref 33), some (.int 1)]) (st' := [.ref 37, .int 0, .ref 20]) (h' := zH I (zPr 3)) 1 rfl ?_
  refine wp_blk (pc' := 31) (L' := [some (.ref 19), some (.ref 33), some (.int 1)]) (st' := []) (h' := ((76, 1769), zS, I, (zup (zPP (zPr 3)) 20 0 (some 37)))) 1 rfl ?_
  refine wp_blk (pc' := 34) (L' := [some (.ref 19), some (.ref 33), some (.int 2)]) (st' := []) (h' := ((76, 1769), zS, I, (zup (zPP (zPr 3)) 20 0 (some 37)))) 1 rfl ?_
  refine wp_blk (pc' := 8) (L' := [some (.ref 19), some (.ref 33), some (.int 2)]) (st' := []) (h' := ((76, 1769), zS, I, (zup (zPP (zPr 3)) 20 0 (some 37)))) 1 rfl ?_
  refine wp_blk (pc' := 9) (L' := [some (.ref 19), some (.ref 33), some (.int 2)]) (st' := [.int 2]) (h' := ((76, 1769), zS, I, (zup (zPP (zPr 3)) 20 0 (some 37)))) 1 rfl ?_
  refine wp_blk (pc' := 10) (L' := [some (.ref 19), some (.ref 33), some (.int 2)]) (st' := [.ref 19, .int 2]) (h' := ((76, 1769), zS, I, (zup (zPP (zPr 3)) 20 0 (some 37)))) 1 rfl ?_
  refine wp_blk (pc' := 13) (L' := [some (.ref 19), some (.ref 33), some (.int 2)]) (st' := [.ref 20, .int 2]) (h' := ((76, 1769), zS, I, (zup (zPP (zPr 3)) 20 0 (some 37)))) 1 rfl ?_
  refine wp_blk (pc' := 14) (L' := [some (.ref 19), some (.ref 33), some (.int 2)]) (st' := [.int 8, .int 2]) (h' := ((76, 1769), zS, I, (zup (zPP (zPr 3)) 20 0 (some 37)))) 1 rfl ?_
  refine wp_blk (pc' := 17) (L' := [some (.ref 19), some (.ref 33), some (.int 2)]) (st' := []) (h' := ((76, 1769), zS, I, (zup (zPP (zPr 3)) 20 0 (some 37)))) 1 rfl ?_
  refine wp_blk (pc' := 18) (L' := [some (.ref 19), some (.ref 33), some (.int 2)]) (st' := [.ref 19]) (h' := ((76, 1769), zS, I, (zup (zPP (zPr 3)) 20 0 (some 37)))) 1 rfl ?_
  refine wp_blk (pc' := 21) (L' := [some (.ref 19), some (.ref 33), some (.int 2)]) (st' := [.ref 20]) (h' := ((76, 1769), zS, I, (zup (zPP (zPr 3)) 20 0 (some 37)))) 1 rfl ?_
  refine wp_blk (pc' := 22) (L' := [some (.ref 19), some (.ref 33), some (.int 2)]) (st' := [.int 2, .ref 20]) (h' := ((76, 1769), zS, I, (zup (zPP (zPr 3)) 20 0 (some 37)))) 1 rfl ?_
  refine wp_blk (pc' := 23) (L' := [some (.ref 19), some (.ref 33), some (.int 2)]) (st' := [.int 1, .int 2, .ref 20]) (h' := ((76, 1769), zS, I, (zup (zPP (zPr 3)) 20 0 (some 37)))) 1 rfl ?_
  refine wp_blk (pc' := 24) (L' := [some (.ref 19), some (.ref 33), some (.int 2)]) (st' := [.int 1, .ref 20]) (h' := ((76, 1769), zS, I, (zup (zPP (zPr 3)) 20 0 (some 37)))) 1 rfl ?_
  refine wp_blk (pc' := 25) (L' := [some (.ref 19), some (.ref 33), some (.int 2)]) (st' := [.ref 19, .int 1, .ref 20]) (h' := ((76, 1769), zS, I, (zup (zPP (zPr 3)) 20 0 (some 37)))) 1 rfl ?_
  refine wp_blk (pc' := 28) (L' := [some (.ref 19), some (.ref 33), some (.int 2)]) (st' := [.ref 20, .int 1, .ref 20]) (h' := ((76, 1769), zS, I, (zup (zPP (zPr 3)) 20 0 (some 37)))) 1 rfl ?_
  refine wp_blk (pc' := 29) (L' := [some (.ref 19), some (.ref 33), some (.int 2)]) (st' := [.int 2, .ref 20, .int 1, .ref 20]) (h' := ((76, 1769), zS, I, (zup (zPP (zPr 3)) 20 0 (some 37)))) 1 rfl ?_
  refine wp_blk (pc' := 30) (L' := [some (.ref 19), some (.ref 33), some (.int 2)]) (st' := [.ref 41, .int 1, .ref 20]) (h' := ((76, 1769), zS, I, (zup (zPP (zPr 3)) 20 0 (some 37)))) 1 rfl ?_
  refine wp_blk (pc' := 31) (L' := [some (.ref 19), some (.ref 33), some (.int 2)]) (st' := []) (h' := ((76, 1769), zS, I, (zup (zup (zPP (zPr 3)) 20 0 (some 37)) 20 1 (some 41)))) 1 rfl ?_
  refine wp_blk (pc' := 34) (L' := [some (.ref 19), some (.ref 33), some (.int 3)]) (st' := []) (h' := ((76, 1769), zS, I, (zup (zup (zPP (zPr 3)) 20 0 (some 37)) 20 1 (some 41)))) 1 rfl ?_
  refine wp_blk (pc' := 8) (L' := [some (.ref 19), some (.ref 33), some (.int 3)]) (st' := []) (h' := ((76, 1769), zS, I, (zup (zup (zPP (zPr 3)) 20 0 (some 37)) 20 1 (some 41)))) 1 rfl ?_
  refine wp_blk (pc' := 9) (L' := [some (.ref 19), some (.ref 33), some (.int 3)]) (st' := [.int 3]) (h' := ((76, 1769), zS, I, (zup (zup (zPP (zPr 3)) 20 0 (some 37)) 20 1 (some 41)))) 1 rfl ?_
  refine wp_blk (pc' := 10) (L' := [some (.ref 19), some (.ref 33), some (.int 3)]) (st' := [.ref 19, .int 3]) (h' := ((76, 1769), zS, I, (zup (zup (zPP (zPr 3)) 20 0 (some 37)) 20 1 (some 41)))) 1 rfl ?_
  refine wp_blk (pc' := 13) (L' := [some (.ref 19), some (.ref 33), some (.int 3)]) (st' := [.ref 20, .int 3]) (h' := ((76, 1769), zS, I, (zup (zup (zPP (zPr 3)) 20 0 (some 37)) 20 1 (some 41)))) 1 rfl ?_
  refine wp_blk (pc' := 14) (L' := [some (.ref 19), some (.ref 33), some (.int 3)]) (st' := [.int 8, .int 3]) (h' := ((76, 1769), zS, I, (zup (zup (zPP (zPr 3)) 20 0 (some 37)) 20 1 (some 41)))) 1 rfl ?_
  refine wp_blk (pc' := 17) (L' := [some (.ref 19), some (.ref 33), some (.int 3)]) (st' := []) (h' := ((76, 1769), zS, I, (zup (zup (zPP (zPr 3)) 20 0 (some 37)) 20 1 (some 41)))) 1 rfl ?_
  refine wp_blk (pc' := 18) (L' := [some (.ref 19), some (.ref 33), some (.int 3)]) (st' := [.ref 19]) (h' := ((76, 1769), zS, I, (zup (zup (zPP (zPr 3)) 20 0 (some 37)) 20 1 (some 41)))) 1 rfl ?_
  refine wp_blk (pc' := 21) (L' := [some (.ref 19), some (.ref 33), some (.int 3)]) (st' := [.ref 20]) (h' := ((76, 1769), zS, I, (zup (zup (zPP (zPr 3)) 20 0 (some 37)) 20 1 (some 41)))) 1 rfl ?_
  refine wp_blk (pc' := 22) (L' := [some (.ref 19), some (.ref 33), some (.int 3)]) (st' := [.int 3, .ref 20]) (h' := ((76, 1769), zS, I, (zup (zup (zPP (zPr 3)) 20 0 (some 37)) 20 1 (some 41)))) 1 rfl ?_
  refine wp_blk (pc' := 23) (L' := [some (.ref 19), some (.ref 33), some (.int 3)]) (st' := [.int 1, .int 3, .ref 20]) (h' := ((76, 1769), zS, I, (zup (zup (zPP (zPr 3)) 20 0 (some 37)) 20 1 (some 41)))) 1 rfl ?_
  refine wp_blk (pc' := 24) (L' := [some (.ref 19), some (.ref 33), some (.int 3)]) (st' := [.int 2, .ref 20]) (h' := ((76, 1769), zS, I, (zup (zup (zPP (zPr 3)) 20 0 (some 37)) 20 1 (some 41)))) 1 rfl ?_
  refine wp_blk (pc' := 25) (L' := [some (.ref 19), some (.ref 33), some (.int 3)]) (st' := [.ref 19, .int 2, .ref 20]) (h' := ((76, 1769), zS, I, (zup (zup (zPP (zPr 3)) 20 0 (some 37)) 20 1 (some 41)))) 1 rfl ?_
  refine wp_blk (pc' := 28) (L' := [some (.ref 19), some (.ref 33), some (.int 3)]) (st' := [.ref 20, .int 2, .ref 20]) (h' := ((76, 1769), zS, I, (zup (zup (zPP (zPr 3)) 20 0 (some 37)) 20 1 (some 41)))) 1 rfl ?_
  refine wp_blk (pc' := 29) (L' := [some (.ref 19), some (.ref 33), some (.int 3)]) (st' := [.int 3, .ref 20, .int 2, .ref 20]) (h' := ((76, 1769), zS, I, (zup (zup (zPP (zPr 3)) 20 0 (some 37)) 20 1 (some 41)))) 1 rfl ?_
  refine wp_blk (pc' := 30) (L' := [some (.ref 19), some (.ref 33), some (.int 3)]) (st' := [.ref 45, .int 2, .ref 20]) (h' := ((76, 1769), zS, I, (zup (zup (zPP (zPr 3)) 20 0 (some 37)) 20 1 (some 41)))) 1 rfl ?_
  refine wp_blk (pc' := 31) (L' := [some (.ref 19), some (.ref 33), some (.int 3)]) (st' := []) (h' := ((76, 1769), zS, I, (zup (zup (zup (zPP (zPr 3)) 20 0 (some 37)) 20 1 (some 41)) 20 2 (some 45)))) 1 rfl ?_
  refine wp_blk (pc' := 34) (L' := [some (.ref 19), some (.ref 33), some (.int 4)]) (st' := []) (h' := ((76, 1769), zS, I, (zup (zup (zup (zPP (zPr 3)) 20 0 (some 37)) 20 1 (some 41)) 20 2 (some 45)))) 1 rfl ?_
  refine wp_blk (pc' := 8) (L' := [some (.ref 19), some (.ref 33), some (.int 4)]) (st' := []) (h' := ((76, 1769), zS, I, (zup (zup (zup (zPP (zPr 3)) 20 0 (some 37)) 20 1 (some 41)) 20 2 (some 45)))) 1 rfl ?_
  refine wp_blk (pc' := 9) (L' := [some (.ref 19), some (.ref 33), some (.int 4)]) (st' := [.int 4]) (h' := ((76, 1769), zS, I, (zup (zup (zup (zPP (zPr 3)) 20 0 (some 37)) 20 1 (some 41)) 20 2 (some 45)))) 1 rfl ?_
  refine wp_blk (pc' := 10) (L' := [some (.ref 19), some (.ref 33), some (.int 4)]) (st' := [.ref 19, .int 4]) (h' := ((76, 1769), zS, I, (zup (zup (zup (zPP (zPr 3)) 20 0 (some 37)) 20 1 (some 41)) 20 2 (some 45)))) 1 rfl ?_
  refine wp_blk (pc' := 13) (L' := [some (.ref 19), some (.ref 33), some (.int 4)]) (st' := [.ref 20, .int 4]) (h' := ((76, 1769), zS, I, (zup (zup (zup (zPP (zPr 3)) 20 0 (some 37)) 20 1 (some 41)) 20 2 (some 45)))) 1 rfl ?_
  refine wp_blk (pc' := 14) (L' := [some (.ref 19), some (.ref 33), some (.int 4)]) (st' := [.int 8, .int 4]) (h' := ((76, 1769), zS, I, (zup (zup (zup (zPP (zPr 3)) 20 0 (some 37)) 20 1 (some 41)) 20 2 (some 45)))) 1 rfl ?_
  refine wp_blk (pc' := 17) (L' := [some (.ref 19), some (.ref 33), some (.int 4)]) (st' := []) (h' := ((76, 1769), zS, I, (zup (zup (zup (zPP (zPr 3)) 20 0 (some 37)) 20 1 (some 41)) 20 2 (some 45)))) 1 rfl ?_
  refine wp_blk (pc' := 18) (L' := [some (.ref 19), some (.ref 33), some (.int 4)]) (st' := [.ref 19]) (h' := ((76, 1769), zS, I, (zup (zup (zup (zPP (zPr 3)) 20 0 (some 37)) 20 1 (some 41)) 20 2 (some 45)))) 1 rfl ?_
  refine wp_blk (pc' := 21) (L' := [some (.ref 19), some (.ref 33), some (.int 4)]) (st' := [.ref 20]) (h' := ((76, 1769), zS, I, (zup (zup (zup (zPP (zPr 3)) 20 0 (some 37)) 20 1 (some 41)) 20 2 (some 45)))) 1 rfl ?_
  refine wp_blk (pc' := 22) (L' := [some (.ref 19), some (.ref 33), some (.int 4)]) (st' := [.int 4, .ref 20]) (h' := ((76, 1769), zS, I, (zup (zup (zup (zPP (zPr 3)) 20 0 (some 37)) 20 1 (some 41)) 20 2 (some 45)))) 1 rfl ?_
  refine wp_blk (pc' := 23) (L' := [some (.ref 19), some (.ref 33), some (.int 4)]) (st' := [.int 1, .int 4, .ref 20]) (h' := ((76, 1769), zS, I, (zup (zup (zup (zPP (zPr 3)) 20 0 (some 37)) 20 1 (some 41)) 20 2 (some 45)))) 1 rfl ?_
  refine wp_blk (pc' := 24) (L' := [some (.ref 19), some (.ref 33), some (.int 4)]) (st' := [.int 3, .ref 20]) (h' := ((76, 1769), zS, I, (zup (zup (zup (zPP (zPr 3)) 20 0 (some 37)) 20 1 (some 41)) 20 2 (some 45)))) 1 rfl ?_
  refine wp_blk (pc' := 25) (L' := [some (.ref 19), some (.ref 33), some (.int 4)]) (st' := [.ref 19, .int 3, .ref 20]) (h' := ((76, 1769), zS, I, (zup (zup (zup (zPP (zPr 3)) 20 0 (some 37)) 20 1 (some 41)) 20 2 (some 45)))) 1 rfl ?_
  refine wp_blk (pc' := 28) (L' := [some (.ref 19), some (.ref 33), some (.int 4)]) (st' := [.ref 20, .int 3, .ref 20]) (h' := ((76, 1769), zS, I, (zup (zup (zup (zPP (zPr 3)) 20 0 (some 37)) 20 1 (some 41)) 20 2 (some 45)))) 1 rfl ?_
  refine wp_blk (pc' := 29) (L' := [some (.ref 19), some (.ref 33), some (.int 4)]) (st' := [.int 4, .ref 20, .int 3, .ref 20]) (h' := ((76, 1769), zS, I, (zup (zup (zup (zPP (zPr 3)) 20 0 (some 37)) 20 1 (some 41)) 20 2 (some 45)))) 1 rfl ?_
  refine wp_blk (pc' := 30) (L' := [some (.ref 19), some (.ref 33), some (.int 4)]) (st' := [.ref 49, .int 3, .ref 20]) (h' := ((76, 1769), zS, I, (zup (zup (zup (zPP (zPr 3)) 20 0 (some 37)) 20 1 (some 41)) 20 2 (some 45)))) 1 rfl ?_
  refine wp_blk (pc' := 31) (L' := [some (.ref 19), some (.ref 33), some (.int 4)]) (st' := []) (h' := ((76, 1769), zS, I, (zup (zup (zup (zup (zPP (zPr 3)) 20 0 (some 37)) 20 1 (some 41)) 20 2 (some 45)) 20 3 (some 49)))) 1 rfl ?_
  refine wp_blk (pc' := 34) (L' := [some (.ref 19), some (.ref 33), some (.int 5)]) (st' := []) (h' := ((76, 1769), zS, I, (zup (zup (zup (zup (zPP (zPr 3)) 20 0 (some 37)) 20 1 (some 41)) 20 2 (some 45)) 20 3 (some 49)))) 1 rfl ?_
  refine wp_blk (pc' := 8) (L' := [some (.ref 19), some (.ref 33), some (.int 5)]) (st' := []) (h' := ((76, 1769), zS, I, (zup (zup (zup (zup (zPP (zPr 3)) 20 0 (some 37)) 20 1 (some 41)) 20 2 (some 45)) 20 3 (some 49)))) 1 rfl ?_
  refine wp_blk (pc' := 9) (L' := [some (.ref 19), some (.ref 33), some (.int 5)]) (st' := [.int 5]) (h' := ((76, 1769), zS, I, (zup (zup (zup (zup (zPP (zPr 3)) 20 0 (some 37)) 20 1 (some 41)) 20 2 (some 45)) 20 3 (some 49)))) 1 rfl ?_
  refine wp_blk (pc' := 10) (L' := [some (.ref 19), some (.ref 33), some (.int 5)]) (st' := [.ref 19, .int 5]) (h' := ((76, 1769), zS, I, (zup (zup (zup (zup (zPP (zPr 3)) 20 0 (some 37)) 20 1 (some 41)) 20 2 (some 45)) 20 3 (some 49)))) 1 rfl ?_
  refine wp_blk (pc' := 13) (L' := [some (.ref 19), some (.ref 33), some (.int 5)]) (st' := [.ref 20, .int 5]) (h' := ((76, 1769), zS, I, (zup (zup (zup (zup (zPP (zPr 3)) 20 0 (some 37)) 20 1 (some 41)) 20 2 (some 45)) 20 3 (some 49)))) 1 rfl ?_
  refine wp_blk (pc' := 14) (L' := [some (.ref 19), some (.ref 33), some (.int 5)]) (st' := [.int 8, .int 5]) (h' := ((76, 1769), zS, I, (zup (zup (zup (zup (zPP (zPr 3)) 20 0 (some 37)) 20 1 (some 41)) 20 2 (some 45)) 20 3 (some 49)))) 1 rfl ?_
  refine wp_blk (pc' := 17) (L' := [some (.ref 19), some (.ref 33), some (.int 5)]) (st' := []) (h' := ((76, 1769), zS, I, (zup (zup (zup (zup (zPP (zPr 3)) 20 0 (some 37)) 20 1 (some 41)) 20 2 (some 45)) 20 3 (some 49)))) 1 rfl ?_
  refine wp_blk (pc' := 18) (L' := [some (.ref 19), some (.ref 33), some (.int 5)]) (st' := [.ref 19]) (h' := ((76, 1769), zS, I, (zup (zup (zup (zup (zPP (zPr 3)) 20 0 (some 37)) 20 1 (some 41)) 20 2 (some 45)) 20 3 (some 49)))) 1 rfl ?_
  refine wp_blk (pc' := 21) (L' := [some (.ref 19), some (.ref 33), some (.int 5)]) (st' := [.ref 20]) (h' := ((76, 1769), zS, I, (zup (zup (zup (zup (zPP (zPr 3)) 20 0 (some 37)) 20 1 (some 41)) 20 2 (some 45)) 20 3 (some 49)))) 1 rfl ?_
  refine wp_blk (pc' := 22) (L' := [some (.ref 19), some (.ref 33), some (.int 5)]) (st' := [.int 5, .ref 20]) (h' := ((76, 1769), zS, I, (zup (zup (zup (zup (zPP (zPr 3)) 20 0 (some 37)) 20 1 (some 41)) 20 2 (some 45)) 20 3 (some 49)))) 1 rfl ?_
  refine wp_blk (pc' := 23) (L' := [some (.ref 19), some (.ref 33), some (.int 5)]) (st' := [.int 1, .int 5, .ref 20]) (h' := ((76, 1769), zS, I, (zup (zup (zup (zup (zPP (zPr 3)) 20 0 (some 37)) 20 1 (some 41)) 20 2 (some 45)) 20 3 (some 49)))) 1 rfl ?_
  refine wp_blk (pc' := 24) (L' := [some (.ref 19), some (.ref 33), some (.int 5)]) (st' := [.int 4, .ref 20]) (h' := ((76, 1769), zS, I, (zup (zup (zup (zup (zPP (zPr 3)) 20 0 (some 37)) 20 1 (some 41)) 20 2 (some 45)) 20 3 (some 49)))) 1 rfl ?_
  refine wp_blk (pc' := 25) (L' := [some (.ref 19), some (.ref 33), some (.int 5)]) (st' := [.ref 19, .int 4, .ref 20]) (h' := ((76, 1769), zS, I, (zup (zup (zup (zup (zPP (zPr 3)) 20 0 (some 37)) 20 1 (some 41)) 20 2 (some 45)) 20 3 (some 49)))) 1 rfl ?_
  refine wp_blk (pc' := 28) (L' := [some (.ref 19), some (.ref 33), some (.int 5)]) (st' := [.ref 20, .int 4, .ref 20]) (h' := ((76, 1769), zS, I, (zup (zup (zup (zup (zPP (zPr 3)) 20 0 (some 37)) 20 1 (some 41)) 20 2 (some 45)) 20 3 (some 49)))) 1 rfl ?_
  refine wp_blk (pc' := 29) (L' := [some (.ref 19), some (.ref 33), some (.int 5)]) (st' := [.int 5, .ref 20, .int 4, .ref 20]) (h' := ((76, 1769), zS, I, (zup (zup (zup (zup (zPP (zPr 3)) 20 0 (some 37)) 20 1 (some 41)) 20 2 (some 45)) 20 3 (some 49)))) 1 rfl ?_
  refine wp_blk (pc' := 30) (L' := [some (.ref 19), some (.ref 33), some (.int 5)]) (st' := [.ref 21, .int 4, .ref 20]) (h' := ((76, 1769), zS, I, (zup (zup (zup (zup (zPP (zPr 3)) 20 0 (some 37)) 20 1 (some 41)) 20 2 (some 45)) 20 3 (some 49)))) 1 rfl ?_
  refine wp_blk (pc' := 31) (L' := [some (.ref 19), some (.ref 33), some (.int 5)]) (st' := []) (h' := ((76, 1769), zS, I, (zup (zup (zup (zup (zup (zPP (zPr 3)) 20 0 (some 37)) 20 1 (some 41)) 20 2 (some 45)) 20 3 (some 49)) 20 4 (some 21)))) 1 rfl ?_
  refine wp_blk (pc' := 34) (L' := [some (.ref 19), some (.ref 33), some (.int 6)]) (st' := []) (h' := ((76, 1769), zS, I, (zup (zup (zup (zup (zup (zPP (zPr 3)) 20 0 (some 37)) 20 1 (some 41)) 20 2 (some 45)) 20 3 (some 49)) 20 4 (some 21)))) 1 rfl ?_
  refine wp_blk (pc' := 8) (L' := [some (.ref 19), some (.ref 33), some (.int 6)]) (st' := []) (h' := ((76, 1769), zS, I, (zup (zup (zup (zup (zup (zPP (zPr 3)) 20 0 (some 37)) 20 1 (some 41)) 20 2 (some 45)) 20 3 (some 49)) 20 4 (some 21)))) 1 rfl ?_
  refine wp_blk (pc' := 9) (L' := [some (.ref 19), some (.ref 33), some (.int 6)]) (st' := [.int 6]) (h' := ((76, 1769), zS, I, (zup (zup (zup (zup (zup (zPP (zPr 3)) 20 0 (some 37)) 20 1 (some 41)) 20 2 (some 45)) 20 3 (some 49)) 20 4 (some 21)))) 1 rfl ?_
  refine wp_blk (pc' := 10) (L' := [some (.ref 19), some (.ref 33), some (.int 6)]) (st' := [.ref 19, .int 6]) (h' := ((76, 1769), zS, I, (zup (zup (zup (zup (zup (zPP (zPr 3)) 20 0 (some 37)) 20 1 (some 41)) 20 2 (some 45)) 20 3 (some 49)) 20 4 (some 21)))) 1 rfl ?_
  refine wp_blk (pc' := 13) (L' := [some (.ref 19), some (.ref 33), some (.int 6)]) (st' := [.ref 20, .int 6]) (h' := ((76, 1769), zS, I, (zup (zup (zup (zup (zup (zPP (zPr 3)) 20 0 (some 37)) 20 1 (some 41)) 20 2 (some 45)) 20 3 (some 49)) 20 4 (some 21)))) 1 rfl ?_
  refine wp_blk (pc' := 14) (L' := [some (.ref 19), some (.ref 33), some (.int 6)]) (st' := [.int 8, .int 6]) (h' := ((76, 1769), zS, I, (zup (zup (zup (zup (zup (zPP (zPr 3)) 20 0 (some 37)) 20 1 (some 41)) 20 2 (some 45)) 20 3 (some 49)) 20 4 (some 21)))) 1 rfl ?_
  refine wp_blk (pc' := 17) (L' := [some (.ref 19), some (.ref 33), some (.int 6)]) (st' := []) (h' := ((76, 1769), zS, I, (zup (zup (zup (zup (zup (zPP (zPr 3)) 20 0 (some 37)) 20 1 (some 41)) 20 2 (some 45)) 20 3 (some 49)) 20 4 (some 21)))) 1 rfl ?_
  refine wp_blk (pc' := 18) (L' := [some (.ref 19), some (.ref 33), some (.int 6)]) (st' := [.ref 19]) (h' := ((76, 1769), zS, I, (zup (zup (zup (zup (zup (zPP (zPr 3)) 20 0 (some 37)) 20 1 (some 41)) 20 2 (some 45)) 20 3 (some 49)) 20 4 (some 21)))) 1 rfl ?_
  refine wp_blk (pc' := 21) (L' := [some (.ref 19), some (.ref 33), some (.int 6)]) (st' := [.ref 20]) (h' := ((76, 1769), zS, I, (zup (zup (zup (zup (zup (zPP (zPr 3)) 20 0 (some 37)) 20 1 (some 41)) 20 2 (some 45)) 20 3 (some 49)) 20 4 (some 21)))) 1 rfl ?_
  refine wp_blk (pc' := 22) (L' := [some (.ref 19), some (.ref 33), some (.int 6)]) (st' := [.int 6, .ref 20]) (h' := ((76, 1769), zS, I, (zup (zup (zup (zup (zup (zPP (zPr 3)) 20 0 (some 37)) 20 1 (some 41)) 20 2 (some 45)) 20 3 (some 49)) 20 4 (some 21)))) 1 rfl ?_
  refine wp_blk (pc' := 23) (L' := [some (.ref 19), some (.ref 33), some (.int 6)]) (st' := [.int 1, .int 6, .ref 20]) (h' := ((76, 1769), zS, I, (zup (zup (zup (zup (zup (zPP (zPr 3)) 20 0 (some 37)) 20 1 (some 41)) 20 2 (some 45)) 20 3 (some 49)) 20 4 (some 21)))) 1 rfl ?_
  refine wp_blk (pc' := 24) (L' := [some (.ref 19), some (.ref 33), some (.int 6)]) (st' := [.int 5, .ref 20]) (h' := ((76, 1769), zS, I, (zup (zup (zup (zup (zup (zPP (zPr 3)) 20 0 (some 37)) 20 1 (some 41)) 20 2 (some 45)) 20 3 (some 49)) 20 4 (some 21)))) 1 rfl ?_
  refine wp_blk (pc' := 25) (L' := [some (.ref 19), some (.ref 33), some (.int 6)]) (st' := [.ref 19, .int 5, .ref 20]) (h' := ((76, 1769), zS, I, (zup (zup (zup (zup (zup (zPP (zPr 3)) 20 0 (some 37)) 20 1 (some 41)) 20 2 (some 45)) 20 3 (some 49)) 20 4 (some 21)))) 1 rfl ?_
  refine wp_blk (pc' := 28) (L' := [some (.ref 19), some (.ref 33), some (.int 6)]) (st' := [.ref 20, .int 5, .ref 20]) (h' := ((76, 1769), zS, I, (zup (zup (zup (zup (zup (zPP (zPr 3)) 20 0 (some 37)) 20 1 (some 41)) 20 2 (some 45)) 20 3 (some 49)) 20 4 (some 21)))) 1 rfl ?_
  refine wp_blk (pc' := 29) (L' := [some (.ref 19), some (.ref 33), some (.int 6)]) (st' := [.int 6, .ref 20, .int 5, .ref 20]) (h' := ((76, 1769), zS, I, (zup (zup (zup (zup (zup (zPP (zPr 3)) 20 0 (some 37)) 20 1 (some 41)) 20 2 (some 45)) 20 3 (some 49)) 20 4 (some 21)))) 1 rfl ?_
  refine wp_blk (pc' := 30) (L' := [some (.ref 19), some (.ref 33), some (.int 6)]) (st' := [.ref 25, .int 5, .ref 20]) (h' := ((76, 1769), zS, I, (zup (zup (zup (zup (zup (zPP (zPr 3)) 20 0 (some 37)) 20 1 (some 41)) 20 2 (some 45)) 20 3 (some 49)) 20 4 (some 21)))) 1 rfl ?_
  refine wp_blk (pc' := 31) (L' := [some (.ref 19), some (.ref 33), some (.int 6)]) (st' := []) (h' := ((76, 1769), zS, I, (zup (zup (zup (zup (zup (zup (zPP (zPr 3)) 20 0 (some 37)) 20 1 (some 41)) 20 2 (some 45)) 20 3 (some 49)) 20 4 (some 21)) 20 5 (some 25)))) 1 rfl ?_
  refine wp_blk (pc' := 34) (L' := [some (.ref 19), some (.ref 33), some (.int 7)]) (st' := []) (h' := ((76, 1769), zS, I, (zup (zup (zup (zup (zup (zup (zPP (zPr 3)) 20 0 (some 37)) 20 1 (some 41)) 20 2 (some 45)) 20 3 (some 49)) 20 4 (some 21)) 20 5 (some 25)))) 1 rfl ?_
  refine wp_blk (pc' := 8) (L' := [some (.ref 19), some (.ref 33), some (.int 7)]) (st' := []) (h' := ((76, 1769), zS, I, (zup (zup (zup (zup (zup (zup (zPP (zPr 3)) 20 0 (some 37)) 20 1 (some 41)) 20 2 (some 45)) 20 3 (some 49)) 20 4 (some 21)) 20 5 (some 25)))) 1 rfl ?_
  refine wp_blk (pc' := 9) (L' := [some (.ref 19), some (.ref 33), some (.int 7)]) (st' := [.int 7]) (h' := ((76, 1769), zS, I, (zup (zup (zup (zup (zup (zup (zPP (zPr 3)) 20 0 (some 37)) 20 1 (some 41)) 20 2 (some 45)) 20 3 (some 49)) 20 4 (some 21)) 20 5 (some 25)))) 1 rfl ?_
  refine wp_blk (pc' := 10) (L' := [some (.ref 19), some (.ref 33), some (.int 7)]) (st' := [.ref 19, .int 7]) (h' := ((76, 1769), zS, I, (zup (zup (zup (zup (zup (zup (zPP (zPr 3)) 20 0 (some 37)) 20 1 (some 41)) 20 2 (some 45)) 20 3 (some 49)) 20 4 (some 21)) 20 5 (some 25)))) 1 rfl ?_
  refine wp_blk (pc' := 13) (L' := [some (.ref 19), some (.ref 33), some (.int 7)]) (st' := [.ref 20, .int 7]) (h' := ((76, 1769), zS, I, (zup (zup (zup (zup (zup (zup (zPP (zPr 3)) 20 0 (some 37)) 20 1 (some 41)) 20 2 (some 45)) 20 3 (some 49)) 20 4 (some 21)) 20 5 (some 25)))) 1 rfl ?_
  refine wp_blk (pc' := 14) (L' := [some (.ref 19), some (.ref 33), some (.int 7)]) (st' := [.int 8, .int 7]) (h' := ((76, 1769), zS, I, (zup (zup (zup (zup (zup (zup (zPP (zPr 3)) 20 0 (some 37)) 20 1 (some 41)) 20 2 (some 45)) 20 3 (some 49)) 20 4 (some 21)) 20 5 (some 25)))) 1 rfl ?_
  refine wp_blk (pc' := 17) (L' := [some (.ref 19), some (.ref 33), some (.int 7)]) (st' := []) (h' := ((76, 1769), zS, I, (zup (zup (zup (zup (zup (zup (zPP (zPr 3)) 20 0 (some 37)) 20 1 (some 41)) 20 2 (some 45)) 20 3 (some 49)) 20 4 (some 21)) 20 5 (some 25)))) 1 rfl ?_
  refine wp_blk (pc' := 18) (L' := [some (.ref 19), some (.ref 33), some (.int 7)]) (st' := [.ref 19]) (h' := ((76, 1769), zS, I, (zup (zup (zup (zup (zup (zup (zPP (zPr 3)) 20 0 (some 37)) 20 1 (some 41)) 20 2 (some 45)) 20 3 (some 49)) 20 4 (some 21)) 20 5 (some 25)))) 1 rfl ?_
  refine wp_blk (pc' := 21) (L' := [some (.ref 19), some (.ref 33), some (.int 7)]) (st' := [.ref 20]) (h' := ((76, 1769), zS, I, (zup (zup (zup (zup (zup (zup (zPP (zPr 3)) 20 0 (some 37)) 20 1 (some 41)) 20 2 (some 45)) 20 3 (some 49)) 20 4 (some 21)) 20 5 (some 25)))) 1 rfl ?_
  refine wp_blk (pc' := 22) (L' := [some (.ref 19), some (.ref 33), some (.int 7)]) (st' := [.int 7, .ref 20]) (h' := ((76, 1769), zS, I, (zup (zup (zup (zup (zup (zup (zPP (zPr 3)) 20 0 (some 37)) 20 1 (some 41)) 20 2 (some 45)) 20 3 (some 49)) 20 4 (some 21)) 20 5 (some 25)))) 1 rfl ?_
  refine wp_blk (pc' := 23) (L' := [some (.ref 19), some (.ref 33), some (.int 7)]) (st' := [.int 1, .int 7, .ref 20]) (h' := ((76, 1769), zS, I, (zup (zup (zup (zup (zup (zup (zPP (zPr 3)) 20 0 (some 37)) 20 1 (some 41)) 20 2 (some 45)) 20 3 (some 49)) 20 4 (some 21)) 20 5 (some 25)))) 1 rfl ?_
  refine wp_blk (pc' := 24) (L' := [some (.ref 19), some (.ref 33), some (.int 7)]) (st' := [.int 6, .ref 20]) (h' := ((76, 1769), zS, I, (zup (zup (zup (zup (zup (zup (zPP (zPr 3)) 20 0 (some 37)) 20 1 (some 41)) 20 2 (some 45)) 20 3 (some 49)) 20 4 (some 21)) 20 5 (some 25)))) 1 rfl ?_
  refine wp_blk (pc' := 25) (L' := [some (.ref 19), some (.ref 33), some (.int 7)]) (st' := [.ref 19, .int 6, .ref 20]) (h' := ((76, 1769), zS, I, (zup (zup (zup (zup (zup (zup (zPP (zPr 3)) 20 0 (some 37)) 20 1 (some 41)) 20 2 (some 45)) 20 3 (some 49)) 20 4 (some 21)) 20 5 (some 25)))) 1 rfl ?_
  refine wp_blk (pc' := 28) (L' := [some (.ref 19), some (.ref 33), some (.int 7)]) (st' := [.ref 20, .int 6, .ref 20]) (h' := ((76, 1769), zS, I, (zup (zup (zup (zup (zup (zup (zPP (zPr 3)) 20 0 (some 37)) 20 1 (some 41)) 20 2 (some 45)) 20 3 (some 49)) 20 4 (some 21)) 20 5 (some 25)))) 1 rfl ?_
  refine wp_blk (pc' := 29) (L' := [some (.ref 19), some (.ref 33), some (.int 7)]) (st' := [.int 7, .ref 20, .int 6, .ref 20]) (h' := ((76, 1769), zS, I, (zup (zup (zup (zup (zup (zup (zPP (zPr 3)) 20 0 (some 37)) 20 1 (some 41)) 20 2 (some 45)) 20 3 (some 49)) 20 4 (some 21)) 20 5 (some 25)))) 1 rfl ?_
  refine wp_blk (pc' := 30) (L' := [some (.ref 19), some (.ref 33), some (.int 7)]) (st' := [.ref 29, .int 6, .ref 20]) (h' := ((76, 1769), zS, I, (zup (zup (zup (zup (zup (zup (zPP (zPr 3)) 20 0 (some 37)) 20 1 (some 41)) 20 2 (some 45)) 20 3 (some 49)) 20 4 (some 21)) 20 5 (some 25)))) 1 rfl ?_
  refine wp_blk (pc' := 31) (L' := [some (.ref 19), some (.ref 33), some (.int 7)]) (st' := []) (h' := ((76, 1769), zS, I, (zup (zup (zup (zup (zup (zup (zup (zPP (zPr 3)) 20 0 (some 37)) 20 1 (some 41)) 20 2 (some 45)) 20 3 (some 49)) 20 4 (some 21)) 20 5 (some 25)) 20 6 (some 29)))) 1 rfl ?_
  refine wp_blk (pc' := 34) (L' := [some (.ref 19), some (.ref 33), some (.int 8)]) (st' := []) (h' := ((76, 1769), zS, I, (zup (zup (zup (zup (zup (zup (zup (zPP (zPr 3)) 20 0 (some 37)) 20 1 (some 41)) 20 2 (some 45)) 20 3 (some 49)) 20 4 (some 21)) 20 5 (some 25)) 20 6 (some 29)))) 1 rfl ?_
  refine wp_blk (pc' := 8) (L' := [some (.ref 19), some (.ref 33), some (.int 8)]) (st' := []) (h' := ((76, 1769), zS, I, (zup (zup (zup (zup (zup (zup (zup (zPP (zPr 3)) 20 0 (some 37)) 20 1 (some 41)) 20 2 (some 45)) 20 3 (some 49)) 20 4 (some 21)) 20 5 (some 25)) 20 6 (some 29)))) 1 rfl ?_
  refine wp_blk (pc' := 9) (L' := [some (.ref 19), some (.ref 33), some (.int 8)]) (st' := [.int 8]) (h' := ((76, 1769), zS, I, (zup (zup (zup (zup (zup (zup (zup (zPP (zPr 3)) 20 0 (some 37)) 20 1 (some 41)) 20 2 (some 45)) 20 3 (some 49)) 20 4 (some 21)) 20 5 (some 25)) 20 6 (some 29)))) 1 rfl ?_
  refine wp_blk (pc' := 10) (L' := [some (.ref 19), some (.ref 33), some (.int 8)]) (st' := [.ref 19, .int 8]) (h' := ((76, 1769), zS, I, (zup (zup (zup (zup (zup (zup (zup (zPP (zPr 3)) 20 0 (some 37)) 20 1 (some 41)) 20 2 (some 45)) 20 3 (some 49)) 20 4 (some 21)) 20 5 (some 25)) 20 6 (some 29)))) 1 rfl ?_
  refine wp_blk (pc' := 13) (L' := [some (.ref 19), some (.ref 33), some (.int 8)]) (st' := [.ref 20, .int 8]) (h' := ((76, 1769), zS, I, (zup (zup (zup (zup (zup (zup (zup (zPP (zPr 3)) 20 0 (some 37)) 20 1 (some 41)) 20 2 (some 45)) 20 3 (some 49)) 20 4 (some 21)) 20 5 (some 25)) 20 6 (some 29)))) 1 rfl ?_
  refine wp_blk (pc' := 14) (L' := [some (.ref 19), some (.ref 33), some (.int 8)]) (st' := [.int 8, .int 8]) (h' := ((76, 1769), zS, I, (zup (zup (zup (zup (zup (zup (zup (zPP (zPr 3)) 20 0 (some 37)) 20 1 (some 41)) 20 2 (some 45)) 20 3 (some 49)) 20 4 (some 21)) 20 5 (some 25)) 20 6 (some 29)))) 1 rfl ?_
  refine wp_blk (pc' := 37) (L' := [some (.ref 19), some (.ref 33), some (.int 8)]) (st' := []) (h' := ((76, 1769), zS, I, (zup (zup (zup (zup (zup (zup (zup (zPP (zPr 3)) 20 0 (some 37)) 20 1 (some 41)) 20 2 (some 45)) 20 3 (some 49)) 20 4 (some 21)) 20 5 (some 25)) 20 6 (some 29)))) 1 rfl ?_
  refine wp_blk (pc' := 38) (L' := [some (.ref 19), some (.ref 33), some (.int 8)]) (st' := [.ref 19]) (h' := ((76, 1769), zS, I, (zup (zup (zup (zup (zup (zup (zup (zPP (zPr 3)) 20 0 (some 37)) 20 1 (some 41)) 20 2 (some 45)) 20 3 (some 49)) 20 4 (some 21)) 20 5 (some 25)) 20 6 (some 29)))) 1 rfl ?_
  refine wp_blk (pc' := 39) (L' := [some (.ref 19), some (.ref 33), some (.int 8)]) (st' := [.ref 19, .ref 19]) (h' := ((76, 1769), zS, I, (zup (zup (zup (zup (zup (zup (zup (zPP (zPr 3)) 20 0 (some 37)) 20 1 (some 41)) 20 2 (some 45)) 20 3 (some 49)) 20 4 (some 21)) 20 5 (some 25)) 20 6 (some 29)))) 1 rfl ?_
  refine wp_blk (pc' := 42) (L' := [some (.ref 19), some (.ref 33), some (.int 8)]) (st' := [.ref 20, .ref 19]) (h' := ((76, 1769), zS, I, (zup (zup (zup (zup (zup (zup (zup (zPP (zPr 3)) 20 0 (some 37)) 20 1 (some 41)) 20 2 (some 45)) 20 3 (some 49)) 20 4 (some 21)) 20 5 (some 25)) 20 6 (some 29)))) 1 rfl ?_
  refine wp_blk (pc' := 43) (L' := [some (.ref 19), some (.ref 33), some (.int 8)]) (st' := [.int 8, .ref 19]) (h' := ((76, 1769), zS, I, (zup (zup (zup (zup (zup (zup (zup (zPP (zPr 3)) 20 0 (some 37)) 20 1 (some 41)) 20 2 (some 45)) 20 3 (some 49)) 20 4 (some 21)) 20 5 (some 25)) 20 6 (some 29)))) 1 rfl ?_
  refine wp_blk (pc' := 44) (L' := [some (.ref 19), some (.ref 33), some (.int 8)]) (st' := [.int 1, .int 8, .ref 19]) (h' := ((76, 1769), zS, I, (zup (zup (zup (zup (zup (zup (zup (zPP (zPr 3)) 20 0 (some 37)) 20 1 (some 41)) 20 2 (some 45)) 20 3 (some 49)) 20 4 (some 21)) 20 5 (some 25)) 20 6 (some 29)))) 1 rfl ?_
  refine wp_blk (pc' := 45) (L' := [some (.ref 19), some (.ref 33), some (.int 8)]) (st' := [.int 7, .ref 19]) (h' := ((76, 1769), zS, I, (zup (zup (zup (zup (zup (zup (zup (zPP (zPr 3)) 20 0 (some 37)) 20 1 (some 41)) 20 2 (some 45)) 20 3 (some 49)) 20 4 (some 21)) 20 5 (some 25)) 20 6 (some 29)))) 1 rfl ?_
  refine wp_blk (pc' := 48) (L' := [some (.ref 19), some (.ref 33), some (.int 8)]) (st' := []) (h' := ((76, 1769), zS, (zui I 19 1 7), (zup (zup (zup (zup (zup (zup (zup (zPP (zPr 3)) 20 0 (some 37)) 20 1 (some 41)) 20 2 (some 45)) 20 3 (some 49)) 20 4 (some 21)) 20 5 (some 25)) 20 6 (some 29)))) 1 rfl ?_
  refine wp_blk (pc' := 49) (L' := [some (.ref 19), some (.ref 33), some (.int 8)]) (st' := [.ref 19]) (h' := ((76, 1769), zS, (zui I 19 1 7), (zup (zup (zup (zup (zup (zup (zup (zPP (zPr 3)) 20 0 (some 37)) 20 1 (some 41)) 20 2 (some 45)) 20 3 (some 49)) 20 4 (some 21)) 20 5 (some 25)) 20 6 (some 29)))) 1 rfl ?_
  refine wp_blk (pc' := 52) (L' := [some (.ref 19), some (.ref 33), some (.int 8)]) (st' := [.int 7]) (h' := ((76, 1769), zS, (zui I 19 1 7), (zup (zup (zup (zup (zup (zup (zup (zPP (zPr 3)) 20 0 (some 37)) 20 1 (some 41)) 20 2 (some 45)) 20 3 (some 49)) 20 4 (some 21)) 20 5 (some 25)) 20 6 (some 29)))) 1 rfl ?_
  refine wp_blk (pc' := 55) (L' := [some (.ref 19), some (.ref 33), some (.int 8)]) (st' := []) (h' := ((76, 1769), zS, (zui I 19 1 7), (zup (zup (zup (zup (zup (zup (zup (zPP (zPr 3)) 20 0 (some 37)) 20 1 (some 41)) 20 2 (some 45)) 20 3 (some 49)) 20 4 (some 21)) 20 5 (some 25)) 20 6 (some 29)))) 1 rfl ?_
  refine wp_blk (pc' := 56) (L' := [some (.ref 19), some (.ref 33), some (.int 8)]) (st' := [.ref 19]) (h' := ((76, 1769), zS, (zui I 19 1 7), (zup (zup (zup (zup (zup (zup (zup (zPP (zPr 3)) 20 0 (some 37)) 20 1 (some 41)) 20 2 (some 45)) 20 3 (some 49)) 20 4 (some 21)) 20 5 (some 25)) 20 6 (some 29)))) 1 rfl ?_
  refine wp_blk (pc' := 59) (L' := [some (.ref 19), some (.ref 33), some (.int 8)]) (st' := [.ref 20]) (h' := ((76, 1769), zS, (zui I 19 1 7), (zup (zup (zup (zup (zup (zup (zup (zPP (zPr 3)) 20 0 (some 37)) 20 1 (some 41)) 20 2 (some 45)) 20 3 (some 49)) 20 4 (some 21)) 20 5 (some 25)) 20 6 (some 29)))) 1 rfl ?_
  refine wp_blk (pc' := 60) (L' := [some (.ref 19), some (.ref 33), some (.int 8)]) (st' := [.ref 19, .ref 20]) (h' := ((76, 1769), zS, (zui I 19 1 7), (zup (zup (zup (zup (zup (zup (zup (zPP (zPr 3)) 20 0 (some 37)) 20 1 (some 41)) 20 2 (some 45)) 20 3 (some 49)) 20 4 (some 21)) 20 5 (some 25)) 20 6 (some 29)))) 1 rfl ?_
  refine wp_blk (pc' := 63) (L' := [some (.ref 19), some (.ref 33), some (.int 8)]) (st' := [.int 7, .ref 20]) (h' := ((76, 1769), zS, (zui I 19 1 7), (zup (zup (zup (zup (zup (zup (zup (zPP (zPr 3)) 20 0 (some 37)) 20 1 (some 41)) 20 2 (some 45)) 20 3 (some 49)) 20 4 (some 21)) 20 5 (some 25)) 20 6 (some 29)))) 1 rfl ?_
  refine wp_blk (pc' := 64) (L' := [some (.ref 19), some (.ref 33), some (.int 8)]) (st' := [.ref 33, .int 7, .ref 20]) (h' := ((76, 1769), zS, (zui I 19 1 7), (zup (zup (zup (zup (zup (zup (zup (zPP (zPr 3)) 20 0 (some 37)) 20 1 (some 41)) 20 2 (some 45)) 20 3 (some 49)) 20 4 (some 21)) 20 5 (some 25)) 20 6 (some 29)))) 1 rfl ?_
  refine wp_blk (pc' := 65) (L' := [some (.ref 19), some (.ref 33), some (.int 8)]) (st' := []) (h' := ((76, 1769), zS, (zui I 19 1 7), (zup (zup (zup (zup (zup (zup (zup (zup (zPP (zPr 3)) 20 0 (some 37)) 20 1 (some 41)) 20 2 (some 45)) 20 3 (some 49)) 20 4 (some 21)) 20 5 (some 25)) 20 6 (some 29)) 20 7 (some 33)))) 1 rfl ?_
  exact wp_end rfl rfl ⟨rfl, by rw [zH, ← zrot_3]⟩
set_option maxRecDepth 100000 in
theorem sp_drop_4 {X : Nat × (Nat → Int32)} (I : Nat → Nat → Int32) : Wf X 67 [some (.ref 19), none, none] (zH I (zPr 4)) none (zH (zui I 19 1 7) (zPr 5)) := by
  unfold Wf
  refine wp_blk (pc' := 1) (L' := [some (.ref 19), none, none]) (st' := [.ref 19]) (h' := zH I (zPr 4)) 1 rfl ?_
  refine wp_blk (pc' := 2) (L' := [some (.ref 19), none, none]) (st' := [.int 0, .ref 19]) (h' := zH I (zPr 4)) 1 rfl ?_
  refine wp_callf (d := 68) (as := [.ref 19, .int 0]) (rest := []) (Ld := [some (.ref 19), some (.int 0)]) (pc' := 5) (st' := [.ref 37]) (r := some (.ref 37)) (h1 := zH I (zPr 4)) rfl rfl rfl rfl rfl rfl rfl rfl rfl (sp_at19_4_0 (X := X) I) ?_
  refine wp_blk (pc' := 6) (L' := [some (.ref 19), some (.ref 37), none]) (st' := []) (h' := zH I (zPr 4)) 1 rfl ?_
  refine wp_blk (pc' := 7) (L' := [some (.ref 19), some (.ref 37), none]) (st' := [.int 1]) (h' := zH I (zPr 4)) 1 rfl ?_
  refine wp_blk (pc' := 8) (L' := [some (.ref 19), some (.ref 37), some (.int 1)]) (st' := []) (h' := zH I (zPr 4)) 1 rfl ?_
  refine wp_blk (pc' := 9) (L' := [some (.ref 19), some (.ref 37), some (.int 1)]) (st' := [.int 1]) (h' := zH I (zPr 4)) 1 rfl ?_
  refine wp_blk (pc' := 10) (L' := [some (.ref 19), some (.ref 37), some (.int 1)]) (st' := [.ref 19, .int 1]) (h' := zH I (zPr 4)) 1 rfl ?_
  refine wp_blk (pc' := 13) (L' := [some (.ref 19), some (.ref 37), some (.int 1)]) (st' := [.ref 20, .int 1]) (h' := zH I (zPr 4)) 1 rfl ?_
  refine wp_blk (pc' := 14) (L' := [some (.ref 19), some (.ref 37), some (.int 1)]) (st' := [.int 8, .int 1]) (h' := zH I (zPr 4)) 1 rfl ?_
  refine wp_blk (pc' := 17) (L' := [some (.ref 19), some (.ref 37), some (.int 1)]) (st' := []) (h' := zH I (zPr 4)) 1 rfl ?_
  refine wp_blk (pc' := 18) (L' := [some (.ref 19), some (.ref 37), some (.int 1)]) (st' := [.ref 19]) (h' := zH I (zPr 4)) 1 rfl ?_
  refine wp_blk (pc' := 21) (L' := [some (.ref 19), some (.ref 37), some (.int 1)]) (st' := [.ref 20]) (h' := zH I (zPr 4)) 1 rfl ?_
  refine wp_blk (pc' := 22) (L' := [some (.ref 19), some (.ref 37), some (.int 1)]) (st' := [.int 1, .ref 20]) (h' := zH I (zPr 4)) 1 rfl ?_
  refine wp_blk (pc' := 23) (L' := [some (.ref 19), some (.ref 37), some (.int 1)]) (st' := [.int 1, .int 1, .ref 20]) (h' := zH I (zPr 4)) 1 rfl ?_
  refine wp_blk (pc' := 24) (L' := [some (.ref 19), some (.ref 37), some (.int 1)]) (st' := [.int 0, .ref 20]) (h' := zH I (zPr 4)) 1 rfl ?_
  refine wp_blk (pc' := 25) (L' := [some (.ref 19), some (.ref 37), some (.int 1)]) (st' := [.ref 19, .int 0, .ref 20]) (h' := zH I (zPr 4)) 1 rfl ?_
  refine wp_blk (pc' := 28) (L' := [some (.ref 19), some (.ref 37), some (.int 1)]) (st' := [.ref 20, .int 0, .ref 20]) (h' := zH I (zPr 4)) 1 rfl ?_
  refine wp_blk (pc' := 29) (L' := [some (.ref 19), some (.ref 37), some (.int 1)]) (st' := [.int 1, .ref 20, .int 0, .ref 20]) (h' := zH I (zPr 4)) 1 rfl ?_
  refine wp_blk (pc' := 30) (L' := [some (.ref 19), some (.ref 37), some (.int 1)]) (st' := [.ref 41, .int 0, .ref 20]) (h' := zH I (zPr 4)) 1 rfl ?_
  refine wp_blk (pc' := 31) (L' := [some (.ref 19), some (.ref 37), some (.int 1)]) (st' := []) (h' := ((76, 1769), zS, I, (zup (zPP (zPr 4)) 20 0 (some 41)))) 1 rfl ?_
  refine wp_blk (pc' := 34) (L' := [some (.ref 19), some (.ref 37), some (.int 2)]) (st' := []) (h' := ((76, 1769), zS, I, (zup (zPP (zPr 4)) 20 0 (some 41)))) 1 rfl ?_
  refine wp_blk (pc' := 8) (L' := [some (.ref 19), some (.ref 37), some (.int 2)]) (st' := []) (h' := ((76, 1769), zS, I, (zup (zPP (zPr 4)) 20 0 (some 41)))) 1 rfl ?_
  refine wp_blk (pc' := 9) (L' := [some (.ref 19), some (.ref 37), some (.int 2)]) (st' := [.int 2]) (h' := ((76, 1769), zS, I, (zup (zPP (zPr 4)) 20 0 (some 41)))) 1 rfl ?_
  refine wp_blk (pc' := 10) (L' := [some (.ref 19), some (.ref 37), some (.int 2)]) (st' := [.ref 19, .int 2]) (h' := ((76, 1769), zS, I, (zup (zPP (zPr 4)) 20 0 (some 41)))) 1 rfl ?_
  refine wp_blk (pc' := 13) (L' := [some (.ref 19), some (.ref 37), some (.int 2)]) (st' := [.ref 20, .int 2]) (h' := ((76, 1769), zS, I, (zup (zPP (zPr 4)) 20 0 (some 41)))) 1 rfl ?_
  refine wp_blk (pc' := 14) (L' := [some (.ref 19), some (.ref 37), some (.int 2)]) (st' := [.int 8, .int 2]) (h' := ((76, 1769), zS, I, (zup (zPP (zPr 4)) 20 0 (some 41)))) 1 rfl ?_
  refine wp_blk (pc' := 17) (L' := [some (.ref 19), some (.ref 37), some (.int 2)]) (st' := []) (h' := ((76, 1769), zS, I, (zup (zPP (zPr 4)) 20 0 (some 41)))) 1 rfl ?_
  refine wp_blk (pc' := 18) (L' := [some (.ref 19), some (.ref 37), some (.int 2)]) (st' := [.ref 19]) (h' := ((76, 1769), zS, I, (zup (zPP (zPr 4)) 20 0 (some 41)))) 1 rfl ?_
  refine wp_blk (pc' := 21) (L' := [some (.ref 19), some (.ref 37), some (.int 2)]) (st' := [.ref 20]) (h' := ((76, 1769), zS, I, (zup (zPP (zPr 4)) 20 0 (some 41)))) 1 rfl ?_
  refine wp_blk (pc' := 22) (L' := [some (.ref 19), some (.ref 37), some (.int 2)]) (st' := [.int 2, .ref 20]) (h' := ((76, 1769), zS, I, (zup (zPP (zPr 4)) 20 0 (some 41)))) 1 rfl ?_
  refine wp_blk (pc' := 23) (L' := [some (.ref 19), some (.ref 37), some (.int 2)]) (st' := [.int 1, .int 2, .ref 20]) (h' := ((76, 1769), zS, I, (zup (zPP (zPr 4)) 20 0 (some 41)))) 1 rfl ?_
  refine wp_blk (pc' := 24) (L' := [some (.ref 19), some (.ref 37), some (.int 2)]) (st' := [.int 1, .ref 20]) (h' := ((76, 1769), zS, I, (zup (zPP (zPr 4)) 20 0 (some 41)))) 1 rfl ?_
  refine wp_blk (pc' := 25) (L' := [some (.ref 19), some (.ref 37), some (.int 2)]) (st' := [.ref 19, .int 1, .ref 20]) (h' := ((76, 1769), zS, I, (zup (zPP (zPr 4)) 20 0 (some 41)))) 1 rfl ?_
  refine wp_blk (pc' := 28) (L' := [some (.ref 19), some (.ref 37), some (.int 2)]) (st' := [.ref 20, .int 1, .ref 20]) (h' := ((76, 1769), zS, I, (zup (zPP (zPr 4)) 20 0 (some 41)))) 1 rfl ?_
  refine wp_blk (pc' := 29) (L' := [some (.ref 19), some (.ref 37), some (.int 2)]) (st' := [.int 2, .ref 20, .int 1, .ref 20]) (h' := ((76, 1769), zS, I, (zup (zPP (zPr 4)) 20 0 (some 41)))) 1 rfl ?_
  refine wp_blk (pc' := 30) (L' := [some (.ref 19), some (.ref 37), some (.int 2)]) (st' := [.ref 45, .int 1, .ref 20]) (h' := ((76, 1769), zS, I, (zup (zPP (zPr 4)) 20 0 (some 41)))) 1 rfl ?_
  refine wp_blk (pc' := 31) (L' := [some (.ref 19), some (.ref 37), some (.int 2)]) (st' := []) (h' := ((76, 1769), zS, I, (zup (zup (zPP (zPr 4)) 20 0 (some 41)) 20 1 (some 45)))) 1 rfl ?_
  refine wp_blk (pc' := 34) (L' := [some (.ref 19), some (.ref 37), some (.int 3)]) (st' := []) (h' := ((76, 1769), zS, I, (zup (zup (zPP (zPr 4)) 20 0 (some 41)) 20 1 (some 45)))) 1 rfl ?_
  refine wp_blk (pc' := 8) (L' := [some (.ref 19), some (.ref 37), some (.int 3)]) (st' := []) (h' := ((76, 1769), zS, I, (zup (zup (zPP (zPr 4)) 20 0 (some 41)) 20 1 (some 45)))) 1 rfl ?_
  refine wp_blk (pc' := 9) (L' := [some (.ref 19), some (.ref 37), some (.int 3)]) (st' := [.int 3]) (h' := ((76, 1769), zS, I, (zup (zup (zPP (zPr 4)) 20 0 (some 41)) 20 1 (some 45)))) 1 rfl ?_
  refine wp_blk (pc' := 10) (L' := [some (.ref 19), some (.ref 37), some (.int 3)]) (st' := [.ref 19, .int 3]) (h' := ((76, 1769), zS, I, (zup (zup (zPP (zPr 4)) 20 0 (some 41)) 20 1 (some 45)))) 1 rfl ?_
  refine wp_blk (pc' := 13) (L' := [some (.ref 19), some (.ref 37), some (.int 3)]) (st' := [.ref 20, .int 3]) (h' := ((76, 1769), zS, I, (zup (zup (zPP (zPr 4)) 20 0 (some 41)) 20 1 (some 45)))) 1 rfl ?_
  refine wp_blk (pc' := 14) (L' := [some (.ref 19), some (.ref 37), some (.int 3)]) (st' := [.int 8, .int 3]) (h' := ((76, 1769), zS, I, (zup (zup (zPP (zPr 4)) 20 0 (some 41)) 20 1 (some 45)))) 1 rfl ?_
  refine wp_blk (pc' := 17) (L' := [some (.ref 19), some (.ref 37), some (.int 3)]) (st' := []) (h' := ((76, 1769), zS, I, (zup (zup (zPP (zPr 4)) 20 0 (some 41)) 20 1 (some 45)))) 1 rfl ?_
  refine wp_blk (pc' := 18) (L' := [some (.ref 19), some (.ref 37), some (.int 3)]) (st' := [.ref 19]) (h' := ((76, 1769), zS, I, (zup (zup (zPP (zPr 4)) 20 0 (some 41)) 20 1 (some 45)))) 1 rfl ?_
  refine wp_blk (pc' := 21) (L' := [some (.ref 19), some (.ref 37), some (.int 3)]) (st' := [.ref 20]) (h' := ((76, 1769), zS, I, (zup (zup (zPP (zPr 4)) 20 0 (some 41)) 20 1 (some 45)))) 1 rfl ?_
  refine wp_blk (pc' := 22) (L' := [some (.ref 19), some (.ref 37), some (.int 3)]) (st' := [.int 3, .ref 20]) (h' := ((76, 1769), zS, I, (zup (zup (zPP (zPr 4)) 20 0 (some 41)) 20 1 (some 45)))) 1 rfl ?_
  refine wp_blk (pc' := 23) (L' := [some (.ref 19), some (.ref 37), some (.int 3)]) (st' := [.int 1, .int 3, .ref 20]) (h' := ((76, 1769), zS, I, (zup (zup (zPP (zPr 4)) 20 0 (some 41)) 20 1 (some 45)))) 1 rfl ?_
  refine wp_blk (pc' := 24) (L' := [some (.ref 19), some (.ref 37), some (.int 3)]) (st' := [.int 2, .ref 20]) (h' := ((76, 1769), zS, I, (zup (zup (zPP (zPr 4)) 20 0 (some 41)) 20 1 (some 45)))) 1 rfl ?_
  refine wp_blk (pc' := 25) (L' := [some (.ref 19), some (.ref 37), some (.int 3)]) (st' := [.ref 19, .int 2, .ref 20]) (h' := ((76, 1769), zS, I, (zup (zup (zPP (zPr 4)) 20 0 (some 41)) 20 1 (some 45)))) 1 rfl ?_
  refine wp_blk (pc' := 28) (L' := [some (.ref 19), some (.ref 37), some (.int 3)]) (st' := [.ref 20, .int 2, .ref 20]) (h' := ((76, 1769), zS, I, (zup (zup (zPP (zPr 4)) 20 0 (some 41)) 20 1 (some 45)))) 1 rfl ?_
  refine wp_blk (pc' := 29) (L' := [some (.ref 19), some (.ref 37), some (.int 3)]) (st' := [.int 3, .ref 20, .int 2, .ref 20]) (h' := ((76, 1769), zS, I, (zup (zup (zPP (zPr 4)) 20 0 (some 41)) 20 1 (some 45)))) 1 rfl ?_
  refine wp_blk (pc' := 30) (L' := [some (.ref 19), some (.ref 37), some (.int 3)]) (st' := [.ref 49, .int 2, .ref 20]) (h' := ((76, 1769), zS, I, (zup (zup (zPP (zPr 4)) 20 0 (some 41)) 20 1 (some 45)))) 1 rfl ?_
  refine wp_blk (pc' := 31) (L' := [some (.ref 19), some (.ref 37), some (.int 3)]) (st' := []) (h' := ((76, 1769), zS, I, (zup (zup (zup (zPP (zPr 4)) 20 0 (some 41)) 20 1 (some 45)) 20 2 (some 49)))) 1 rfl ?_
  refine wp_blk (pc' := 34) (L' := [some (.ref 19), some (.ref 37), some (.int 4)]) (st' := []) (h' := ((76, 1769), zS, I, (zup (zup (zup (zPP (zPr 4)) 20 0 (some 41)) 20 1 (some 45)) 20 2 (some 49)))) 1 rfl ?_
  refine wp_blk (pc' := 8) (L' := [some (.ref 19), some (.ref 37), some (.int 4)]) (st' := []) (h' := ((76, 1769), zS, I, (zup (zup (zup (zPP (zPr 4)) 20 0 (some 41)) 20 1 (some 45)) 20 2 (some 49)))) 1 rfl ?_
  refine wp_blk (pc' := 9) (L' := [some (.ref 19), some (.ref 37), some (.int 4)]) (st' := [.int 4]) (h' := ((76, 1769), zS, I, (zup (zup (zup (zPP (zPr 4)) 20 0 (some 41)) 20 1 (some 45)) 20 2 (some 49)))) 1 rfl ?_
  refine wp_blk (pc' := 10) (L' := [some (.ref 19), some (.ref 37), some (.int 4)]) (st' := [.ref 19, .int 4]) (h' := ((76, 1769), zS, I, (zup (zup (zup (zPP (zPr 4)) 20 0 (some 41)) 20 1 (some 45)) 20 2 (some 49)))) 1 rfl ?_
  refine wp_blk (pc' := 13) (L' := [some (.ref 19), some (.ref 37), some (.int 4)]) (st' := [.ref 20, .int 4]) (h' := ((76, 1769), zS, I, (zup (zup (zup (zPP (zPr 4)) 20 0 (some 41)) 20 1 (some 45)) 20 2 (some 49)))) 1 rfl ?_
  refine wp_blk (pc' := 14) (L' := [some (.ref 19), some (.ref 37), some (.int 4)]) (st' := [.int 8, .int 4]) (h' := ((76, 1769), zS, I, (zup (zup (zup (zPP (zPr 4)) 20 0 (some 41)) 20 1 (some 45)) 20 2 (some 49)))) 1 rfl ?_
  refine wp_blk (pc' := 17) (L' := [some (.ref 19), some (.ref 37), some (.int 4)]) (st' := []) (h' := ((76, 1769), zS, I, (zup (zup (zup (zPP (zPr 4)) 20 0 (some 41)) 20 1 (some 45)) 20 2 (some 49)))) 1 rfl ?_
  refine wp_blk (pc' := 18) (L' := [some (.ref 19), some (.ref 37), some (.int 4)]) (st' := [.ref 19]) (h' := ((76, 1769), zS, I, (zup (zup (zup (zPP (zPr 4)) 20 0 (some 41)) 20 1 (some 45)) 20 2 (some 49)))) 1 rfl ?_
  refine wp_blk (pc' := 21) (L' := [some (.ref 19), some (.ref 37), some (.int 4)]) (st' := [.ref 20]) (h' := ((76, 1769), zS, I, (zup (zup (zup (zPP (zPr 4)) 20 0 (some 41)) 20 1 (some 45)) 20 2 (some 49)))) 1 rfl ?_
  refine wp_blk (pc' := 22) (L' := [some (.ref 19), some (.ref 37), some (.int 4)]) (st' := [.int 4, .ref 20]) (h' := ((76, 1769), zS, I, (zup (zup (zup (zPP (zPr 4)) 20 0 (some 41)) 20 1 (some 45)) 20 2 (some 49)))) 1 rfl ?_
  refine wp_blk (pc' := 23) (L' := [some (.ref 19), some (.ref 37), some (.int 4)]) (st' := [.int 1, .int 4, .ref 20]) (h' := ((76, 1769), zS, I, (zup (zup (zup (zPP (zPr 4)) 20 0 (some 41)) 20 1 (some 45)) 20 2 (some 49)))) 1 rfl ?_
  refine wp_blk (pc' := 24) (L' := [some (.ref 19), some (.ref 37), some (.int 4)]) (st' := [.int 3, .ref 20]) (h' := ((76, 1769), zS, I, (zup (zup (zup (zPP (zPr 4)) 20 0 (some 41)) 20 1 (some 45)) 20 2 (some 49)))) 1 rfl ?_
  refine wp_blk (pc' := 25) (L' := [some (.ref 19), some (.ref 37), some (.int 4)]) (st' := [.ref 19, .int 3, .ref 20]) (h' := ((76, 1769), zS, I, (zup (zup (zup (zPP (zPr 4)) 20 0 (some 41)) 20 1 (some 45)) 20 2 (some 49)))) 1 rfl ?_
  refine wp_blk (pc' := 28) (L' := [some (.ref 19), some (.ref 37), some (.int 4)]) (st' := [.ref 20, .int 3, .ref 20]) (h' := ((76, 1769), zS, I, (zup (zup (zup (zPP (zPr 4)) 20 0 (some 41)) 20 1 (some 45)) 20 2 (some 49)))) 1 rfl ?_
  refine wp_blk (pc' := 29) (L' := [some (.ref 19), some (.ref 37), some (.int 4)]) (st' := [.int 4, .ref 20, .int 3, .ref 20]) (h' := ((76, 1769), zS, I, (zup (zup (zup (zPP (zPr 4)) 20 0 (some 41)) 20 1 (some 45)) 20 2 (some 49)))) 1 rfl ?_
  refine wp_blk (pc' := 30) (L' := [some (.ref 19), some (.ref 37), some (.int 4)]) (st' := [.ref 21, .int 3, .ref 20]) (h' := ((76, 1769), zS, I, (zup (zup (zup (zPP (zPr 4)) 20 0 (some 41)) 20 1 (some 45)) 20 2 (some 49)))) 1 rfl ?_
  refine wp_blk (pc' := 31) (L' := [some (.ref 19), some (.ref 37), some (.int 4)]) (st' := []) (h' := ((76, 1769), zS, I, (zup (zup (zup (zup (zPP (zPr 4)) 20 0 (some 41)) 20 1 (some 45)) 20 2 (some 49)) 20 3 (some 21)))) 1 rfl ?_
  refine wp_blk (pc' := 34) (L' := [some (.ref 19), some (.ref 37), some (.int 5)]) (st' := []) (h' := ((76, 1769), zS, I, (zup (zup (zup (zup (zPP (zPr 4)) 20 0 (some 41)) 20 1 (some 45)) 20 2 (some 49)) 20 3 (some 21)))) 1 rfl ?_
  refine wp_blk (pc' := 8) (L' := [some (.ref 19), some (.ref 37), some (.int 5)]) (st' := []) (h' := ((76, 1769), zS, I, (zup (zup (zup (zup (zPP (zPr 4)) 20 0 (some 41)) 20 1 (some 45)) 20 2 (some 49)) 20 3 (some 21)))) 1 rfl ?_
  refine wp_blk (pc' := 9) (L' := [some (.ref 19), some (.ref 37), some (.int 5)]) (st' := [.int 5]) (h' := ((76, 1769), zS, I, (zup (zup (zup (zup (zPP (zPr 4)) 20 0 (some 41)) 20 1 (some 45)) 20 2 (some 49)) 20 3 (some 21)))) 1 rfl ?_
  refine wp_blk (pc' := 10) (L' := [some (.ref 19), some (.ref 37), some (.int 5)]) (st' := [.ref 19, .int 5]) (h' := ((76, 1769), zS, I, (zup (zup (zup (zup (zPP (zPr 4)) 20 0 (some 41)) 20 1 (some 45)) 20 2 (some 49)) 20 3 (some 21)))) 1 rfl ?_
  refine wp_blk (pc' := 13) (L' := [some (.ref 19), some (.ref 37), some (.int 5)]) (st' := [.ref 20, .int 5]) (h' := ((76, 1769), zS, I, (zup (zup (zup (zup (zPP (zPr 4)) 20 0 (some 41)) 20 1 (some 45)) 20 2 (some 49)) 20 3 (some 21)))) 1 rfl ?_
  refine wp_blk (pc' := 14) (L' := [some (.ref 19), some (.ref 37), some (.int 5)]) (st' := [.int 8, .int 5]) (h' := ((76, 1769), zS, I, (zup (zup (zup (zup (zPP (zPr 4)) 20 0 (some 41)) 20 1 (some 45)) 20 2 (some 49)) 20 3 (some 21)))) 1 rfl ?_
  refine wp_blk (pc' := 17) (L' := [some (.ref 19), some (.ref 37), some (.int 5)]) (st' := []) (h' := ((76, 1769), zS, I, (zup (zup (zup (zup (zPP (zPr 4)) 20 0 (some 41)) 20 1 (some 45)) 20 2 (some 49)) 20 3 (some 21)))) 1 rfl ?_
  refine wp_blk (pc' := 18) (L' := [some (.ref 19), some (.ref 37), some (.int 5)]) (st' := [.ref 19]) (h' := ((76, 1769), zS, I, (zup (zup (zup (zup (zPP (zPr 4)) 20 0 (some 41)) 20 1 (some 45)) 20 2 (some 49)) 20 3 (some 21)))) 1 rfl ?_
  refine wp_blk (pc' := 21) (L' := [some (.ref 19), some (.ref 37), some (.int 5)]) (st' := [.ref 20]) (h' := ((76, 1769), zS, I, (zup (zup (zup (zup (zPP (zPr 4)) 20 0 (some 41)) 20 1 (some 45)) 20 2 (some 49)) 20 3 (some 21)))) 1 rfl ?_
  refine wp_blk (pc' := 22) (L' := [some (.ref 19), some (.ref 37), some (.int 5)]) (st' := [.int 5, .ref 20]) (h' := ((76, 1769), zS, I, (zup (zup (zup (zup (zPP (zPr 4)) 20 0 (some 41)) 20 1 (some 45)) 20 2 (some 49)) 20 3 (some 21)))) 1 rfl ?_
  refine wp_blk (pc' := 23) (L' := [some (.ref 19), some (.ref 37), some (.int 5)]) (st' := [.int 1, .int 5, .ref 20]) (h' := ((76, 1769), zS, I, (zup (zup (zup (zup (zPP (zPr 4)) 20 0 (some 41)) 20 1 (some 45)) 20 2 (some 49)) 20 3 (some 21)))) 1 rfl ?_
  refine wp_blk (pc' := 24) (L' := [some (.ref 19), some (.ref 37), some (.int 5)]) (st' := [.int 4, .ref 20]) (h' := ((76, 1769), zS, I, (zup (zup (zup (zup (zPP (zPr 4)) 20 0 (some 41)) 20 1 (some 45)) 20 2 (some 49)) 20 3 (some 21)))) 1 rfl ?_
  refine wp_blk (pc' := 25) (L' := [some (.ref 19), some (.ref 37), some (.int 5)]) (st' := [.ref 19, .int 4, .ref 20]) (h' := ((76, 1769), zS, I, (zup (zup (zup (zup (zPP (zPr 4)) 20 0 (some 41)) 20 1 (some 45)) 20 2 (some 49)) 20 3 (some 21)))) 1 rfl ?_
  refine wp_blk (pc' := 28) (L' := [some (.ref 19), some (.ref 37), some (.int 5)]) (st' := [.ref 20, .int 4, .ref 20]) (h' := ((76, 1769), zS, I, (zup (zup (zup (zup (zPP (zPr 4)) 20 0 (some 41)) 20 1 (some 45)) 20 2 (some 49)) 20 3 (some 21)))) 1 rfl ?_
  refine wp_blk (pc' := 29) (L' := [some (.ref 19), some (.ref 37), some (.int 5)]) (st' := [.int 5, .ref 20, .int 4, .ref 20]) (h' := ((76, 1769), zS, I, (zup (zup (zup (zup (zPP (zPr 4)) 20 0 (some 41)) 20 1 (some 45)) 20 2 (some 49)) 20 3 (some 21)))) 1 rfl ?_
  refine wp_blk (pc' := 30) (L' := [some (.ref 19), some (.ref 37), some (.int 5)]) (st' := [.ref 25, .int 4, .ref 20]) (h' := ((76, 1769), zS, I, (zup (zup (zup (zup (zPP (zPr 4)) 20 0 (some 41)) 20 1 (some 45)) 20 2 (some 49)) 20 3 (some 21)))) 1 rfl ?_
  refine wp_blk (pc' := 31) (L' := [some (.ref 19), some (.ref 37), some (.int 5)]) (st' := []) (h' := ((76, 1769), zS, I, (zup (zup (zup (zup (zup (zPP (zPr 4)) 20 0 (some 41)) 20 1 (some 45)) 20 2 (some 49)) 20 3 (some 21)) 20 4 (some 25)))) 1 rfl ?_
  refine wp_blk (pc' := 34) (L' := [some (.ref 19), some (.ref 37), some (.int 6)]) (st' := []) (h' := ((76, 1769), zS, I, (zup (zup (zup (zup (zup (zPP (zPr 4)) 20 0 (some 41)) 20 1 (some 45)) 20 2 (some 49)) 20 3 (some 21)) 20 4 (some 25)))) 1 rfl ?_
  refine wp_blk (pc' := 8) (L' := [some (.ref 19), some (.ref 37), some (.int 6)]) (st' := []) (h' := ((76, 1769), zS, I, (zup (zup (zup (zup (zup (zPP (zPr 4)) 20 0 (some 41)) 20 1 (some 45)) 20 2 (some 49)) 20 3 (some 21)) 20 4 (some 25)))) 1 rfl ?_
  refine wp_blk (pc' := 9) (L' := [some (.ref 19), some (.ref 37), some (.int 6)]) (st' := [.int 6]) (h' := ((76, 1769), zS, I, (zup (zup (zup (zup (zup (zPP (zPr 4)) 20 0 (some 41)) 20 1 (some 45)) 20 2 (some 49)) 20 3 (some 21)) 20 4 (some 25)))) 1 rfl ?_
  refine wp_blk (pc' := 10) (L' := [some (.ref 19), some (.ref 37), some (.int 6)]) (st' := [.ref 19, .int 6]) (h' := ((76, 1769), zS, I, (zup (zup (zup (zup (zup (zPP (zPr 4)) 20 0 (some 41)) 20 1 (some 45)) 20 2 (some 49)) 20 3 (some 21)) 20 4 (some 25)))) 1 rfl ?_
  refine wp_blk (pc' := 13) (L' := [some (.ref 19), some (.ref 37), some (.int 6)]) (st' := [.ref 20, .int 6]) (h' := ((76, 1769), zS, I, (zup (zup (zup (zup (zup (zPP (zPr 4)) 20 0 (some 41)) 20 1 (some 45)) 20 2 (some 49)) 20 3 (some 21)) 20 4 (some 25)))) 1 rfl ?_
  refine wp_blk (pc' := 14) (L' := [some (.ref 19), some (.ref 37), some (.int 6)]) (st' := [.int 8, .int 6]) (h' := ((76, 1769), zS, I, (zup (zup (zup (zup (zup (zPP (zPr 4)) 20 0 (some 41)) 20 1 (some 45)) 20 2 (some 49)) 20 3 (some 21)) 20 4 (some 25)))) 1 rfl ?_
  refine wp_blk (pc' := 17) (L' := [some (.ref 19), some (.ref 37), some (.int 6)]) (st' := []) (h' := ((76, 1769), zS, I, (zup (zup (zup (zup (zup (zPP (zPr 4)) 20 0 (some 41)) 20 1 (some 45)) 20 2 (some 49)) 20 3 (some 21)) 20 4 (some 25)))) 1 rfl ?_
  refine wp_blk (pc' := 18) (L' := [some (.ref 19), some (.ref 37), some (.int 6)]) (st' := [.ref 19]) (h' := ((76, 1769), zS, I, (zup (zup (zup (zup (zup (zPP (zPr 4)) 20 0 (some 41)) 20 1 (some 45)) 20 2 (some 49)) 20 3 (some 21)) 20 4 (some 25)))) 1 rfl ?_
  refine wp_blk (pc' := 21) (L' := [some (.ref 19), some (.ref 37), some (.int 6)]) (st' := [.ref 20]) (h' := ((76, 1769), zS, I, (zup (zup (zup (zup (zup (zPP (zPr 4)) 20 0 (some 41)) 20 1 (some 45)) 20 2 (some 49)) 20 3 (some 21)) 20 4 (some 25)))) 1 rfl ?_
  refine wp_blk (pc' := 22) (L' := [some (.ref 19), some (.ref 37), some (.int 6)]) (st' := [.int 6, .ref 20]) (h' := ((76, 1769), zS, I, (zup (zup (zup (zup (zup (zPP (zPr 4)) 20 0 (some 41)) 20 1 (some 45)) 20 2 (some 49)) 20 3 (some 21)) 20 4 (some 25)))) 1 rfl ?_
  refine wp_blk (pc' := 23) (L' := [some (.ref 19), some (.ref 37), some (.int 6)]) (st' := [.int 1, .int 6, .ref 20]) (h' := ((76, 1769), zS, I, (zup (zup (zup (zup (zup (zPP (zPr 4)) 20 0 (some 41)) 20 1 (some 45)) 20 2 (some 49)) 20 3 (some 21)) 20 4 (some 25)))) 1 rfl ?_
  refine wp_blk (pc' := 24) (L' := [some (.ref 19), some (.ref 37), some (.int 6)]) (st' := [.int 5, .ref 20]) (h' := ((76, 1769), zS, I, (zup (zup (zup (zup (zup (zPP (zPr 4)) 20 0 (some 41)) 20 1 (some 45)) 20 2 (some 49)) 20 3 (some 21)) 20 4 (some 25)))) 1 rfl ?_
  refine wp_blk (pc' := 25) (L' := [some (.ref 19), some (.ref 37), some (.int 6)]) (st' := [.ref 19, .int 5, .ref 20]) (h' := ((76, 1769), zS, I, (zup (zup (zup (zup (zup (zPP (zPr 4)) 20 0 (some 41)) 20 1 (some 45)) 20 2 (some 49)) 20 3 (some 21)) 20 4 (some 25)))) 1 rfl ?_
  refine wp_blk (pc' := 28) (L' := [some (.ref 19), some (.ref 37), some (.int 6)]) (st' := [.ref 20, .int 5, .ref 20]) (h' := ((76, 1769), zS, I, (zup (zup (zup (zup (zup (zPP (zPr 4)) 20 0 (some 41)) 20 1 (some 45)) 20 2 (some 49)) 20 3 (some 21)) 20 4 (some 25)))) 1 rfl ?_
  refine wp_blk (pc' := 29) (L' := [some (.ref 19), some (.ref 37), some (.int 6)]) (st' := [.int 6, .ref 20, .int 5, .ref 20]) (h' := ((76, 1769), zS, I, (zup (zup (zup (zup (zup (zPP (zPr 4)) 20 0 (some 41)) 20 1 (some 45)) 20 2 (some 49)) 20 3 (some 21)) 20 4 (some 25)))) 1 rfl ?_
  refine wp_blk (pc' := 30) (L' := [some (.ref 19), some (.ref 37), some (.int 6)]) (st' := [.ref 29, .int 5, .ref 20]) (h' := ((76, 1769), zS, I, (zup (zup (zup (zup (zup (zPP (zPr 4)) 20 0 (some 41)) 20 1 (some 45)) 20 2 (some 49)) 20 3 (some 21)) 20 4 (some 25)))) 1 rfl ?_
  refine wp_blk (pc' := 31) (L' := [some (.ref 19), some (.ref 37), some (.int 6)]) (st' := []) (h' := ((76, 1769), zS, I, (zup (zup (zup (zup (zup (zup (zPP (zPr 4)) 20 0 (some 41)) 20 1 (some 45)) 20 2 (some 49)) 20 3 (some 21)) 20 4 (some 25)) 20 5 (some 29)))) 1 rfl ?_
  refine wp_blk (pc' := 34) (L' := [some (.ref 19), some (.ref 37), some (.int 7)]) (st' := []) (h' := ((76, 1769), zS, I, (zup (zup (zup (zup (zup (zup (zPP (zPr 4)) 20 0 (some 41)) 20 1 (some 45)) 20 2 (some 49)) 20 3 (some 21)) 20 4 (some 25)) 20 5 (some 29)))) 1 rfl ?_
  refine wp_blk (pc' := 8) (L' := [some (.ref 19), some (.ref 37), some (.int 7)]) (st' := []) (h' := ((76, 1769), zS, I, (zup (zup (zup (zup (zup (zup (zPP (zPr 4)) 20 0 (some 41)) 20 1 (some 45)) 20 2 (some 49)) 20 3 (some 21)) 20 4 (some 25)) 20 5 (some 29)))) 1 rfl ?_
  refine wp_blk (pc' := 9) (L' := [some (.ref 19), some (.ref 37), some (.int 7)]) (st' := [.int 7]) (h' := ((76, 1769), zS, I, (zup (zup (zup (zup (zup (zup (zPP (zPr 4)) 20 0 (some 41)) 20 1 (some 45)) 20 2 (some 49)) 20 3 (some 21)) 20 4 (some 25)) 20 5 (some 29)))) 1 rfl ?_
  refine wp_blk (pc' := 10) (L' := [some (.ref 19), some (.ref 37), some (.int 7)]) (st' := [.ref 19, .int 7]) (h' := ((76, 1769), zS, I, (zup (zup (zup (zup (zup (zup (zPP (zPr 4)) 20 0 (some 41)) 20 1 (some 45)) 20 2 (some 49)) 20 3 (some 21)) 20 4 (some 25)) 20 5 (some 29)))) 1 rfl ?_
  refine wp_blk (pc' := 13) (L' := [some (.ref 19), some (.ref 37), some (.int 7)]) (st' := [.ref 20, .int 7]) (h' := ((76, 1769), zS, I, (zup (zup (zup (zup (zup (zup (zPP (zPr 4)) 20 0 (some 41)) 20 1 (some 45)) 20 2 (some 49)) 20 3 (some 21)) 20 4 (some 25)) 20 5 (some 29)))) 1 rfl ?_
  refine wp_blk (pc' := 14) (L' := [some (.ref 19), some (.ref 37), some (.int 7)]) (st' := [.int 8, .int 7]) (h' := ((76, 1769), zS, I, (zup (zup (zup (zup (zup (zup (zPP (zPr 4)) 20 0 (some 41)) 20 1 (some 45)) 20 2 (some 49)) 20 3 (some 21)) 20 4 (some 25)) 20 5 (some 29)))) 1 rfl ?_
  refine wp_blk (pc' := 17) (L' := [some (.ref 19), some (.ref 37), some (.int 7)]) (st' := []) (h' := ((76, 1769), zS, I, (zup (zup (zup (zup (zup (zup (zPP (zPr 4)) 20 0 (some 41)) 20 1 (some 45)) 20 2 (some 49)) 20 3 (some 21)) 20 4 (some 25)) 20 5 (some 29)))) 1 rfl ?_
  refine wp_blk (pc' := 18) (L' := [some (.ref 19), some (.ref 37), some (.int 7)]) (st' := [.ref 19]) (h' := ((76, 1769), zS, I, (zup (zup (zup (zup (zup (zup (zPP (zPr 4)) 20 0 (some 41)) 20 1 (some 45)) 20 2 (some 49)) 20 3 (some 21)) 20 4 (some 25)) 20 5 (some 29)))) 1 rfl ?_
  refine wp_blk (pc' := 21) (L' := [some (.ref 19), some (.ref 37), some (.int 7)]) (st' := [.ref 20]) (h' := ((76, 1769), zS, I, (zup (zup (zup (zup (zup (zup (zPP (zPr 4)) 20 0 (some 41)) 20 1 (some 45)) 20 2 (some 49)) 20 3 (some 21)) 20 4 (some 25)) 20 5 (some 29)))) 1 rfl ?_
  refine wp_blk (pc' := 22) (L' := [some (.ref 19), some (.ref 37), some (.int 7)]) (st' := [.int 7, .ref 20]) (h' := ((76, 1769), zS, I, (zup (zup (zup (zup (zup (zup (zPP (zPr 4)) 20 0 (some 41)) 20 1 (some 45)) 20 2 (some 49)) 20 3 (some 21)) 20 4 (some 25)) 20 5 (some 29)))) 1 rfl ?_
  refine wp_blk (pc' := 23) (L' := [some (.ref 19), some (.ref 37), some (.int 7)]) (st' := [.int 1, .int 7, .ref 20]) (h' := ((76, 1769), zS, I, (zup (zup (zup (zup (zup (zup (zPP (zPr 4)) 20 0 (some 41)) 20 1 (some 45)) 20 2 (some 49)) 20 3 (some 21)) 20 4 (some 25)) 20 5 (some 29)))) 1 rfl ?_
  refine wp_blk (pc' := 24) (L' := [some (.ref 19), some (.ref 37), some (.int 7)]) (st' := [.int 6, .ref 20]) (h' := ((76, 1769), zS, I, (zup (zup (zup (zup (zup (zup (zPP (zPr 4)) 20 0 (some 41)) 20 1 (some 45)) 20 2 (some 49)) 20 3 (some 21)) 20 4 (some 25)) 20 5 (some 29)))) 1 rfl ?_
  refine wp_blk (pc' := 25) (L' := [some (.ref 19), some (.ref 37), some (.int 7)]) (st' := [.ref 19, .int 6, .ref 20]) (h' := ((76, 1769), zS, I, (zup (zup (zup (zup (zup (zup (zPP (zPr 4)) 20 0 (some 41)) 20 1 (some 45)) 20 2 (some 49)) 20 3 (some 21)) 20 4 (some 25)) 20 5 (some 29)))) 1 rfl ?_
  refine wp_blk (pc' := 28) (L' := [some (.ref 19), some (.ref 37), some (.int 7)]) (st' := [.ref 20, .int 6, .ref 20]) (h' := ((76, 1769), zS, I, (zup (zup (zup (zup (zup (zup (zPP (zPr 4)) 20 0 (some 41)) 20 1 (some 45)) 20 2 (some 49)) 20 3 (some 21)) 20 4 (some 25)) 20 5 (some 29)))) 1 rfl ?_
  refine wp_blk (pc' := 29) (L' := [some (.ref 19), some (.ref 37), some (.int 7)]) (st' := [.int 7, .ref 20, .int 6, .ref 20]) (h' := ((76, 1769), zS, I, (zup (zup (zup (zup (zup (zup (zPP (zPr 4)) 20 0 (some 41)) 20 1 (some 45)) 20 2 (some 49)) 20 3 (some 21)) 20 4 (some 25)) 20 5 (some 29)))) 1 rfl ?_
  refine wp_blk (pc' := 30) (L' := [some (.ref 19), some (.ref 37), some (.int 7)]) (st' := [.ref 33, .int 6, .ref 20]) (h' := ((76, 1769), zS, I, (zup (zup (zup (zup (zup (zup (zPP (zPr 4)) 20 0 (some 41)) 20 1 (some 45)) 20 2 (some 49)) 20 3 (some 21)) 20 4 (some 25)) 20 5 (some 29)))) 1 rfl ?_
  refine wp_blk (pc' := 31) (L' := [some (.ref 19), some (.ref 37), some (.int 7)]) (st' := []) (h' := ((76, 1769), zS, I, (zup (zup (zup (zup (zup (zup (zup (zPP (zPr 4)) 20 0 (some 41)) 20 1 (some 45)) 20 2 (some 49)) 20 3 (some 21)) 20 4 (some 25)) 20 5 (some 29)) 20 6 (some 33)))) 1 rfl ?_
  refine wp_blk (pc' := 34) (L' := [some (.ref 19), some (.ref 37), some (.int 8)]) (st' := []) (h' := ((76, 1769), zS, I, (zup (zup (zup (zup (zup (zup (zup (zPP (zPr 4)) 20 0 (some 41)) 20 1 (some 45)) 20 2 (some 49)) 20 3 (some 21)) 20 4 (some 25)) 20 5 (some 29)) 20 6 (some 33)))) 1 rfl ?_
  refine wp_blk (pc' := 8) (L' := [some (.ref 19), some (.ref 37), some (.int 8)]) (st' := []) (h' := ((76, 1769), zS, I, (zup (zup (zup (zup (zup (zup (zup (zPP (zPr 4)) 20 0 (some 41)) 20 1 (some 45)) 20 2 (some 49)) 20 3 (some 21)) 20 4 (some 25)) 20 5 (some 29)) 20 6 (some 33)))) 1 rfl ?_
  refine wp_blk (pc' := 9) (L' := [some (.ref 19), some (.ref 37), some (.int 8)]) (st' := [.int 8]) (h' := ((76, 1769), zS, I, (zup (zup (zup (zup (zup (zup (zup (zPP (zPr 4)) 20 0 (some 41)) 20 1 (some 45)) 20 2 (some 49)) 20 3 (some 21)) 20 4 (some 25)) 20 5 (some 29)) 20 6 (some 33)))) 1 rfl ?_
  refine wp_blk (pc' := 10) (L' := [some (.ref 19), some (.ref 37), some (.int 8)]) (st' := [.ref 19, .int 8]) (h' := ((76, 1769), zS, I, (zup (zup (zup (zup (zup (zup (zup (zPP (zPr 4)) 20 0 (some 41)) 20 1 (some 45)) 20 2 (some 49)) 20 3 (some 21)) 20 4 (some 25)) 20 5 (some 29)) 20 6 (some 33)))) 1 rfl ?_
  refine wp_blk (pc' := 13) (L' := [some (.ref 19), some (.ref 37), some (.int 8)]) (st' := [.ref 20, .int 8]) (h' := ((76, 1769), zS, I, (zup (zup (zup (zup (zup (zup (zup (zPP (zPr 4)) 20 0 (some 41)) 20 1 (some 45)) 20 2 (some 49)) 20 3 (some 21)) 20 4 (some 25)) 20 5 (some 29)) 20 6 (some 33)))) 1 rfl ?_
  refine wp_blk (pc' := 14) (L' := [some (.ref 19), some (.ref 37), some (.int 8)]) (st' := [.int 8, .int 8]) (h' := ((76, 1769), zS, I, (zup (zup (zup (zup (zup (zup (zup (zPP (zPr 4)) 20 0 (some 41)) 20 1 (some 45)) 20 2 (some 49)) 20 3 (some 21)) 20 4 (some 25)) 20 5 (some 29)) 20 6 (some 33)))) 1 rfl ?_
  refine wp_blk (pc' := 37) (L' := [some (.ref 19), some (.ref 37), some (.int 8)]) (st' := []) (h' := ((76, 1769), zS, I, (zup (zup (zup (zup (zup (zup (zup (zPP (zPr 4)) 20 0 (some 41)) 20 1 (some 45)) 20 2 (some 49)) 20 3 (some 21)) 20 4 (some 25)) 20 5 (some 29)) 20 6 (some 33)))) 1 rfl ?_
  refine wp_blk (pc' := 38) (L' := [some (.ref 19), some (.ref 37), some (.int 8)]) (st' := [.ref 19]) (h' := ((76, 1769), zS, I, (zup (zup (zup (zup (zup (zup (zup (zPP (zPr 4)) 20 0 (some 41)) 20 1 (some 45)) 20 2 (some 49)) 20 3 (some 21)) 20 4 (some 25)) 20 5 (some 29)) 20 6 (some 33)))) 1 rfl ?_
  refine wp_blk (pc' := 39) (L' := [some (.ref 19), some (.ref 37), some (.int 8)]) (st' := [.ref 19, .ref 19]) (h' := ((76, 1769), zS, I, (zup (zup (zup (zup (zup (zup (zup (zPP (zPr 4)) 20 0 (some 41)) 20 1 (some 45)) 20 2 (some 49)) 20 3 (some 21)) 20 4 (some 25)) 20 5 (some 29)) 20 6 (some 33)))) 1 rfl ?_
  refine wp_blk (pc' := 42) (L' := [some (.ref 19), some (.ref 37), some (.int 8)]) (st' := [.ref 20, .ref 19]) (h' := ((76, 1769), zS, I, (zup (zup (zup (zup (zup (zup (zup (zPP (zPr 4)) 20 0 (some 41)) 20 1 (some 45)) 20 2 (some 49)) 20 3 (some 21)) 20 4 (some 25)) 20 5 (some 29)) 20 6 (some 33)))) 1 rfl ?_
  refine wp_blk (pc' := 43) (L' := [some (.ref 19), some (.ref 37), some (.int 8)]) (st' := [.int 8, .ref 19]) (h' := ((76, 1769), zS, I, (zup (zup (zup (zup (zup (zup (zup (zPP (zPr 4)) 20 0 (some 41)) 20 1 (some 45)) 20 2 (some 49)) 20 3 (some 21)) 20 4 (some 25)) 20 5 (some 29)) 20 6 (some 33)))) 1 rfl ?_
  refine wp_blk (pc' := 44) (L' := [some (.ref 19), some (.ref 37), some (.int 8)]) (st' := [.int 1, .int 8, .ref 19]) (h' := ((76, 1769), zS, I, (zup (zup (zup (zup (zup (zup (zup (zPP (zPr 4)) 20 0 (some 41)) 20 1 (some 45)) 20 2 (some 49)) 20 3 (some 21)) 20 4 (some 25)) 20 5 (some 29)) 20 6 (some 33)))) 1 rfl ?_
  refine wp_blk (pc' := 45) (L' := [some (.ref 19), some (.ref 37), some (.int 8)]) (st' := [.int 7, .ref 19]) (h' := ((76, 1769), zS, I, (zup (zup (zup (zup (zup (zup (zup (zPP (zPr 4)) 20 0 (some 41)) 20 1 (some 45)) 20 2 (some 49)) 20 3 (some 21)) 20 4 (some 25)) 20 5 (some 29)) 20 6 (some 33)))) 1 rfl ?_
  refine wp_blk (pc' := 48) (L' := [some (.ref 19), some (.ref 37), some (.int 8)]) (st' := []) (h' := ((76, 1769), zS, (zui I 19 1 7), (zup (zup (zup (zup (zup (zup (zup (zPP (zPr 4)) 20 0 (some 41)) 20 1 (some 45)) 20 2 (some 49)) 20 3 (some 21)) 20 4 (some 25)) 20 5 (some 29)) 20 6 (some 33)))) 1 rfl ?_
  refine wp_blk (pc' := 49) (L' := [some (.ref 19), some (.ref 37), some (.int 8)]) (st' := [.ref 19]) (h' := ((76, 1769), zS, (zui I 19 1 7), (zup (zup (zup (zup (zup (zup (zup (zPP (zPr 4)) 20 0 (some 41)) 20 1 (some 45)) 20 2 (some 49)) 20 3 (some 21)) 20 4 (some 25)) 20 5 (some 29)) 20 6 (some 33)))) 1 rfl ?_
  refine wp_blk (pc' := 52) (L' := [some (.ref 19), some (.ref 37), some (.int 8)]) (st' := [.int 7]) (h' := ((76, 1769), zS, (zui I 19 1 7), (zup (zup (zup (zup (zup (zup (zup (zPP (zPr 4)) 20 0 (some 41)) 20 1 (some 45)) 20 2 (some 49)) 20 3 (some 21)) 20 4 (some 25)) 20 5 (some 29)) 20 6 (some 33)))) 1 rfl ?_
  refine wp_blk (pc' := 55) (L' := [some (.ref 19), some (.ref 37), some (.int 8)]) (st' := []) (h' := ((76, 1769), zS, (zui I 19 1 7), (zup (zup (zup (zup (zup (zup (zup (zPP (zPr 4)) 20 0 (some 41)) 20 1 (some 45)) 20 2 (some 49)) 20 3 (some 21)) 20 4 (some 25)) 20 5 (some 29)) 20 6 (some 33)))) 1 rfl ?_
  refine wp_blk (pc' := 56) (L' := [some (.ref 19), some (.ref 37), some (.int 8)]) (st' := [.ref 19]) (h' := ((76, 1769), zS, (zui I 19 1 7), (zup (zup (zup (zup (zup (zup (zup (zPP (zPr 4)) 20 0 (some 41)) 20 1 (some 45)) 20 2 (some 49)) 20 3 (some 21)) 20 4 (some 25)) 20 5 (some 29)) 20 6 (some 33)))) 1 rfl ?_
  refine wp_blk (pc' := 59) (L' := [some (.ref 19), some (.ref 37), some (.int 8)]) (st' := [.ref 20]) (h' := ((76, 1769), zS, (zui I 19 1 7), (zup (zup (zup (zup (zup (zup (zup (zPP (zPr 4)) 20 0 (some 41)) 20 1 (some 45)) 20 2 (some 49)) 20 3 (some 21)) 20 4 (some 25)) 20 5 (some 29)) 20 6 (some 33)))) 1 rfl ?_
  refine wp_blk (pc' := 60) (L' := [some (.ref 19), some (.ref 37), some (.int 8)]) (st' := [.ref 19, .ref 20]) (h' := ((76, 1769), zS, (zui I 19 1 7), (zup (zup (zup (zup (zup (zup (zup (zPP (zPr 4)) 20 0 (some 41)) 20 1 (some 45)) 20 2 (some 49)) 20 3 (some 21)) 20 4 (some 25)) 20 5 (some 29)) 20 6 (some 33)))) 1 rfl ?_
  refine wp_blk (pc' := 63) (L' := [some (.ref 19), some (.ref 37), some (.int 8)]) (st' := [.int 7, .ref 20]) (h' := ((76, 1769), zS, (zui I 19 1 7), (zup (zup (zup (zup (zup (zup (zup (zPP (zPr 4)) 20 0 (some 41)) 20 1 (some 45)) 20 2 (some 49)) 20 3 (some 21)) 20 4 (some 25)) 20 5 (some 29)) 20 6 (some 33)))) 1 rfl ?_
  refine wp_blk (pc' := 64) (L' := [some (.ref 19), some (.ref 37), some (.int 8)]) (st' := [.ref 37, .int 7, .ref 20]) (h' := ((76, 1769), zS, (zui I 19 1 7), (zup (zup (zup (zup (zup (zup (zup (zPP (zPr 4)) 20 0 (some 41)) 20 1 (some 45)) 20 2 (some 49)) 20 3 (some 21)) 20 4 (some 25)) 20 5 (some 29)) 20 6 (some 33)))) 1 rfl ?_
  refine wp_blk (pc' := 65) (L' := [some (.ref 19), some (.ref 37), some (.int 8)]) (st' := []) (h' := ((76, 1769), zS, (zui I 19 1 7), (zup (zup (zup (zup (zup (zup (zup (zup (zPP (zPr 4)) 20 0 (some 41)) 20 1 (some 45)) 20 2 (some 49)) 20 3 (some 21)) 20 4 (some 25)) 20 5 (some 29)) 20 6 (some 33)) 20 7 (some 37)))) 1 rfl ?_
  exact wp_end rfl rfl ⟨rfl, by rw [zH, ← zrot_4]⟩
set_option maxRecDepth 100000 in
theorem sp_drop_5 {X : Nat × (Nat → Int32)} (I : Nat → Nat → Int32) : Wf X 67 [some (.ref 19), none, none] (zH I (zPr 5)) none (zH (zui I 19 1 7) (zPr 6)) := by
  unfold Wf
  refine wp_blk (pc' := 1) (L' := [some (.ref 19), none, none]) (st' := [.ref 19]) (h' := zH I (zPr 5)) 1 rfl ?_
  refine wp_blk (pc' := 2) (L' := [some (.ref 19), none, none]) (st' := [.int 0, .ref 19]) (h' := zH I (zPr 5)) 1 rfl ?_
  refine wp_callf (d := 68) (as := [.ref 19, .int 0]) (rest := []) (Ld := [some (.ref 19), some (.int 0)]) (pc' := 5) (st' := [.ref 41]) (r := some (.ref 41)) (h1 := zH I (zPr 5)) rfl rfl rfl rfl rfl rfl rfl rfl rfl (sp_at19_5_0 (X := X) I) ?_
  refine wp_blk (pc' := 6) (L' := [some (.ref 19), some (.ref 41), none]) (st' := []) (h' := zH I (zPr 5)) 1 rfl ?_
  refine wp_blk (pc' := 7) (L' := [some (.ref 19), some (.ref 41), none]) (st' := [.int 1]) (h' := zH I (zPr 5)) 1 rfl ?_
  refine wp_blk (pc' := 8) (L' := [some (.ref 19), some (.ref 41), some (.int 1)]) (st' := []) (h' := zH I (zPr 5)) 1 rfl ?_
  refine wp_blk (pc' := 9) (L' := [some (.ref 19), some (.ref 41), some (.int 1)]) (st' := [.int 1]) (h' := zH I (zPr 5)) 1 rfl ?_
  refine wp_blk (pc' := 10) (L' := [some (.ref 19), some (.ref 41), some (.int 1)]) (st' := [.ref 19, .int 1]) (h' := zH I (zPr 5)) 1 rfl ?_
  refine wp_blk (pc' := 13) (L' := [some (.ref 19), some (.ref 41), some (.int 1)]) (st' := [.ref 20, .int 1]) (h' := zH I (zPr 5)) 1 rfl ?_
  refine wp_blk (pc' := 14) (L' := [some (.ref 19), some (.ref 41), some (.int 1)]) (st' := [.int 8, .int 1]) (h' := zH I (zPr 5)) 1 rfl ?_
  refine wp_blk (pc' := 17) (L' := [some (.ref 19), some (.ref 41), some (.int 1)]) (st' := []) (h' := zH I (zPr 5)) 1 rfl ?_
  refine wp_blk (pc' := 18) (L' := [some (.ref 19), some (.ref 41), some (.int 1)]) (st' := [.ref 19]) (h' := zH I (zPr 5)) 1 rfl ?_
  refine wp_blk (pc' := 21) (L' := [some (.ref 19), some (.ref 41), some (.int 1)]) (st' := [.ref 20]) (h' := zH I (zPr 5)) 1 rfl ?_
  refine wp_blk (pc' := 22) (L' := [some (.ref 19), some (.ref 41), some (.int 1)]) (st' := [.int 1, .ref 20]) (h' := zH I (zPr 5)) 1 rfl ?_
  refine wp_blk (pc' := 23) (L' := [some (.ref 19), some (.ref 41), some (.int 1)]) (st' := [.int 1, .int 1, .ref 20]) (h' := zH I (zPr 5)) 1 rfl ?_
  refine wp_blk (pc' := 24) (L' := [some (.ref 19), some (.ref 41), some (.int 1)]) (st' := [.int 0, .ref 20]) (h' := zH I (zPr 5)) 1 rfl ?_
  refine wp_blk (pc' := 25) (L' := [some (.ref 19), some (.ref 41), some (.int 1)]) (st' := [.ref 19, .int 0, .ref 20]) (h' := zH I (zPr 5)) 1 rfl ?_
  refine wp_blk (pc' := 28) (L' := [some (.ref 19), some (.ref 41), some (.int 1)]) (st' := [.ref 20, .int 0, .ref 20]) (h' := zH I (zPr 5)) 1 rfl ?_
  refine wp_blk (pc' := 29) (L' := [some (.ref 19), some (.ref 41), some (.int 1)]) (st' := [.int 1, .ref 20, .int 0, .ref 20]) (h' := zH I (zPr 5)) 1 rfl ?_
  refine wp_blk (pc' := 30) (L' := [some (.ref 19), some (.ref 41), some (.int 1)]) (st' := [.ref 45, .int 0, .ref 20]) (h' := zH I (zPr 5)) 1 rfl ?_
  refine wp_blk (pc' := 31) (L' := [some (.ref 19), some (.ref 41), some (.int 1)]) (st' := []) (h' := ((76, 1769), zS, I, (zup (zPP (zPr 5)) 20 0 (some 45)))) 1 rfl ?_
  refine wp_blk (pc' := 34) (L' := [some (.ref 19), some (.ref 41), some (.int 2)]) (st' := []) (h' := ((76, 1769), zS, I, (zup (zPP (zPr 5)) 20 0 (some 45)))) 1 rfl ?_
  refine wp_blk (pc' := 8) (L' := [some (.ref 19), some (.ref 41), some (.int 2)]) (st' := []) (h' := ((76, 1769), zS, I, (zup (zPP (zPr 5)) 20 0 (some 45)))) 1 rfl ?_
  refine wp_blk (pc' := 9) (L' := [some (.ref 19), some (.ref 41), some (.int 2)]) (st' := [.int 2]) (h' := ((76, 1769), zS, I, (zup (zPP (zPr 5)) 20 0 (some 45)))) 1 rfl ?_
  refine wp_blk (pc' := 10) (L' := [some (.ref 19), some (.ref 41), some (.int 2)]) (st' := [.ref 19, .int 2]) (h' := ((76, 1769), zS, I, (zup (zPP (zPr 5)) 20 0 (some 45)))) 1 rfl ?_
  refine wp_blk (pc' := 13) (L' := [some (.ref 19), some (.ref 41), some (.int 2)]) (st' := [.ref 20, .int 2]) (h' := ((76, 1769), zS, I, (zup (zPP (zPr 5)) 20 0 (some 45)))) 1 rfl ?_
  refine wp_blk (pc' := 14) (L' := [some (.ref 19), some (.ref 41), some (.int 2)]) (st' := [.int 8, .int 2]) (h' := ((76, 1769), zS, I, (zup (zPP (zPr 5)) 20 0 (some 45)))) 1 rfl ?_
  refine wp_blk (pc' := 17) (L' := [some (.ref 19), some (.ref 41), some (.int 2)]) (st' := []) (h' := ((76, 1769), zS, I, (zup (zPP (zPr 5)) 20 0 (some 45)))) 1 rfl ?_
  refine wp_blk (pc' := 18) (L' := [some (.ref 19), some (.ref 41), some (.int 2)]) (st' := [.ref 19]) (h' := ((76, 1769), zS, I, (zup (zPP (zPr 5)) 20 0 (some 45)))) 1 rfl ?_
  refine wp_blk (pc' := 21) (L' := [some (.ref 19), some (.ref 41), some (.int 2)]) (st' := [.ref 20]) (h' := ((76, 1769), zS, I, (zup (zPP (zPr 5)) 20 0 (some 45)))) 1 rfl ?_
  refine wp_blk (pc' := 22) (L' := [some (.ref 19), some (.ref 41), some (.int 2)]) (st' := [.int 2, .ref 20]) (h' := ((76, 1769), zS, I, (zup (zPP (zPr 5)) 20 0 (some 45)))) 1 rfl ?_
  refine wp_blk (pc' := 23) (L' := [some (.ref 19), some (.ref 41), some (.int 2)]) (st' := [.int 1, .int 2, .ref 20]) (h' := ((76, 1769), zS, I, (zup (zPP (zPr 5)) 20 0 (some 45)))) 1 rfl ?_
  refine wp_blk (pc' := 24) (L' := [some (.ref 19), some (.ref 41), some (.int 2)]) (st' := [.int 1, .ref 20]) (h' := ((76, 1769), zS, I, (zup (zPP (zPr 5)) 20 0 (some 45)))) 1 rfl ?_
  refine wp_blk (pc' := 25) (L' := [some (.ref 19), some (.ref 41), some (.int 2)]) (st' := [.ref 19, .int 1, .ref 20]) (h' := ((76, 1769), zS, I, (zup (zPP (zPr 5)) 20 0 (some 45)))) 1 rfl ?_
  refine wp_blk (pc' := 28) (L' := [some (.ref 19), some (.ref 41), some (.int 2)]) (st' := [.ref 20, .int 1, .ref 20]) (h' := ((76, 1769), zS, I, (zup (zPP (zPr 5)) 20 0 (some 45)))) 1 rfl ?_
  refine wp_blk (pc' := 29) (L' := [some (.ref 19), some (.ref 41), some (.int 2)]) (st' := [.int 2, .ref 20, .int 1, .ref 20]) (h' := ((76, 1769), zS, I, (zup (zPP (zPr 5)) 20 0 (some 45)))) 1 rfl ?_
  refine wp_blk (pc' := 30) (L' := [some (.ref 19), some (.ref 41), some (.int 2)]) (st' := [.ref 49, .int 1, .ref 20]) (h' := ((76, 1769), zS, I, (zup (zPP (zPr 5)) 20 0 (some 45)))) 1 rfl ?_
  refine wp_blk (pc' := 31) (L' := [some (.ref 19), some (.ref 41), some (.int 2)]) (st' := []) (h' := ((76, 1769), zS, I, (zup (zup (zPP (zPr 5)) 20 0 (some 45)) 20 1 (some 49)))) 1 rfl ?_
  refine wp_blk (pc' := 34) (L' := [some (.ref 19), some (.ref 41), some (.int 3)]) (st' := []) (h' := ((76, 1769), zS, I, (zup (zup (zPP (zPr 5)) 20 0 (some 45)) 20 1 (some 49)))) 1 rfl ?_
  refine wp_blk (pc' := 8) (L' := [some (.ref 19), some (.ref 41), some (.int 3)]) (st' := []) (h' := ((76, 1769), zS, I, (zup (zup (zPP (zPr 5)) 20 0 (some 45)) 20 1 (some 49)))) 1 rfl ?_
  refine wp_blk (pc' := 9) (L' := [some (.ref 19), some (.ref 41), some (.int 3)]) (st' := [.int 3]) (h' := ((76, 1769), zS, I, (zup (zup (zPP (zPr 5)) 20 0 (some 45)) 20 1 (some 49)))) 1 rfl ?_
  refine wp_blk (pc' := 10) (L' := [some (.ref 19), some (.ref 41), some (.int 3)]) (st' := [.ref 19, .int 3]) (h' := ((76, 1769), zS, I, (zup (zup (zPP (zPr 5)) 20 0 (some 45)) 20 1 (some 49)))) 1 rfl ?_
  refine wp_blk (pc' := 13) (L' := [some (.ref 19), some (.ref 41), some (.int 3)]) (st' := [.ref 20, .int 3]) (h' := ((76, 1769), zS, I, (zup (zup (zPP (zPr 5)) 20 0 (some 45)) 20 1 (some 49)))) 1 rfl ?_
  refine wp_blk (pc' := 14) (L' := [some (.ref 19), some (.ref 41), some (.int 3)]) (st' := [.int 8, .int 3]) (h' := ((76, 1769), zS, I, (zup (zup (zPP (zPr 5)) 20 0 (some 45)) 20 1 (some 49)))) 1 rfl ?_
  refine wp_blk (pc' := 17) (L' := [some (.ref 19), some (.ref 41), some (.int 3)]) (st' := []) (h' := ((76, 1769), zS, I, (zup (zup (zPP (zPr 5)) 20 0 (some 45)) 20 1 (some 49)))) 1 rfl ?_
  refine wp_blk (pc' := 18) (L' := [some (.ref 19), some (.ref 41), some (.int 3)]) (st' := [.ref 19]) (h' := ((76, 1769), zS, I, (zup (zup (zPP (zPr 5)) 20 0 (some 45)) 20 1 (some 49)))) 1 rfl ?_
  refine wp_blk (pc' := 21) (L' := [some (.ref 19), some (.ref 41), some (.int 3)]) (st' := [.ref 20]) (h' := ((76, 1769), zS, I, (zup (zup (zPP (zPr 5)) 20 0 (some 45)) 20 1 (some 49)))) 1 rfl ?_
  refine wp_blk (pc' := 22) (L' := [some (.ref 19), some (.ref 41), some (.int 3)]) (st' := [.int 3, .ref 20]) (h' := ((76, 1769), zS, I, (zup (zup (zPP (zPr 5)) 20 0 (some 45)) 20 1 (some 49)))) 1 rfl ?_
  refine wp_blk (pc' := 23) (L' := [some (.ref 19), some (.ref 41), some (.int 3)]) (st' := [.int 1, .int 3, .ref 20]) (h' := ((76, 1769), zS, I, (zup (zup (zPP (zPr 5)) 20 0 (some 45)) 20 1 (some 49)))) 1 rfl ?_
  refine wp_blk (pc' := 24) (L' := [some (.ref 19), some (.ref 41), some (.int 3)]) (st' := [.int 2, .ref 20]) (h' := ((76, 1769), zS, I, (zup (zup (zPP (zPr 5)) 20 0 (some 45)) 20 1 (some 49)))) 1 rfl ?_
  refine wp_blk (pc' := 25) (L' := [some (.ref 19), some (.ref 41), some (.int 3)]) (st' := [.ref 19, .int 2, .ref 20]) (h' := ((76, 1769), zS, I, (zup (zup (zPP (zPr 5)) 20 0 (some 45)) 20 1 (some 49)))) 1 rfl ?_
  refine wp_blk (pc' := 28) (L' := [some (.ref 19), some (.ref 41), some (.int 3)]) (st' := [.ref 20, .int 2, .ref 20]) (h' := ((76, 1769), zS, I, (zup (zup (zPP (zPr 5)) 20 0 (some 45)) 20 1 (some 49)))) 1 rfl ?_
  refine wp_blk (pc' := 29) (L' := [some (.ref 19), some (.ref 41), some (.int 3)]) (st' := [.int 3, .ref 20, .int 2, .ref 20]) (h' := ((76, 1769), zS, I, (zup (zup (zPP (zPr 5)) 20 0 (some 45)) 20 1 (some 49)))) 1 rfl ?_
  refine wp_blk (pc' := 30) (L' := [some (.ref 19), some (.ref 41), some (.int 3)]) (st' := [.ref 21, .int 2, .ref 20]) (h' := ((76, 1769), zS, I, (zup (zup (zPP (zPr 5)) 20 0 (some 45)) 20 1 (some 49)))) 1 rfl ?_
  refine wp_blk (pc' := 31) (L' := [some (.ref 19), some (.ref 41), some (.int 3)]) (st' := []) (h' := ((76, 1769), zS, I, (zup (zup (zup (zPP (zPr 5)) 20 0 (some 45)) 20 1 (some 49)) 20 2 (some 21)))) 1 rfl ?_
  refine wp_blk (pc' := 34) (L' := [some (.ref 19), some (.ref 41), some (.int 4)]) (st' := []) (h' := ((76, 1769), zS, I, (zup (zup (zup (zPP (zPr 5)) 20 0 (some 45)) 20 1 (some 49)) 20 2 (some 21)))) 1 rfl ?_
  refine wp_blk (pc' := 8) (L' := [some (.ref 19), some (.ref 41), some (.int 4)]) (st' := []) (h' := ((76, 1769), zS, I, (zup (zup (zup (zPP (zPr 5)) 20 0 (some 45)) 20 1 (some 49)) 20 2 (some 21)))) 1 rfl ?_
  refine wp_blk (pc' := 9) (L' := [some (.ref 19), some (.ref 41), some (.int 4)]) (st' := [.int 4]) (h' := ((76, 1769), zS, I, (zup (zup (zup (zPP (zPr 5)) 20 0 (some 45)) 20 1 (some 49)) 20 2 (some 21)))) 1 rfl ?_
  refine wp_blk (pc' := 10) (L' := [some (.ref 19), some (.ref 41), some (.int 4)]) (st' := [.ref 19, .int 4]) (h' := ((76, 1769), zS, I, (zup (zup (zup (zPP (zPr 5)) 20 0 (some 45)) 20 1 (some 49)) 20 2 (some 21)))) 1 rfl ?_
  refine wp_blk (pc' := 13) (L' := [some (.ref 19), some (.ref 41), some (.int 4)]) (st' := [.ref 20, .int 4]) (h' := ((76, 1769), zS, I, (zup (zup (zup (zPP (zPr 5)) 20 0 (some 45)) 20 1 (some 49)) 20 2 (some 21)))) 1 rfl ?_
  refine wp_blk (pc' := 14) (L' := [some (.ref 19), some (.ref 41), some (.int 4)]) (st' := [.int 8, .int 4]) (h' := ((76, 1769), zS, I, (zup (zup (zup (zPP (zPr 5)) 20 0 (some 45)) 20 1 (some 49)) 20 2 (some 21)))) 1 rfl ?_
  refine wp_blk (pc' := 17) (L' := [some (.ref 19), some (.ref 41), some (.int 4)]) (st' := []) (h' := ((76, 1769), zS, I, (zup (zup (zup (zPP (zPr 5)) 20 0 (some 45)) 20 1 (some 49)) 20 2 (some 21)))) 1 rfl ?_
  refine wp_blk (pc' := 18) (L' := [some (.ref 19), some (.ref 41), some (.int 4)]) (st' := [.ref 19]) (h' := ((76, 1769), zS, I, (zup (zup (zup (zPP (zPr 5)) 20 0 (some 45)) 20 1 (some 49)) 20 2 (some 21)))) 1 rfl ?_
  refine wp_blk (pc' := 21) (L' := [some (.ref 19), some (.ref 41), some (.int 4)]) (st' := [.ref 20]) (h' := ((76, 1769), zS, I, (zup (zup (zup (zPP (zPr 5)) 20 0 (some 45)) 20 1 (some 49)) 20 2 (some 21)))) 1 rfl ?_
  refine wp_blk (pc' := 22) (L' := [some (.ref 19), some (.ref 41), some (.int 4)]) (st' := [.int 4, .ref 20]) (h' := ((76, 1769), zS, I, (zup (zup (zup (zPP (zPr 5)) 20 0 (some 45)) 20 1 (some 49)) 20 2 (some 21)))) 1 rfl ?_
  refine wp_blk (pc' := 23) (L' := [some (.ref 19), some (.ref 41), some (.int 4)]) (st' := [.int 1, .int 4, .ref 20]) (h' := ((76, 1769), zS, I, (zup (zup (zup (zPP (zPr 5)) 20 0 (some 45)) 20 1 (some 49)) 20 2 (some 21)))) 1 rfl ?_
  refine wp_blk (pc' := 24) (L' := [some (.ref 19), some (.ref 41), some (.int 4)]) (st' := [.int 3, .ref 20]) (h' := ((76, 1769), zS, I, (zup (zup (zup (zPP (zPr 5)) 20 0 (some 45)) 20 1 (some 49)) 20 2 (some 21)))) 1 rfl ?_
  refine wp_blk (pc' := 25) (L' := [some (.ref 19), some (.ref 41), some (.int 4)]) (st' := [.ref 19, .int 3, .ref 20]) (h' := ((76, 1769), zS, I, (zup (zup (zup (zPP (zPr 5)) 20 0 (some 45)) 20 1 (some 49)) 20 2 (some 21)))) 1 rfl ?_
  refine wp_blk (pc' := 28) (L' := [some (.ref 19), some (.ref 41), some (.int 4)]) (st' := [.ref 20, .int 3, .ref 20]) (h' := ((76, 1769), zS, I, (zup (zup (zup (zPP (zPr 5)) 20 0 (some 45)) 20 1 (some 49)) 20 2 (some 21)))) 1 rfl ?_
  refine wp_blk (pc' := 29) (L' := [some (.ref 19), some (.ref 41), some (.int 4)]) (st' := [.int 4, .ref 20, .int 3, .ref 20]) (h' := ((76, 1769), zS, I, (zup (zup (zup (zPP (zPr 5)) 20 0 (some 45)) 20 1 (some 49)) 20 2 (some 21)))) 1 rfl ?_
  refine wp_blk (pc' := 30) (L' := [some (.ref 19), some (.ref 41), some (.int 4)]) (st' := [.ref 25, .int 3, .ref 20]) (h' := ((76, 1769), zS, I, (zup (zup (zup (zPP (zPr 5)) 20 0 (some 45)) 20 1 (some 49)) 20 2 (some 21)))) 1 rfl ?_
  refine wp_blk (pc' := 31) (L' := [some (.ref 19), some (.ref 41), some (.int 4)]) (st' := []) (h' := ((76, 1769), zS, I, (zup (zup (zup (zup (zPP (zPr 5)) 20 0 (some 45)) 20 1 (some 49)) 20 2 (some 21)) 20 3 (some 25)))) 1 rfl ?_
  refine wp_blk (pc' := 34) (L' := [some (.ref 19), some (.ref 41), some (.int 5)]) (st' := []) (h' := ((76, 1769), zS, I, (zup (zup (zup (zup (zPP (zPr 5)) 20 0 (some 45)) 20 1 (some 49)) 20 2 (some 21)) 20 3 (some 25)))) 1 rfl ?_
  refine wp_blk (pc' := 8) (L' := [some (.ref 19), some (.ref 41), some (.int 5)]) (st' := []) (h' := ((76, 1769), zS, I, (zup (zup (zup (zup (zPP (zPr 5)) 20 0 (some 45)) 20 1 (some 49)) 20 2 (some 21)) 20 3 (some 25)))) 1 rfl ?_
  refine wp_blk (pc' := 9) (L' := [some (.ref 19), some (.ref 41), some (.int 5)]) (st' := [.int 5]) (h' := ((76, 1769), zS, I, (zup (zup (zup (zup (zPP (zPr 5)) 20 0 (some 45)) 20 1 (some 49)) 20 2 (some 21)) 20 3 (some 25)))) 1 rfl ?_
  refine wp_blk (pc' := 10) (L' := [some (.ref 19), some (.ref 41), some (.int 5)]) (st' := [.ref 19, .int 5]) (h' := ((76, 1769), zS, I, (zup (zup (zup (zup (zPP (zPr 5)) 20 0 (some 45)) 20 1 (some 49)) 20 2 (some 21)) 20 3 (some 25)))) 1 rfl ?_
  refine wp_blk (pc' := 13) (L' := [some (.ref 19), some (.ref 41), some (.int 5)]) (st' := [.ref 20, .int 5]) (h' := ((76, 1769), zS, I, (zup (zup (zup (zup (zPP (zPr 5)) 20 0 (some 45)) 20 1 (some 49)) 20 2 (some 21)) 20 3 (some 25)))) 1 rfl ?_
  refine wp_blk (pc' := 14) (L' := [some (.ref 19), some (.ref 41), some (.int 5)]) (st' := [.int 8, .int 5]) (h' := ((76, 1769), zS, I, (zup (zup (zup (zup (zPP (zPr 5)) 20 0 (some 45)) 20 1 (some 49)) 20 2 (some 21)) 20 3 (some 25)))) 1 rfl ?_
  refine wp_blk (pc' := 17) (L' := [some (.ref 19), some (.ref 41), some (.int 5)]) (st' := []) (h' := ((76, 1769), zS, I, (zup (zup (zup (zup (zPP (zPr 5)) 20 0 (some 45)) 20 1 (some 49)) 20 2 (some 21)) 20 3 (some 25)))) 1 rfl ?_
  refine wp_blk (pc' := 18) (L' := [some (.ref 19), some (.ref 41), some (.int 5)]) (st' := [.ref 19]) (h' := ((76, 1769), zS, I, (zup (zup (zup (zup (zPP (zPr 5)) 20 0 (some 45)) 20 1 (some 49)) 20 2 (some 21)) 20 3 (some 25)))) 1 rfl ?_
  refine wp_blk (pc' := 21) (L' := [some (.ref 19), some (.ref 41), some (.int 5)]) (st' := [.ref 20]) (h' := ((76, 1769), zS, I, (zup (zup (zup (zup (zPP (zPr 5)) 20 0 (some 45)) 20 1 (some 49)) 20 2 (some 21)) 20 3 (some 25)))) 1 rfl ?_
  refine wp_blk (pc' := 22) (L' := [some (.ref 19), some (.ref 41), some (.int 5)]) (st' := [.int 5, .ref 20]) (h' := ((76, 1769), zS, I, (zup (zup (zup (zup (zPP (zPr 5)) 20 0 (some 45)) 20 1 (some 49)) 20 2 (some 21)) 20 3 (some 25)))) 1 rfl ?_
  refine wp_blk (pc' := 23) (L' := [some (.ref 19), some (.ref 41), some (.int 5)]) (st' := [.int 1, .int 5, .ref 20]) (h' := ((76, 1769), zS, I, (zup (zup (zup (zup (zPP (zPr 5)) 20 0 (some 45)) 20 1 (some 49)) 20 2 (some 21)) 20 3 (some 25)))) 1 rfl ?_
  refine wp_blk (pc' := 24) (L' := [some (.ref 19), some (.ref 41), some (.int 5)]) (st' := [.int 4, .ref 20]) (h' := ((76, 1769), zS, I, (zup (zup (zup (zup (zPP (zPr 5)) 20 0 (some 45)) 20 1 (some 49)) 20 2 (some 21)) 20 3 (some 25)))) 1 rfl ?_
  refine wp_blk (pc' := 25) (L' := [some (.ref 19), some (.ref 41), some (.int 5)]) (st' := [.ref 19, .int 4, .ref 20]) (h' := ((76, 1769), zS, I, (zup (zup (zup (zup (zPP (zPr 5)) 20 0 (some 45)) 20 1 (some 49)) 20 2 (some 21)) 20 3 (some 25)))) 1 rfl ?_
  refine wp_blk (pc' := 28) (L' := [some (.ref 19), some (.ref 41), some (.int 5)]) (st' := [.ref 20, .int 4, .ref 20]) (h' := ((76, 1769), zS, I, (zup (zup (zup (zup (zPP (zPr 5)) 20 0 (some 45)) 20 1 (some 49)) 20 2 (some 21)) 20 3 (some 25)))) 1 rfl ?_
  refine wp_blk (pc' := 29) (L' := [some (.ref 19), some (.ref 41), some (.int 5)]) (st' := [.int 5, .ref 20, .int 4, .ref 20]) (h' := ((76, 1769), zS, I, (zup (zup (zup (zup (zPP (zPr 5)) 20 0 (some 45)) 20 1 (some 49)) 20 2 (some 21)) 20 3 (some 25)))) 1 rfl ?_
  refine wp_blk (pc' := 30) (L' := [some (.ref 19), some (.ref 41), some (.int 5)]) (st' := [.ref 29, .int 4, .ref 20]) (h' := ((76, 1769), zS, I, (zup (zup (zup (zup (zPP (zPr 5)) 20 0 (some 45)) 20 1 (some 49)) 20 2 (some 21)) 20 3 (some 25)))) 1 rfl ?_
  refine wp_blk (pc' := 31) (L' := [some (.ref 19), some (.ref 41), some (.int 5)]) (st' := []) (h' := ((76, 1769), zS, I, (zup (zup (zup (zup (zup (zPP (zPr 5)) 20 0 (some 45)) 20 1 (some 49)) 20 2 (some 21)) 20 3 (some 25)) 20 4 (some 29)))) 1 rfl ?_
  refine wp_blk (pc' := 34) (L' := [some (.ref 19), some (.ref 41), some (.int 6)]) (st' := []) (h' := ((76, 1769), zS, I, (zup (zup (zup (zup (zup (zPP (zPr 5)) 20 0 (some 45)) 20 1 (some 49)) 20 2 (some 21)) 20 3 (some 25)) 20 4 (some 29)))) 1 rfl ?_
  refine wp_blk (pc' := 8) (L' := [some (.ref 19), some (.ref 41), some (.int 6)]) (st' := []) (h' := ((76, 1769), zS, I, (zup (zup (zup (zup (zup (zPP (zPr 5)) 20 0 (some 45)) 20 1 (some 49)) 20 2 (some 21)) 20 3 (some 25)) 20 4 (some 29)))) 1 rfl ?_
  refine wp_blk (pc' := 9) (L' := [some (.ref 19), some (.ref 41), some (.int 6)]) (st' := [.int 6]) (h' := ((76, 1769), zS, I, (zup (zup (zup (zup (zup (zPP (zPr 5)) 20 0 (some 45)) 20 1 (some 49)) 20 2 (some 21)) 20 3 (some 25)) 20 4 (some 29)))) 1 rfl ?_
  refine wp_blk (pc' := 10) (L' := [some (.ref 19), some (.ref 41), some (.int 6)]) (st' := [.ref 19, .int 6]) (h' := ((76, 1769), zS, I, (zup (zup (zup (zup (zup (zPP (zPr 5)) 20 0 (some 45)) 20 1 (some 49)) 20 2 (some 21)) 20 3 (some 25)) 20 4 (some 29)))) 1 rfl ?_
  refine wp_blk (pc' := 13) (L' := [some (.ref 19), some (.ref 41), some (.int 6)]) (st' := [.ref 20, .int 6]) (h' := ((76, 1769), zS, I, (zup (zup (zup (zup (zup (zPP (zPr 5)) 20 0 (some 45)) 20 1 (some 49)) 20 2 (some 21)) 20 3 (some 25)) 20 4 (some 29)))) 1 rfl ?_
  refine wp_blk (pc' := 14) (L' := [some (.ref 19), some (.ref 41), some (.int 6)]) (st' := [.int 8, .int 6]) (h' := ((76, 1769), zS, I, (zup (zup (zup (zup (zup (zPP (zPr 5)) 20 0 (some 45)) 20 1 (some 49)) 20 2 (some 21)) 20 3 (some 25)) 20 4 (some 29)))) 1 rfl ?_
  refine wp_blk (pc' := 17) (L' := [some (.ref 19), some (.ref 41), some (.int 6)]) (st' := []) (h' := ((76, 1769), zS, I, (zup (zup (zup (zup (zup (zPP (zPr 5)) 20 0 (some 45)) 20 1 (some 49)) 20 2 (some 21)) 20 3 (some 25)) 20 4 (some 29)))) 1 rfl ?_
  refine wp_blk (pc' := 18) (L' := [some (.ref 19), some (.ref 41), some (.int 6)]) (st' := [.ref 19]) (h' := ((76, 1769), zS, I, (zup (zup (zup (zup (zup (zPP (zPr 5)) 20 0 (some 45)) 20 1 (some 49)) 20 2 (some 21)) 20 3 (some 25)) 20 4 (some 29)))) 1 rfl ?_
  refine wp_blk (pc' := 21) (L' := [some (.ref 19), some (.ref 41), some (.int 6)]) (st' := [.ref 20]) (h' := ((76, 1769), zS, I, (zup (zup (zup (zup (zup (zPP (zPr 5)) 20 0 (some 45)) 20 1 (some 49)) 20 2 (some 21)) 20 3 (some 25)) 20 4 (some 29)))) 1 rfl ?_
  refine wp_blk (pc' := 22) (L' := [some (.ref 19), some (.ref 41), some (.int 6)]) (st' := [.int 6, .ref 20]) (h' := ((76, 1769), zS, I, (zup (zup (zup (zup (zup (zPP (zPr 5)) 20 0 (some 45)) 20 1 (some 49)) 20 2 (some 21)) 20 3 (some 25)) 20 4 (some 29)))) 1 rfl ?_
  refine wp_blk (pc' := 23) (L' := [some (.ref 19), some (.ref 41), some (.int 6)]) (st' := [.int 1, .int 6, .ref 20]) (h' := ((76, 1769), zS, I, (zup (zup (zup (zup (zup (zPP (zPr 5)) 20 0 (some 45)) 20 1 (some 49)) 20 2 (some 21)) 20 3 (some 25)) 20 4 (some 29)))) 1 rfl ?_
  refine wp_blk (pc' := 24) (L' := [some (.ref 19), some (.ref 41), some (.int 6)]) (st' := [.int 5, .ref 20]) (h' := ((76, 1769), zS, I, (zup (zup (zup (zup (zup (zPP (zPr 5)) 20 0 (some 45)) 20 1 (some 49)) 20 2 (some 21)) 20 3 (some 25)) 20 4 (some 29)))) 1 rfl ?_
  refine wp_blk (pc' := 25) (L' := [some (.ref 19), some (.ref 41), some (.int 6)]) (st' := [.ref 19, .int 5, .ref 20]) (h' := ((76, 1769), zS, I, (zup (zup (zup (zup (zup (zPP (zPr 5)) 20 0 (some 45)) 20 1 (some 49)) 20 2 (some 21)) 20 3 (some 25)) 20 4 (some 29)))) 1 rfl ?_
  refine wp_blk (pc' := 28) (L' := [some (.ref 19), some (.ref 41), some (.int 6)]) (st' := [.ref 20, .int 5, .ref 20]) (h' := ((76, 1769), zS, I, (zup (zup (zup (zup (zup (zPP (zPr 5)) 20 0 (some 45)) 20 1 (some 49)) 20 2 (some 21)) 20 3 (some 25)) 20 4 (some 29)))) 1 rfl ?_
  refine wp_blk (pc' := 29) (L' := [some (.ref 19), some (.ref 41), some (.int 6)]) (st' := [.int 6, .ref 20, .int 5, .ref 20]) (h' := ((76, 1769), zS, I, (zup (zup (zup (zup (zup (zPP (zPr 5)) 20 0 (some 45)) 20 1 (some 49)) 20 2 (some 21)) 20 3 (some 25)) 20 4 (some 29)))) 1 rfl ?_
  refine wp_blk (pc' := 30) (L' := [some (.ref 19), some (.ref 41), some (.int 6)]) (st' := [.ref 33, .int 5, .ref 20]) (h' := ((76, 1769), zS, I, (zup (zup (zup (zup (zup (zPP (zPr 5)) 20 0 (some 45)) 20 1 (some 49)) 20 2 (some 21)) 20 3 (some 25)) 20 4 (some 29)))) 1 rfl ?_
  refine wp_blk (pc' := 31) (L' := [some (.ref 19), some (.ref 41), some (.int 6)]) (st' := []) (h' := ((76, 1769), zS, I, (zup (zup (zup (zup (zup (zup (zPP (zPr 5)) 20 0 (some 45)) 20 1 (some 49)) 20 2 (some 21)) 20 3 (some 25)) 20 4 (some 29)) 20 5 (some 33)))) 1 rfl ?_
  refine wp_blk (pc' := 34) (L' := [some (.ref 19), some (.ref 41), some (.int 7)]) (st' := []) (h' := ((76, 1769), zS, I, (zup (zup (zup (zup (zup (zup (zPP (zPr 5)) 20 0 (some 45)) 20 1 (some 49)) 20 2 (some 21)) 20 3 (some 25)) 20 4 (some 29)) 20 5 (some 33)))) 1 rfl ?_
  refine wp_blk (pc' := 8) (L' := [some (.ref 19), some (.ref 41), some (.int 7)]) (st' := []) (h' := ((76, 1769), zS, I, (zup (zup (zup (zup (zup (zup (zPP (zPr 5)) 20 0 (some 45)) 20 1 (some 49)) 20 2 (some 21)) 20 3 (some 25)) 20 4 (some 29)) 20 5 (some 33)))) 1 rfl ?_
  refine wp_blk (pc' := 9) (L' := [some (.ref 19), some (.ref 41), some (.int 7)]) (st' := [.int 7]) (h' := ((76, 1769), zS, I, (zup (zup (zup (zup (zup (zup (zPP (zPr 5)) 20 0 (some 45)) 20 1 (some 49)) 20 2 (some 21)) 20 3 (some 25)) 20 4 (some 29)) 20 5 (some 33)))) 1 rfl ?_
  refine wp_blk (pc' := 10) (L' := [some (.ref 19), some (.ref 41), some (.int 7)]) (st' := [.ref 19, .int 7]) (h' := ((76, 1769), zS, I, (zup (zup (zup (zup (zup (zup (zPP (zPr 5)) 20 0 (some 45)) 20 1 (some 49)) 20 2 (some 21)) 20 3 (some 25)) 20 4 (some 29)) 20 5 (some 33)))) 1 rfl ?_
  refine wp_blk (pc' := 13) (L' := [some (.ref 19), some (.ref 41), some (.int 7)]) (st' := [.ref 20, .int 7]) (h' := ((76, 1769), zS, I, (zup (zup (zup (zup (zup (zup (zPP (zPr 5)) 20 0 (some 45)) 20 1 (some 49)) 20 2 (some 21)) 20 3 (some 25)) 20 4 (some 29)) 20 5 (some 33)))) 1 rfl ?_
  refine wp_blk (pc' := 14) (L' := [some (.ref 19), some (.ref 41), some (.int 7)]) (st' := [.int 8, .int 7]) (h' := ((76, 1769), zS, I, (zup (zup (zup (zup (zup (zup (zPP (zPr 5)) 20 0 (some 45)) 20 1 (some 49)) 20 2 (some 21)) 20 3 (some 25)) 20 4 (some 29)) 20 5 (some 33)))) 1 rfl ?_
  refine wp_blk (pc' := 17) (L' := [some (.ref 19), some (.ref 41), some (.int 7)]) (st' := []) (h' := ((76, 1769), zS, I, (zup (zup (zup (zup (zup (zup (zPP (zPr 5)) 20 0 (some 45)) 20 1 (some 49)) 20 2 (some 21)) 20 3 (some 25)) 20 4 (some 29)) 20 5 (some 33)))) 1 rfl ?_
  refine wp_blk (pc' := 18) (L' := [some (.ref 19), some (.ref 41), some (.int 7)]) (st' := [.ref 19]) (h' := ((76, 1769), zS, I, (zup (zup (zup (zup (zup (zup (zPP (zPr 5)) 20 0 (some 45)) 20 1 (some 49)) 20 2 (some 21)) 20 3 (some 25)) 20 4 (some 29)) 20 5 (some 33)))) 1 rfl ?_
  refine wp_blk (pc' := 21) (L' := [some (.ref 19), some (.ref 41), some (.int 7)]) (st' := [.ref 20]) (h' := ((76, 1769), zS, I, (zup (zup (zup (zup (zup (zup (zPP (zPr 5)) 20 0 (some 45)) 20 1 (some 49)) 20 2 (some 21)) 20 3 (some 25)) 20 4 (some 29)) 20 5 (some 33)))) 1 rfl ?_
  refine wp_blk (pc' := 22) (L' := [some (.ref 19), some (.ref 41), some (.int 7)]) (st' := [.int 7, .ref 20]) (h' := ((76, 1769), zS, I, (zup (zup (zup (zup (zup (zup (zPP (zPr 5)) 20 0 (some 45)) 20 1 (some 49)) 20 2 (some 21)) 20 3 (some 25)) 20 4 (some 29)) 20 5 (some 33)))) 1 rfl ?_
  refine wp_blk (pc' := 23) (L' := [some (.ref 19), some (.ref 41), some (.int 7)]) (st' := [.int 1, .int 7, .ref 20]) (h' := ((76, 1769), zS, I, (zup (zup (zup (zup (zup (zup (zPP (zPr 5)) 20 0 (some 45)) 20 1 (some 49)) 20 2 (some 21)) 20 3 (some 25)) 20 4 (some 29)) 20 5 (some 33)))) 1 rfl ?_
  refine wp_blk (pc' := 24) (L' := [some (.ref 19), some (.ref 41), some (.int 7)]) (st' := [.int 6, .ref 20]) (h' := ((76, 1769), zS, I, (zup (zup (zup (zup (zup (zup (zPP (zPr 5)) 20 0 (some 45)) 20 1 (some 49)) 20 2 (some 21)) 20 3 (some 25)) 20 4 (some 29)) 20 5 (some 33)))) 1 rfl ?_
  refine wp_blk (pc' := 25) (L' := [some (.ref 19), some (.ref 41), some (.int 7)]) (st' := [.ref 19, .int 6, .ref 20]) (h' := ((76, 1769), zS, I, (zup (zup (zup (zup (zup (zup (zPP (zPr 5)) 20 0 (some 45)) 20 1 (some 49)) 20 2 (some 21)) 20 3 (some 25)) 20 4 (some 29)) 20 5 (some 33)))) 1 rfl ?_
  refine wp_blk (pc' := 28) (L' := [some (.ref 19), some (.ref 41), some (.int 7)]) (st' := [.ref 20, .int 6, .ref 20]) (h' := ((76, 1769), zS, I, (zup (zup (zup (zup (zup (zup (zPP (zPr 5)) 20 0 (some 45)) 20 1 (some 49)) 20 2 (some 21)) 20 3 (some 25)) 20 4 (some 29)) 20 5 (some 33)))) 1 rfl ?_
  refine wp_blk (pc' := 29) (L' := [some (.ref 19), some (.ref 41), some (.int 7)]) (st' := [.int 7, .ref 20, .int 6, .ref 20]) (h' := ((76, 1769), zS, I, (zup (zup (zup (zup (zup (zup (zPP (zPr 5)) 20 0 (some 45)) 20 1 (some 49)) 20 2 (some 21)) 20 3 (some 25)) 20 4 (some 29)) 20 5 (some 33)))) 1 rfl ?_
  refine wp_blk (pc' := 30) (L' := [some (.ref 19), some (.ref 41), some (.int 7)]) (st' := [.ref 37, .int 6, .ref 20]) (h' := ((76, 1769), zS, I, (zup (zup (zup (zup (zup (zup (zPP (zPr 5)) 20 0 (some 45)) 20 1 (some 49)) 20 2 (some 21)) 20 3 (some 25)) 20 4 (some 29)) 20 5 (some 33)))) 1 rfl ?_
  refine wp_blk (pc' := 31) (L' := [some (.ref 19), some (.ref 41), some (.int 7)]) (st' := []) (h' := ((76, 1769), zS, I, (zup (zup (zup (zup (zup (zup (zup (zPP (zPr 5)) 20 0 (some 45)) 20 1 (some 49)) 20 2 (some 21)) 20 3 (some 25)) 20 4 (some 29)) 20 5 (some 33)) 20 6 (some 37)))) 1 rfl ?_
  refine wp_blk (pc' := 34) (L' := [some (.ref 19), some (.ref 41), some (.int 8)]) (st' := []) (h' := ((76, 1769), zS, I, (zup (zup (zup (zup (zup (zup (zup (zPP (zPr 5)) 20 0 (some 45)) 20 1 (some 49)) 20 2 (some 21)) 20 3 (some 25)) 20 4 (some 29)) 20 5 (some 33)) 20 6 (some 37)))) 1 rfl ?_
  refine wp_blk (pc' := 8) (L' := [some (.ref 19), some (.ref 41), some (.int 8)]) (st' := []) (h' := ((76, 1769), zS, I, (zup (zup (zup (zup (zup (zup (zup (zPP (zPr 5)) 20 0 (some 45)) 20 1 (some 49)) 20 2 (some 21)) 20 3 (some 25)) 20 4 (some 29)) 20 5 (some 33)) 20 6 (some 37)))) 1 rfl ?_
  refine wp_blk (pc' := 9) (L' := [some (.ref 19), some (.ref 41), some (.int 8)]) (st' := [.int 8]) (h' := ((76, 1769), zS, I, (zup (zup (zup (zup (zup (zup (zup (zPP (zPr 5)) 20 0 (some 45)) 20 1 (some 49)) 20 2 (some 21)) 20 3 (some 25)) 20 4 (some 29)) 20 5 (some 33)) 20 6 (some 37)))) 1 rfl ?_
  refine wp_blk (pc' := 10) (L' := [some (.ref 19), some (.ref 41), some (.int 8)]) (st' := [.ref 19, .int 8]) (h' := ((76, 1769), zS, I, (zup (zup (zup (zup (zup (zup (zup (zPP (zPr 5)) 20 0 (some 45)) 20 1 (some 49)) 20 2 (some 21)) 20 3 (some 25)) 20 4 (some 29)) 20 5 (some 33)) 20 6 (some 37)))) 1 rfl ?_
  refine wp_blk (pc' := 13) (L' := [some (.ref 19), some (.ref 41), some (.int 8)]) (st' := [.ref 20, .int 8]) (h' := ((76, 1769), zS, I, (zup (zup (zup (zup (zup (zup (zup (zPP (zPr 5)) 20 0 (some 45)) 20 1 (some 49)) 20 2 (some 21)) 20 3 (some 25)) 20 4 (some 29)) 20 5 (some 33)) 20 6 (some 37)))) 1 rfl ?_
  refine wp_blk (pc' := 14) (L' := [some (.ref 19), some (.ref 41), some (.int 8)]) (st' := [.int 8, .int 8]) (h' := ((76, 1769), zS, I, (zup (zup (zup (zup (zup (zup (zup (zPP (zPr 5)) 20 0 (some 45)) 20 1 (some 49)) 20 2 (some 21)) 20 3 (some 25)) 20 4 (some 29)) 20 5 (some 33)) 20 6 (some 37)))) 1 rfl ?_
  refine wp_blk (pc' := 37) (L' := [some (.ref 19), some (.ref 41), some (.int 8)]) (st' := []) (h' := ((76, 1769), zS, I, (zup (zup (zup (zup (zup (zup (zup (zPP (zPr 5)) 20 0 (some 45)) 20 1 (some 49)) 20 2 (some 21)) 20 3 (some 25)) 20 4 (some 29)) 20 5 (some 33)) 20 6 (some 37)))) 1 rfl ?_
  refine wp_blk (pc' := 38) (L' := [some (.ref 19), some (.ref 41), some (.int 8)]) (st' := [.ref 19]) (h' := ((76, 1769), zS, I, (zup (zup (zup (zup (zup (zup (zup (zPP (zPr 5)) 20 0 (some 45)) 20 1 (some 49)) 20 2 (some 21)) 20 3 (some 25)) 20 4 (some 29)) 20 5 (some 33)) 20 6 (some 37)))) 1 rfl ?_
  refine wp_blk (pc' := 39) (L' := [some (.ref 19), some (.ref 41), some (.int 8)]) (st' := [.ref 19, .ref 19]) (h' := ((76, 1769), zS, I, (zup (zup (zup (zup (zup (zup (zup (zPP (zPr 5)) 20 0 (some 45)) 20 1 (some 49)) 20 2 (some 21)) 20 3 (some 25)) 20 4 (some 29)) 20 5 (some 33)) 20 6 (some 37)))) 1 rfl ?_
  refine wp_blk (pc' := 42) (L' := [some (.ref 19), some (.ref 41), some (.int 8)]) (st' := [.ref 20, .ref 19]) (h' := ((76, 1769), zS, I, (zup (zup (zup (zup (zup (zup (zup (zPP (zPr 5)) 20 0 (some 45)) 20 1 (some 49)) 20 2 (some 21)) 20 3 (some 25)) 20 4 (some 29)) 20 5 (some 33)) 20 6 (some 37)))) 1 rfl ?_
  refine wp_blk (pc' := 43) (L' := [some (.ref 19), some (.ref 41), some (.int 8)]) (st' := [.int 8, .ref 19]) (h' := ((76, 1769), zS, I, (zup (zup (zup (zup (zup (zup (zup (zPP (zPr 5)) 20 0 (some 45)) 20 1 (some 49)) 20 2 (some 21)) 20 3 (some 25)) 20 4 (some 29)) 20 5 (some 33)) 20 6 (some 37)))) 1 rfl ?_
  refine wp_blk (pc' := 44) (L' := [some (.ref 19), some (.ref 41), some (.int 8)]) (st' := [.int 1, .int 8, .ref 19]) (h' := ((76, 1769), zS, I, (zup (zup (zup (zup (zup (zup (zup (zPP (zPr 5)) 20 0 (some 45)) 20 1 (some 49)) 20 2 (some 21)) 20 3 (some 25)) 20 4 (some 29)) 20 5 (some 33)) 20 6 (some 37)))) 1 rfl ?_
  refine wp_blk (pc' := 45) (L' := [some (.ref 19), some (.ref 41), some (.int 8)]) (st' := [.int 7, .ref 19]) (h' := ((76, 1769), zS, I, (zup (zup (zup (zup (zup (zup (zup (zPP (zPr 5)) 20 0 (some 45)) 20 1 (some 49)) 20 2 (some 21)) 20 3 (some 25)) 20 4 (some 29)) 20 5 (some 33)) 20 6 (some 37)))) 1 rfl ?_
  refine wp_blk (pc' := 48) (L' := [some (.ref 19), some (.ref 41), some (.int 8)]) (st' := []) (h' := ((76, 1769), zS, (zui I 19 1 7), (zup (zup (zup (zup (zup (zup (zup (zPP (zPr 5)) 20 0 (some 45)) 20 1 (some 49)) 20 2 (some 21)) 20 3 (some 25)) 20 4 (some 29)) 20 5 (some 33)) 20 6 (some 37)))) 1 rfl ?_
  refine wp_blk (pc' := 49) (L' := [some (.ref 19), some (.ref 41), some (.int 8)]) (st' := [.ref 19]) (h' := ((76, 1769), zS, (zui I 19 1 7), (zup (zup (zup (zup (zup (zup (zup (zPP (zPr 5)) 20 0 (some 45)) 20 1 (some 49)) 20 2 (some 21)) 20 3 (some 25)) 20 4 (some 29)) 20 5 (some 33)) 20 6 (some 37)))) 1 rfl ?_
  refine wp_blk (pc' := 52) (L' := [some (.ref 19), some (.ref 41), some (.int 8)]) (st' := [.int 7]) (h' := ((76, 1769), zS, (zui I 19 1 7), (zup (zup (zup (zup (zup (zup (zup (zPP (zPr 5)) 20 0 (some 45)) 20 1 (some 49)) 20 2 (some 21)) 20 3 (some 25)) 20 4 (some 29)) 20 5 (some 33)) 20 6 (some 37)))) 1 rfl ?_
  refine wp_blk (pc' := 55) (L' := [some (.ref 19), some (.ref 41), some (.int 8)]) (st' := []) (h' := ((76, 1769), zS, (zui I 19 1 7), (zup (zup (zup (zup (zup (zup (zup (zPP (zPr 5)) 20 0 (some 45)) 20 1 (some 49)) 20 2 (some 21)) 20 3 (some 25)) 20 4 (some 29)) 20 5 (some 33)) 20 6 (some 37)))) 1 rfl ?_
  refine wp_blk (pc' := 56) (L' := [some (.ref 19), some (.ref 41), some (.int 8)]) (st' := [.ref 19]) (h' := ((76, 1769), zS, (zui I 19 1 7), (zup (zup (zup (zup (zup (zup (zup (zPP (zPr 5)) 20 0 (some 45)) 20 1 (some 49)) 20 2 (some 21)) 20 3 (some 25)) 20 4 (some 29)) 20 5 (some 33)) 20 6 (some 37)))) 1 rfl ?_
  refine wp_blk (pc' := 59) (L' := [some (.ref 19), some (.ref 41), some (.int 8)]) (st' := [.ref 20]) (h' := ((76, 1769), zS, (zui I 19 1 7), (zup (zup (zup (zup (zup (zup (zup (zPP (zPr 5)) 20 0 (some 45)) 20 1 (some 49)) 20 2 (some 21)) 20 3 (some 25)) 20 4 (some 29)) 20 5 (some 33)) 20 6 (some 37)))) 1 rfl ?_
  refine wp_blk (pc' := 60) (L' := [some (.ref 19), some (.ref 41), some (.int 8)]) (st' := [.ref 19, .ref 20]) (h' := ((76, 1769), zS, (zui I 19 1 7), (zup (zup (zup (zup (zup (zup (zup (zPP (zPr 5)) 20 0 (some 45)) 20 1 (some 49)) 20 2 (some 21)) 20 3 (some 25)) 20 4 (some 29)) 20 5 (some 33)) 20 6 (some 37)))) 1 rfl ?_
  refine wp_blk (pc' := 63) (L' := [some (.ref 19), some (.ref 41), some (.int 8)]) (st' := [.int 7, .ref 20]) (h' := ((76, 1769), zS, (zui I 19 1 7), (zup (zup (zup (zup (zup (zup (zup (zPP (zPr 5)) 20 0 (some 45)) 20 1 (some 49)) 20 2 (some 21)) 20 3 (some 25)) 20 4 (some 29)) 20 5 (some 33)) 20 6 (some 37)))) 1 rfl ?_
  refine wp_blk (pc' := 64) (L' := [some (.ref 19), some (.ref 41), some (.int 8)]) (st' := [.ref 41, .int 7, .ref 20]) (h' := ((76, 1769), zS, (zui I 19 1 7), (zup (zup (zup (zup (zup (zup (zup (zPP (zPr 5)) 20 0 (some 45)) 20 1 (some 49)) 20 2 (some 21)) 20 3 (some 25)) 20 4 (some 29)) 20 5 (some 33)) 20 6 (some 37)))) 1 rfl ?_
  refine wp_blk (pc' := 65) (L' := [some (.ref 19), some (.ref 41), some (.int 8)]) (st' := []) (h' := ((76, 1769), zS, (zui I 19 1 7), (zup (zup (zup (zup (zup (zup (zup (zup (zPP (zPr 5)) 20 0 (some 45)) 20 1 (some 49)) 20 2 (some 21)) 20 3 (some 25)) 20 4 (some 29)) 20 5 (some 33)) 20 6 (some 37)) 20 7 (some 41)))) 1 rfl ?_
  exact wp_end rfl rfl ⟨rfl, by rw [zH, ← zrot_5]⟩
set_option maxRecDepth 100000 in
theorem sp_drop_6 {X : Nat × (Nat → Int32)} (I : Nat → Nat → Int32) : Wf X 67 [some (.ref 19), none, none] (zH I (zPr 6)) none (zH (zui I 19 1 7) (zPr 7)) := by
  unfold Wf
  refine wp_blk (pc' := 1) (L' := [some (.ref 19), none, none]) (st' := [.ref 19]) (h' := zH I (zPr 6)) 1 rfl ?_
  refine wp_blk (pc' := 2) (L' := [some (.ref 19), none, none]) (st' := [.int 0, .ref 19]) (h' := zH I (zPr 6)) 1 rfl ?_
  refine wp_callf (d := 68) (as := [.ref 19, .int 0]) (rest := []) (Ld := [some (.ref 19), some (.int 0)]) (pc' := 5) (st' := [.ref 45]) (r := some (.ref 45)) (h1 := zH I (zPr 6)) rfl rfl rfl rfl rfl rfl rfl rfl rfl (sp_at19_6_0 (X := X) I) ?_
  refine wp_blk (pc' := 6) (L' := [some (.ref 19), some (.ref 45), none]) (st' := []) (h' := zH I (zPr 6)) 1 rfl ?_
  refine wp_blk (pc' := 7) (L' := [some (.ref 19), some (.ref 45), none]) (st' := [.int 1]) (h' := zH I (zPr 6)) 1 rfl ?_
  refine wp_blk (pc' := 8) (L' := [some (.ref 19), some (.ref 45), some (.int 1)]) (st' := []) (h' := zH I (zPr 6)) 1 rfl ?_
  refine wp_blk (pc' := 9) (L' := [some (.ref 19), some (.ref 45), some (.int 1)]) (st' := [.int 1]) (h' := zH I (zPr 6)) 1 rfl ?_
  refine wp_blk (pc' := 10) (L' := [some (.ref 19), some (.ref 45), some (.int 1)]) (st' := [.ref 19, .int 1]) (h' := zH I (zPr 6)) 1 rfl ?_
  refine wp_blk (pc' := 13) (L' := [some (.ref 19), some (.ref 45), some (.int 1)]) (st' := [.ref 20, .int 1]) (h' := zH I (zPr 6)) 1 rfl ?_
  refine wp_blk (pc' := 14) (L' := [some (.ref 19), some (.ref 45), some (.int 1)]) (st' := [.int 8, .int 1]) (h' := zH I (zPr 6)) 1 rfl ?_
  refine wp_blk (pc' := 17) (L' := [some (.ref 19), some (.ref 45), some (.int 1)]) (st' := []) (h' := zH I (zPr 6)) 1 rfl ?_
  refine wp_blk (pc' := 18) (L' := [some (.ref 19), some (.ref 45), some (.int 1)]) (st' := [.ref 19]) (h' := zH I (zPr 6)) 1 rfl ?_
  refine wp_blk (pc' := 21) (L' := [some (.ref 19), some (.ref 45), some (.int 1)]) (st' := [.ref 20]) (h' := zH I (zPr 6)) 1 rfl ?_
  refine wp_blk (pc' := 22) (L' := [some (.ref 19), some (.ref 45), some (.int 1)]) (st' := [.int 1, .ref 20]) (h' := zH I (zPr 6)) 1 rfl ?_
  refine wp_blk (pc' := 23) (L' := [some (.ref 19), some (.ref 45), some (.int 1)]) (st' := [.int 1, .int 1, .ref 20]) (h' := zH I (zPr 6)) 1 rfl ?_
  refine wp_blk (pc' := 24) (L' := [some (.ref 19), some (.ref 45), some (.int 1)]) (st' := [.int 0, .ref 20]) (h' := zH I (zPr 6)) 1 rfl ?_
  refine wp_blk (pc' := 25) (L' := [some (.ref 19), some (.ref 45), some (.int 1)]) (st' := [.ref 19, .int 0, .ref 20]) (h' := zH I (zPr 6)) 1 rfl ?_
  refine wp_blk (pc' := 28) (L' := [some (.ref 19), some (.ref 45), some (.int 1)]) (st' := [.ref 20, .int 0, .ref 20]) (h' := zH I (zPr 6)) 1 rfl ?_
  refine wp_blk (pc' := 29) (L' := [some (.ref 19), some (.ref 45), some (.int 1)]) (st' := [.int 1, .ref 20, .int 0, .ref 20]) (h' := zH I (zPr 6)) 1 rfl ?_
  refine wp_blk (pc' := 30) (L' := [some (.ref 19), some (.ref 45), some (.int 1)]) (st' := [.ref 49, .int 0, .ref 20]) (h' := zH I (zPr 6)) 1 rfl ?_
  refine wp_blk (pc' := 31) (L' := [some (.ref 19), some (.ref 45), some (.int 1)]) (st' := []) (h' := ((76, 1769), zS, I, (zup (zPP (zPr 6)) 20 0 (some 49)))) 1 rfl ?_
  refine wp_blk (pc' := 34) (L' := [some (.ref 19), some (.ref 45), some (.int 2)]) (st' := []) (h' := ((76, 1769), zS, I, (zup (zPP (zPr 6)) 20 0 (some 49)))) 1 rfl ?_
  refine wp_blk (pc' := 8) (L' := [some (.ref 19), some (.ref 45), some (.int 2)]) (st' := []) (h' := ((76, 1769), zS, I, (zup (zPP (zPr 6)) 20 0 (some 49)))) 1 rfl ?_
  refine wp_blk (pc' := 9) (L' := [some (.ref 19), some (.ref 45), some (.int 2)]) (st' := [.int 2]) (h' := ((76, 1769), zS, I, (zup (zPP (zPr 6)) 20 0 (some 49)))) 1 rfl ?_
  refine wp_blk (pc' := 10) (L' := [some (.ref 19), some (.ref 45), some (.int 2)]) (st' := [.ref 19, .int 2]) (h' := ((76, 1769), zS, I, (zup (zPP (zPr 6)) 20 0 (some 49)))) 1 rfl ?_
  refine wp_blk (pc' := 13) (L' := [some (.ref 19), some (.ref 45), some (.int 2)]) (st' := [.ref 20, .int 2]) (h' := ((76, 1769), zS, I, (zup (zPP (zPr 6)) 20 0 (some 49)))) 1 rfl ?_
  refine wp_blk (pc' := 14) (L' := [some (.ref 19), some (.ref 45), some (.int 2)]) (st' := [.int 8, .int 2]) (h' := ((76, 1769), zS, I, (zup (zPP (zPr 6)) 20 0 (some 49)))) 1 rfl ?_
  refine wp_blk (pc' := 17) (L' := [some (.ref 19), some (.ref 45), some (.int 2)]) (st' := []) (h' := ((76, 1769), zS, I, (zup (zPP (zPr 6)) 20 0 (some 49)))) 1 rfl ?_
  refine wp_blk (pc' := 18) (L' := [some (.ref 19), some (.ref 45), some (.int 2)]) (st' := [.ref 19]) (h' := ((76, 1769), zS, I, (zup (zPP (zPr 6)) 20 0 (some 49)))) 1 rfl ?_
  refine wp_blk (pc' := 21) (L' := [some (.ref 19), some (.ref 45), some (.int 2)]) (st' := [.ref 20]) (h' := ((76, 1769), zS, I, (zup (zPP (zPr 6)) 20 0 (some 49)))) 1 rfl ?_
  refine wp_blk (pc' := 22) (L' := [some (.ref 19), some (.ref 45), some (.int 2)]) (st' := [.int 2, .ref 20]) (h' := ((76, 1769), zS, I, (zup (zPP (zPr 6)) 20 0 (some 49)))) 1 rfl ?_
  refine wp_blk (pc' := 23) (L' := [some (.ref 19), some (.ref 45), some (.int 2)]) (st' := [.int 1, .int 2, .ref 20]) (h' := ((76, 1769), zS, I, (zup (zPP (zPr 6)) 20 0 (some 49)))) 1 rfl ?_
  refine wp_blk (pc' := 24) (L' := [some (.ref 19), some (.ref 45), some (.int 2)]) (st' := [.int 1, .ref 20]) (h' := ((76, 1769), zS, I, (zup (zPP (zPr 6)) 20 0 (some 49)))) 1 rfl ?_
  refine wp_blk (pc' := 25) (L' := [some (.ref 19), some (.ref 45), some (.int 2)]) (st' := [.ref 19, .int 1, .ref 20]) (h' := ((76, 1769), zS, I, (zup (zPP (zPr 6)) 20 0 (some 49)))) 1 rfl ?_
  refine wp_blk (pc' := 28) (L' := [some (.ref 19), some (.ref 45), some (.int 2)]) (st' := [.ref 20, .int 1, .ref 20]) (h' := ((76, 1769), zS, I, (zup (zPP (zPr 6)) 20 0 (some 49)))) 1 rfl ?_
  refine wp_blk (pc' := 29) (L' := [some (.ref 19), some (.ref 45), some (.int 2)]) (st' := [.int 2, .ref 20, .int 1, .ref 20]) (h' := ((76, 1769), zS, I, (zup (zPP (zPr 6)) 20 0 (some 49)))) 1 rfl ?_
  refine wp_blk (pc' := 30) (L' := [some (.ref 19), some (.ref 45), some (.int 2)]) (st' := [.ref 21, .int 1, .ref 20]) (h' := ((76, 1769), zS, I, (zup (zPP (zPr 6)) 20 0 (some 49)))) 1 rfl ?_
  refine wp_blk (pc' := 31) (L' := [some (.ref 19), some (.ref 45), some (.int 2)]) (st' := []) (h' := ((76, 1769), zS, I, (zup (zup (zPP (zPr 6)) 20 0 (some 49)) 20 1 (some 21)))) 1 rfl ?_
  refine wp_blk (pc' := 34) (L' := [some (.ref 19), some (.ref 45), some (.int 3)]) (st' := []) (h' := ((76, 1769), zS, I, (zup (zup (zPP (zPr 6)) 20 0 (some 49)) 20 1 (some 21)))) 1 rfl ?_
  refine wp_blk (pc' := 8) (L' := [some (.ref 19), some (.ref 45), some (.int 3)]) (st' := []) (h' := ((76, 1769), zS, I, (zup (zup (zPP (zPr 6)) 20 0 (some 49)) 20 1 (some 21)))) 1 rfl ?_
  refine wp_blk (pc' := 9) (L' := [some (.ref 19), some (.ref 45), some (.int 3)]) (st' := [.int 3]) (h' := ((76, 1769), zS, I, (zup (zup (zPP (zPr 6)) 20 0 (some 49)) 20 1 (some 21)))) 1 rfl ?_
  refine wp_blk (pc' := 10) (L' := [some (.ref 19), some (.ref 45), some (.int 3)]) (st' := [.ref 19, .int 3]) (h' := ((76, 1769), zS, I, (zup (zup (zPP (zPr 6)) 20 0 (some 49)) 20 1 (some 21)))) 1 rfl ?_
  refine wp_blk (pc' := 13) (L' := [some (.ref 19), some (.ref 45), some (.int 3)]) (st' := [.ref 20, .int 3]) (h' := ((76, 1769), zS, I, (zup (zup (zPP (zPr 6)) 20 0 (some 49)) 20 1 (some 21)))) 1 rfl ?_
  refine wp_blk (pc' := 14) (L' := [some (.ref 19), some (.ref 45), some (.int 3)]) (st' := [.int 8, .int 3]) (h' := ((76, 1769), zS, I, (zup (zup (zPP (zPr 6)) 20 0 (some 49)) 20 1 (some 21)))) 1 rfl ?_
  refine wp_blk (pc' := 17) (L' := [some (.ref 19), some (.ref 45), some (.int 3)]) (st' := []) (h' := ((76, 1769), zS, I, (zup (zup (zPP (zPr 6)) 20 0 (some 49)) 20 1 (some 21)))) 1 rfl ?_
  refine wp_blk (pc' := 18) (L' := [some (.ref 19), some (.ref 45), some (.int 3)]) (st' := [.ref 19]) (h' := ((76, 1769), zS, I, (zup (zup (zPP (zPr 6)) 20 0 (some 49)) 20 1 (some 21)))) 1 rfl ?_
  refine wp_blk (pc' := 21) (L' := [some (.ref 19), some (.ref 45), some (.int 3)]) (st' := [.ref 20]) (h' := ((76, 1769), zS, I, (zup (zup (zPP (zPr 6)) 20 0 (some 49)) 20 1 (some 21)))) 1 rfl ?_
  refine wp_blk (pc' := 22) (L' := [some (.ref 19), some (.ref 45), some (.int 3)]) (st' := [.int 3, .ref 20]) (h' := ((76, 1769), zS, I, (zup (zup (zPP (zPr 6)) 20 0 (some 49)) 20 1 (some 21)))) 1 rfl ?_
  refine wp_blk (pc' := 23) (L' := [some (.ref 19), some (.ref 45), some (.int 3)]) (st' := [.int 1, .int 3, .ref 20]) (h' := ((76, 1769), zS, I, (zup (zup (zPP (zPr 6)) 20 0 (some 49)) 20 1 (some 21)))) 1 rfl ?_
  refine wp_blk (pc' := 24) (L' := [some (.ref 19), some (.ref 45), some (.int 3)]) (st' := [.int 2, .ref 20]) (h' := ((76, 1769), zS, I, (zup (zup (zPP (zPr 6)) 20 0 (some 49)) 20 1 (some 21)))) 1 rfl ?_
  refine wp_blk (pc' := 25) (L' := [some (.ref 19), some (.ref 45), some (.int 3)]) (st' := [.ref 19, .int 2, .ref 20]) (h' := ((76, 1769), zS, I, (zup (zup (zPP (zPr 6)) 20 0 (some 49)) 20 1 (some 21)))) 1 rfl ?_
  refine wp_blk (pc' := 28) (L' := [some (.ref 19), some (.ref 45), some (.int 3)]) (st' := [.ref 20, .int 2, .ref 20]) (h' := ((76, 1769), zS, I, (zup (zup (zPP (zPr 6)) 20 0 (some 49)) 20 1 (some 21)))) 1 rfl ?_
  refine wp_blk (pc' := 29) (L' := [some (.ref 19), some (.ref 45), some (.int 3)]) (st' := [.int 3, .ref 20, .int 2, .ref 20]) (h' := ((76, 1769), zS, I, (zup (zup (zPP (zPr 6)) 20 0 (some 49)) 20 1 (some 21)))) 1 rfl ?_
  refine wp_blk (pc' := 30) (L' := [some (.ref 19), some (.ref 45), some (.int 3)]) (st' := [.ref 25, .int 2, .ref 20]) (h' := ((76, 1769), zS, I, (zup (zup (zPP (zPr 6)) 20 0 (some 49)) 20 1 (some 21)))) 1 rfl ?_
  refine wp_blk (pc' := 31) (L' := [some (.ref 19), some (.ref 45), some (.int 3)]) (st' := []) (h' := ((76, 1769), zS, I, (zup (zup (zup (zPP (zPr 6)) 20 0 (some 49)) 20 1 (some 21)) 20 2 (some 25)))) 1 rfl ?_
  refine wp_blk (pc' := 34) (L' := [some (.ref 19), some (.ref 45), some (.int 4)]) (st' := []) (h' := ((76, 1769), zS, I, (zup (zup (zup (zPP (zPr 6)) 20 0 (some 49)) 20 1 (some 21)) 20 2 (some 25)))) 1 rfl ?_
  refine wp_blk (pc' := 8) (L' := [some (.ref 19), some (.ref 45), some (.int 4)]) (st' := []) (h' := ((76, 1769), zS, I, (zup (zup (zup (zPP (zPr 6)) 20 0 (some 49)) 20 1 (some 21)) 20 2 (some 25)))) 1 rfl ?_
  refine wp_blk (pc' := 9) (L' := [some (.ref 19), some (.ref 45), some (.int 4)]) (st' := [.int 4]) (h' := ((76, 1769), zS, I, (zup (zup (zup (zPP (zPr 6)) 20 0 (some 49)) 20 1 (some 21)) 20 2 (some 25)))) 1 rfl ?_
  refine wp_blk (pc' := 10) (L' := [some (.ref 19), some (.ref 45), some (.int 4)]) (st' := [.ref 19, .int 4]) (h' := ((76, 1769), zS, I, (zup (zup (zup (zPP (zPr 6)) 20 0 (some 49)) 20 1 (some 21)) 20 2 (some 25)))) 1 rfl ?_
  refine wp_blk (pc' := 13) (L' := [some (.ref 19), some (.ref 45), some (.int 4)]) (st' := [.ref 20, .int 4]) (h' := ((76, 1769), zS, I, (zup (zup (zup (zPP (zPr 6)) 20 0 (some 49)) 20 1 (some 21)) 20 2 (some 25)))) 1 rfl ?_
  refine wp_blk (pc' := 14) (L' := [some (.ref 19), some (.ref 45), some (.int 4)]) (st' := [.int 8, .int 4]) (h' := ((76, 1769), zS, I, (zup (zup (zup (zPP (zPr 6)) 20 0 (some 49)) 20 1 (some 21)) 20 2 (some 25)))) 1 rfl ?_
  refine wp_blk (pc' := 17) (L' := [some (.ref 19), some (.ref 45), some (.int 4)]) (st' := []) (h' := ((76, 1769), zS, I, (zup (zup (zup (zPP (zPr 6)) 20 0 (some 49)) 20 1 (some 21)) 20 2 (some 25)))) 1 rfl ?_
  refine wp_blk (pc' := 18) (L' := [some (.ref 19), some (.ref 45), some (.int 4)]) (st' := [.ref 19]) (h' := ((76, 1769), zS, I, (zup (zup (zup (zPP (zPr 6)) 20 0 (some 49)) 20 1 (some 21)) 20 2 (some 25)))) 1 rfl ?_
  refine wp_blk (pc' := 21) (L' := [some (.ref 19), some (.ref 45), some (.int 4)]) (st' := [.ref 20]) (h' := ((76, 1769), zS, I, (zup (zup (zup (zPP (zPr 6)) 20 0 (some 49)) 20 1 (some 21)) 20 2 (some 25)))) 1 rfl ?_
  refine wp_blk (pc' := 22) (L' := [some (.ref 19), some (.ref 45), some (.int 4)]) (st' := [.int 4, .ref 20]) (h' := ((76, 1769), zS, I, (zup (zup (zup (zPP (zPr 6)) 20 0 (some 49)) 20 1 (some 21)) 20 2 (some 25)))) 1 rfl ?_
  refine wp_blk (pc' := 23) (L' := [some (.ref 19), some (.ref 45), some (.int 4)]) (st' := [.int 1, .int 4, .ref 20]) (h' := ((76, 1769), zS, I, (zup (zup (zup (zPP (zPr 6)) 20 0 (some 49)) 20 1 (some 21)) 20 2 (some 25)))) 1 rfl ?_
  refine wp_blk (pc' := 24) (L' := [some (.ref 19), some (.ref 45), some (.int 4)]) (st' := [.int 3, .ref 20]) (h' := ((76, 1769), zS, I, (zup (zup (zup (zPP (zPr 6)) 20 0 (some 49)) 20 1 (some 21)) 20 2 (some 25)))) 1 rfl ?_
  refine wp_blk (pc' := 25) (L' := [some (.ref 19), some (.ref 45), some (.int 4)]) (st' := [.ref 19, .int 3, .ref 20]) (h' := ((76, 1769), zS, I, (zup (zup (zup (zPP (zPr 6)) 20 0 (some 49)) 20 1 (some 21)) 20 2 (some 25)))) 1 rfl ?_
  refine wp_blk (pc' := 28) (L' := [some (.ref 19), some (.ref 45), some (.int 4)]) (st' := [.ref 20, .int 3, .ref 20]) (h' := ((76, 1769), zS, I, (zup (zup (zup (zPP (zPr 6)) 20 0 (some 49)) 20 1 (some 21)) 20 2 (some 25)))) 1 rfl ?_
  refine wp_blk (pc' := 29) (L' := [some (.ref 19), some (.ref 45), some (.int 4)]) (st' := [.int 4, .ref 20, .int 3, .ref 20]) (h' := ((76, 1769), zS, I, (zup (zup (zup (zPP (zPr 6)) 20 0 (some 49)) 20 1 (some 21)) 20 2 (some 25)))) 1 rfl ?_
  refine wp_blk (pc' := 30) (L' := [some (.ref 19), some (.ref 45), some (.int 4)]) (st' := [.ref 29, .int 3, .ref 20]) (h' := ((76, 1769), zS, I, (zup (zup (zup (zPP (zPr 6)) 20 0 (some 49)) 20 1 (some 21)) 20 2 (some 25)))) 1 rfl ?_
  refine wp_blk (pc' := 31) (L' := [some (.ref 19), some (.ref 45), some (.int 4)]) (st' := []) (h' := ((76, 1769), zS, I, (zup (zup (zup (zup (zPP (zPr 6)) 20 0 (some 49)) 20 1 (some 21)) 20 2 (some 25)) 20 3 (some 29)))) 1 rfl ?_
  refine wp_blk (pc' := 34) (L' := [some (.ref 19), some (.ref 45), some (.int 5)]) (st' := []) (h' := ((76, 1769), zS, I, (zup (zup (zup (zup (zPP (zPr 6)) 20 0 (some 49)) 20 1 (some 21)) 20 2 (some 25)) 20 3 (some 29)))) 1 rfl ?_
  refine wp_blk (pc' := 8) (L' := [some (.ref 19), some (.ref 45), some (.int 5)]) (st' := []) (h' := ((76, 1769), zS, I, (zup (zup (zup (zup (zPP (zPr 6)) 20 0 (some 49)) 20 1 (some 21)) 20 2 (some 25)) 20 3 (some 29)))) 1 rfl ?_
  refine wp_blk (pc' := 9) (L' := [some (.ref 19), some (.ref 45), some (.int 5)]) (st' := [.int 5]) (h' := ((76, 1769), zS, I, (zup (zup (zup (zup (zPP (zPr 6)) 20 0 (some 49)) 20 1 (some 21)) 20 2 (some 25)) 20 3 (some 29)))) 1 rfl ?_
  refine wp_blk (pc' := 10) (L' := [some (.ref 19), some (.ref 45), some (.int 5)]) (st' := [.ref 19, .int 5]) (h' := ((76, 1769), zS, I, (zup (zup (zup (zup (zPP (zPr 6)) 20 0 (some 49)) 20 1 (some 21)) 20 2 (some 25)) 20 3 (some 29)))) 1 rfl ?_
  refine wp_blk (pc' := 13) (L' := [some (.ref 19), some (.ref 45), some (.int 5)]) (st' := [.ref 20, .int 5]) (h' := ((76, 1769), zS, I, (zup (zup (zup (zup (zPP (zPr 6)) 20 0 (some 49)) 20 1 (some 21)) 20 2 (some 25)) 20 3 (some 29)))) 1 rfl ?_
  refine wp_blk (pc' := 14) (L' := [some (.ref 19), some (.ref 45), some (.int 5)]) (st' := [.int 8, .int 5]) (h' := ((76, 1769), zS, I, (zup (zup (zup (zup (zPP (zPr 6)) 20 0 (some 49)) 20 1 (some 21)) 20 2 (some 25)) 20 3 (some 29)))) 1 rfl ?_
  refine wp_blk (pc' := 17) (L' := [some (.ref 19), some (.ref 45), some (.int 5)]) (st' := []) (h' := ((76, 1769), zS, I, (zup (zup (zup (zup (zPP (zPr 6)) 20 0 (some 49)) 20 1 (some 21)) 20 2 (some 25)) 20 3 (some 29)))) 1 rfl ?_
  refine wp_blk (pc' := 18) (L' := [some (.ref 19), some (.ref 45), some (.int 5)]) (st' := [.ref 19]) (h' := ((76, 1769), zS, I, (zup (zup (zup (zup (zPP (zPr 6)) 20 0 (some 49)) 20 1 (some 21)) 20 2 (some 25)) 20 3 (some 29)))) 1 rfl ?_
  refine wp_blk (pc' := 21) (L' := [some (.ref 19), some (.ref 45), some (.int 5)]) (st' := [.ref 20]) (h' := ((76, 1769), zS, I, (zup (zup (zup (zup (zPP (zPr 6)) 20 0 (some 49)) 20 1 (some 21)) 20 2 (some 25)) 20 3 (some 29)))) 1 rfl ?_
  refine wp_blk (pc' := 22) (L' := [some (.ref 19), some (.ref 45), some (.int 5)]) (st' := [.int 5, .ref 20]) (h' := ((76, 1769), zS, I, (zup (zup (zup (zup (zPP (zPr 6)) 20 0 (some 49)) 20 1 (some 21)) 20 2 (some 25)) 20 3 (some 29)))) 1 rfl ?_
  refine wp_blk (pc' := 23) (L' := [some (.ref 19), some (.ref 45), some (.int 5)]) (st' := [.int 1, .int 5, .ref 20]) (h' := ((76, 1769), zS, I, (zup (zup (zup (zup (zPP (zPr 6)) 20 0 (some 49)) 20 1 (some 21)) 20 2 (some 25)) 20 3 (some 29)))) 1 rfl ?_
  refine wp_blk (pc' := 24) (L' := [some (.ref 19), some (.ref 45), some (.int 5)]) (st' := [.int 4, .ref 20]) (h' := ((76, 1769), zS, I, (zup (zup (zup (zup (zPP (zPr 6)) 20 0 (some 49)) 20 1 (some 21)) 20 2 (some 25)) 20 3 (some 29)))) 1 rfl ?_
  refine wp_blk (pc' := 25) (L' := [some (.ref 19), some (.ref 45), some (.int 5)]) (st' := [.ref 19, .int 4, .ref 20]) (h' := ((76, 1769), zS, I, (zup (zup (zup (zup (zPP (zPr 6)) 20 0 (some 49)) 20 1 (some 21)) 20 2 (some 25)) 20 3 (some 29)))) 1 rfl ?_
  refine wp_blk (pc' := 28) (L' := [some (.ref 19), some (.ref 45), some (.int 5)]) (st' := [.ref 20, .int 4, .ref 20]) (h' := ((76, 1769), zS, I, (zup (zup (zup (zup (zPP (zPr 6)) 20 0 (some 49)) 20 1 (some 21)) 20 2 (some 25)) 20 3 (some 29)))) 1 rfl ?_
  refine wp_blk (pc' := 29) (L' := [some (.ref 19), some (.ref 45), some (.int 5)]) (st' := [.int 5, .ref 20, .int 4, .ref 20]) (h' := ((76, 1769), zS, I, (zup (zup (zup (zup (zPP (zPr 6)) 20 0 (some 49)) 20 1 (some 21)) 20 2 (some 25)) 20 3 (some 29)))) 1 rfl ?_
  refine wp_blk (pc' := 30) (L' := [some (.ref 19), some (.ref 45), some (.int 5)]) (st' := [.ref 33, .int 4, .ref 20]) (h' := ((76, 1769), zS, I, (zup (zup (zup (zup (zPP (zPr 6)) 20 0 (some 49)) 20 1 (some 21)) 20 2 (some 25)) 20 3 (some 29)))) 1 rfl ?_
  refine wp_blk (pc' := 31) (L' := [some (.ref 19), some (.ref 45), some (.int 5)]) (st' := []) (h' := ((76, 1769), zS, I, (zup (zup (zup (zup (zup (zPP (zPr 6)) 20 0 (some 49)) 20 1 (some 21)) 20 2 (some 25)) 20 3 (some 29)) 20 4 (some 33)))) 1 rfl ?_
  refine wp_blk (pc' := 34) (L' := [some (.ref 19), some (.ref 45), some (.int 6)]) (st' := []) (h' := ((76, 1769), zS, I, (zup (zup (zup (zup (zup (zPP (zPr 6)) 20 0 (some 49)) 20 1 (some 21)) 20 2 (some 25)) 20 3 (some 29)) 20 4 (some 33)))) 1 rfl ?_
  refine wp_blk (pc' := 8) (L' := [some (.ref 19), some (.ref 45), some (.int 6)]) (st' := []) (h' := ((76, 1769), zS, I, (zup (zup (zup (zup (zup (zPP (zPr 6)) 20 0 (some 49)) 20 1 (some 21)) 20 2 (some 25)) 20 3 (some 29)) 20 4 (some 33)))) 1 rfl ?_
  refine wp_blk (pc' := 9) (L' := [some (.ref 19), some (.ref 45), some (.int 6)]) (st' := [.int 6]) (h' := ((76, 1769), zS, I, (zup (zup (zup (zup (zup (zPP (zPr 6)) 20 0 (some 49)) 20 1 (some 21)) 20 2 (some 25)) 20 3 (some 29)) 20 4 (some 33)))) 1 rfl ?_
  refine wp_blk (pc' := 10) (L' := [some (.ref 19), some (.ref 45), some (.int 6)]) (st' := [.ref 19, .int 6]) (h' := ((76, 1769), zS, I, (zup (zup (zup (zup (zup (zPP (zPr 6)) 20 0 (some 49)) 20 1 (some 21)) 20 2 (some 25)) 20 3 (some 29)) 20 4 (some 33)))) 1 rfl ?_
  refine wp_blk (pc' := 13) (L' := [some (.ref 19), some (.ref 45), some (.int 6)]) (st' := [.ref 20, .int 6]) (h' := ((76, 1769), zS, I, (zup (zup (zup (zup (zup (zPP (zPr 6)) 20 0 (some 49)) 20 1 (some 21)) 20 2 (some 25)) 20 3 (some 29)) 20 4 (some 33)))) 1 rfl ?_
  refine wp_blk (pc' := 14) (L' := [some (.ref 19), some (.ref 45), some (.int 6)]) (st' := [.int 8, .int 6]) (h' := ((76, 1769), zS, I, (zup (zup (zup (zup (zup (zPP (zPr 6)) 20 0 (some 49)) 20 1 (some 21)) 20 2 (some 25)) 20 3 (some 29)) 20 4 (some 33)))) 1 rfl ?_
  refine wp_blk (pc' := 17) (L' := [some (.ref 19), some (.ref 45), some (.int 6)]) (st' := []) (h' := ((76, 1769), zS, I, (zup (zup (zup (zup (zup (zPP (zPr 6)) 20 0 (some 49)) 20 1 (some 21)) 20 2 (some 25)) 20 3 (some 29)) 20 4 (some 33)))) 1 rfl ?_
  refine wp_blk (pc' := 18) (L' := [some (.ref 19), some (.ref 45), some (.int 6)]) (st' := [.ref 19]) (h' := ((76, 1769), zS, I, (zup (zup (zup (zup (zup (zPP (zPr 6)) 20 0 (some 49)) 20 1 (some 21)) 20 2 (some 25)) 20 3 (some 29)) 20 4 (some 33)))) 1 rfl ?_
  refine wp_blk (pc' := 21) (L' := [some (.ref 19), some (.ref 45), some (.int 6)]) (st' := [.ref 20]) (h' := ((76, 1769), zS, I, (zup (zup (zup (zup (zup (zPP (zPr 6)) 20 0 (some 49)) 20 1 (some 21)) 20 2 (some 25)) 20 3 (some 29)) 20 4 (some 33)))) 1 rfl ?_
  refine wp_blk (pc' := 22) (L' := [some (.ref 19), some (.ref 45), some (.int 6)]) (st' := [.int 6, .ref 20]) (h' := ((76, 1769), zS, I, (zup (zup (zup (zup (zup (zPP (zPr 6)) 20 0 (some 49)) 20 1 (some 21)) 20 2 (some 25)) 20 3 (some 29)) 20 4 (some 33)))) 1 rfl ?_
  refine wp_blk (pc' := 23) (L' := [some (.ref 19), some (.ref 45), some (.int 6)]) (st' := [.int 1, .int 6, .ref 20]) (h' := ((76, 1769), zS, I, (zup (zup (zup (zup (zup (zPP (zPr 6)) 20 0 (some 49)) 20 1 (some 21)) 20 2 (some 25)) 20 3 (some 29)) 20 4 (some 33)))) 1 rfl ?_
  refine wp_blk (pc' := 24) (L' := [some (.ref 19), some (.ref 45), some (.int 6)]) (st' := [.int 5, .ref 20]) (h' := ((76, 1769), zS, I, (zup (zup (zup (zup (zup (zPP (zPr 6)) 20 0 (some 49)) 20 1 (some 21)) 20 2 (some 25)) 20 3 (some 29)) 20 4 (some 33)))) 1 rfl ?_
  refine wp_blk (pc' := 25) (L' := [some (.ref 19), some (.ref 45), some (.int 6)]) (st' := [.ref 19, .int 5, .ref 20]) (h' := ((76, 1769), zS, I, (zup (zup (zup (zup (zup (zPP (zPr 6)) 20 0 (some 49)) 20 1 (some 21)) 20 2 (some 25)) 20 3 (some 29)) 20 4 (some 33)))) 1 rfl ?_
  refine wp_blk (pc' := 28) (L' := [some (.ref 19), some (.ref 45), some (.int 6)]) (st' := [.ref 20, .int 5, .ref 20]) (h' := ((76, 1769), zS, I, (zup (zup (zup (zup (zup (zPP (zPr 6)) 20 0 (some 49)) 20 1 (some 21)) 20 2 (some 25)) 20 3 (some 29)) 20 4 (some 33)))) 1 rfl ?_
  refine wp_blk (pc' := 29) (L' := [some (.ref 19), some (.ref 45), some (.int 6)]) (st' := [.int 6, .ref 20, .int 5, .ref 20]) (h' := ((76, 1769), zS, I, (zup (zup (zup (zup (zup (zPP (zPr 6)) 20 0 (some 49)) 20 1 (some 21)) 20 2 (some 25)) 20 3 (some 29)) 20 4 (some 33)))) 1 rfl ?_
  refine wp_blk (pc' := 30) (L' := [some (.ref 19), some (.ref 45), some (.int 6)]) (st' := [.ref 37, .int 5, .ref 20]) (h' := ((76, 1769), zS, I, (zup (zup (zup (zup (zup (zPP (zPr 6)) 20 0 (some 49)) 20 1 (some 21)) 20 2 (some 25)) 20 3 (some 29)) 20 4 (some 33)))) 1 rfl ?_
  refine wp_blk (pc' := 31) (L' := [some (.ref 19), some (.ref 45), some (.int 6)]) (st' := []) (h' := ((76, 1769), zS, I, (zup (zup (zup (zup (zup (zup (zPP (zPr 6)) 20 0 (some 49)) 20 1 (some 21)) 20 2 (some 25)) 20 3 (some 29)) 20 4 (some 33)) 20 5 (some 37)))) 1 rfl ?_
  refine wp_blk (pc' := 34) (L' := [some (.ref 19), some (.ref 45), some (.int 7)]) (st' := []) (h' := ((76, 1769), zS, I, (zup (zup (zup (zup (zup (zup (zPP (zPr 6)) 20 0 (some 49)) 20 1 (some 21)) 20 2 (some 25)) 20 3 (some 29)) 20 4 (some 33)) 20 5 (some 37)))) 1 rfl ?_
  refine wp_blk (pc' := 8) (L' := [some (.ref 19), some (.ref 45), some (.int 7)]) (st' := []) (h' := ((76, 1769), zS, I, (zup (zup (zup (zup (zup (zup (zPP (zPr 6)) 20 0 (some 49)) 20 1 (some 21)) 20 2 (some 25)) 20 3 (some 29)) 20 4 (some 33)) 20 5 (some 37)))) 1 rfl ?_
  refine wp_blk (pc' := 9) (L' := [some (.ref 19), some (.ref 45), some (.int 7)]) (st' := [.int 7]) (h' := ((76, 1769), zS, I, (zup (zup (zup (zup (zup (zup (zPP (zPr 6)) 20 0 (some 49)) 20 1 (some 21)) 20 2 (some 25)) 20 3 (some 29)) 20 4 (some 33)) 20 5 (some 37)))) 1 rfl ?_
  refine wp_blk (pc' := 10) (L' := [some (.ref 19), some (.ref 45), some (.int 7)]) (st' := [.ref 19, .int 7]) (h' := ((76, 1769), zS, I, (zup (zup (zup (zup (zup (zup (zPP (zPr 6)) 20 0 (some 49)) 20 1 (some 21)) 20 2 (some 25)) 20 3 (some 29)) 20 4 (some 33)) 20 5 (some 37)))) 1 rfl ?_
  refine wp_blk (pc' := 13) (L' := [some (.ref 19), some (.ref 45), some (.int 7)]) (st' := [.ref 20, .int 7]) (h' := ((76, 1769), zS, I, (zup (zup (zup (zup (zup (zup (zPP (zPr 6)) 20 0 (some 49)) 20 1 (some 21)) 20 2 (some 25)) 20 3 (some 29)) 20 4 (some 33)) 20 5 (some 37)))) 1 rfl ?_
  refine wp_blk (pc' := 14) (L' := [some (.ref 19), some (.ref 45), some (.int 7)]) (st' := [.int 8, .int 7]) (h' := ((76, 1769), zS, I, (zup (zup (zup (zup (zup (zup (zPP (zPr 6)) 20 0 (some 49)) 20 1 (some 21)) 20 2 (some 25)) 20 3 (some 29)) 20 4 (some 33)) 20 5 (some 37)))) 1 rfl ?_
  refine wp_blk (pc' := 17) (L' := [some (.ref 19), some (.ref 45), some (.int 7)]) (st' := []) (h' := ((76, 1769), zS, I, (zup (zup (zup (zup (zup (zup (zPP (zPr 6)) 20 0 (some 49)) 20 1 (some 21)) 20 2 (some 25)) 20 3 (some 29)) 20 4 (some 33)) 20 5 (some 37)))) 1 rfl ?_
  refine wp_blk (pc' := 18) (L' := [some (.ref 19), some (.ref 45), some (.int 7)]) (st' := [.ref 19]) (h' := ((76, 1769), zS, I, (zup (zup (zup (zup (zup (zup (zPP (zPr 6)) 20 0 (some 49)) 20 1 (some 21)) 20 2 (some 25)) 20 3 (some 29)) 20 4 (some 33)) 20 5 (some 37)))) 1 rfl ?_
  refine wp_blk (pc' := 21) (L' := [some (.ref 19), some (.ref 45), some (.int 7)]) (st' := [.ref 20]) (h' := ((76, 1769), zS, I, (zup (zup (zup (zup (zup (zup (zPP (zPr 6)) 20 0 (some 49)) 20 1 (some 21)) 20 2 (some 25)) 20 3 (some 29)) 20 4 (some 33)) 20 5 (some 37)))) 1 rfl ?_
  refine wp_blk (pc' := 22) (L' := [some (.ref 19), some (.ref 45), some (.int 7)]) (st' := [.int 7, .ref 20]) (h' := ((76, 1769), zS, I, (zup (zup (zup (zup (zup (zup (zPP (zPr 6)) 20 0 (some 49)) 20 1 (some 21)) 20 2 (some 25)) 20 3 (some 29)) 20 4 (some 33)) 20 5 (some 37)))) 1 rfl ?_
  refine wp_blk (pc' := 23) (L' := [some (.ref 19), some (.ref 45), some (.int 7)]) (st' := [.int 1, .int 7, .ref 20]) (h' := ((76, 1769), zS, I, (zup (zup (zup (zup (zup (zup (zPP (zPr 6)) 20 0 (some 49)) 20 1 (some 21)) 20 2 (some 25)) 20 3 (some 29)) 20 4 (some 33)) 20 5 (some 37)))) 1 rfl ?_
  refine wp_blk (pc' := 24) (L' := [some (.ref 19), some (.ref 45), some (.int 7)]) (st' := [.int 6, .ref 20]) (h' := ((76, 1769), zS, I, (zup (zup (zup (zup (zup (zup (zPP (zPr 6)) 20 0 (some 49)) 20 1 (some 21)) 20 2 (some 25)) 20 3 (some 29)) 20 4 (some 33)) 20 5 (some 37)))) 1 rfl ?_
  refine wp_blk (pc' := 25) (L' := [some (.ref 19), some (.ref 45), some (.int 7)]) (st' := [.ref 19, .int 6, .ref 20]) (h' := ((76, 1769), zS, I, (zup (zup (zup (zup (zup (zup (zPP (zPr 6)) 20 0 (some 49)) 20 1 (some 21)) 20 2 (some 25)) 20 3 (some 29)) 20 4 (some 33)) 20 5 (some 37)))) 1 rfl ?_
  refine wp_blk (pc' := 28) (L' := [some (.ref 19), some (.ref 45), some (.int 7)]) (st' := [.ref 20, .int 6, .ref 20]) (h' := ((76, 1769), zS, I, (zup (zup (zup (zup (zup (zup (zPP (zPr 6)) 20 0 (some 49)) 20 1 (some 21)) 20 2 (some 25)) 20 3 (some 29)) 20 4 (some 33)) 20 5 (some 37)))) 1 rfl ?_
  refine wp_blk (pc' := 29) (L' := [some (.ref 19), some (.ref 45), some (.int 7)]) (st' := [.int 7, .ref 20, .int 6, .ref 20]) (h' := ((76, 1769), zS, I, (zup (zup (zup (zup (zup (zup (zPP (zPr 6)) 20 0 (some 49)) 20 1 (some 21)) 20 2 (some 25)) 20 3 (some 29)) 20 4 (some 33)) 20 5 (some 37)))) 1 rfl ?_
  refine wp_blk (pc' := 30) (L' := [some (.ref 19), some (.ref 45), some (.int 7)]) (st' := [.ref 41, .int 6, .ref 20]) (h' := ((76, 1769), zS, I, (zup (zup (zup (zup (zup (zup (zPP (zPr 6)) 20 0 (some 49)) 20 1 (some 21)) 20 2 (some 25)) 20 3 (some 29)) 20 4 (some 33)) 20 5 (some 37)))) 1 rfl ?_
  refine wp_blk (pc' := 31) (L' := [some (.ref 19), some (.ref 45), some (.int 7)]) (st' := []) (h' := ((76, 1769), zS, I, (zup (zup (zup (zup (zup (zup (zup (zPP (zPr 6)) 20 0 (some 49)) 20 1 (some 21)) 20 2 (some 25)) 20 3 (some 29)) 20 4 (some 33)) 20 5 (some 37)) 20 6 (some 41)))) 1 rfl ?_
  refine wp_blk (pc' := 34) (L' := [some (.ref 19), some (.ref 45), some (.int 8)]) (st' := []) (h' := ((76, 1769), zS, I, (zup (zup (zup (zup (zup (zup (zup (zPP (zPr 6)) 20 0 (some 49)) 20 1 (some 21)) 20 2 (some 25)) 20 3 (some 29)) 20 4 (some 33)) 20 5 (some 37)) 20 6 (some 41)))) 1 rfl ?_
  refine wp_blk (pc' := 8) (L' := [some (.ref 19), some (.ref 45), some (.int 8)]) (st' := []) (h' := ((76, 1769), zS, I, (zup (zup (zup (zup (zup (zup (zup (zPP (zPr 6)) 20 0 (some 49)) 20 1 (some 21)) 20 2 (some 25)) 20 3 (some 29)) 20 4 (some 33)) 20 5 (some 37)) 20 6 (some 41)))) 1 rfl ?_
  refine wp_blk (pc' := 9) (L' := [some (.ref 19), some (.ref 45), some (.int 8)]) (st' := [.int 8]) (h' := ((76, 1769), zS, I, (zup (zup (zup (zup (zup (zup (zup (zPP (zPr 6)) 20 0 (some 49)) 20 1 (some 21)) 20 2 (some 25)) 20 3 (some 29)) 20 4 (some 33)) 20 5 (some 37)) 20 6 (some 41)))) 1 rfl ?_
  refine wp_blk (pc' := 10) (L' := [some (.ref 19), some (.ref 45), some (.int 8)]) (st' := [.ref 19, .int 8]) (h' := ((76, 1769), zS, I, (zup (zup (zup (zup (zup (zup (zup (zPP (zPr 6)) 20 0 (some 49)) 20 1 (some 21)) 20 2 (some 25)) 20 3 (some 29)) 20 4 (some 33)) 20 5 (some 37)) 20 6 (some 41)))) 1 rfl ?_
  refine wp_blk (pc' := 13) (L' := [some (.ref 19), some (.ref 45), some (.int 8)]) (st' := [.ref 20, .int 8]) (h' := ((76, 1769), zS, I, (zup (zup (zup (zup (zup (zup (zup (zPP (zPr 6)) 20 0 (some 49)) 20 1 (some 21)) 20 2 (some 25)) 20 3 (some 29)) 20 4 (some 33)) 20 5 (some 37)) 20 6 (some 41)))) 1 rfl ?_
  refine wp_blk (pc' := 14) (L' := [some (.ref 19), some (.ref 45), some (.int 8)]) (st' := [.int 8, .int 8]) (h' := ((76, 1769), zS, I, (zup (zup (zup (zup (zup (zup (zup (zPP (zPr 6)) 20 0 (some 49)) 20 1 (some 21)) 20 2 (some 25)) 20 3 (some 29)) 20 4 (some 33)) 20 5 (some 37)) 20 6 (some 41)))) 1 rfl ?_
  refine wp_blk (pc' := 37) (L' := [some (.ref 19), some (.ref 45), some (.int 8)]) (st' := []) (h' := ((76, 1769), zS, I, (zup (zup (zup (zup (zup (zup (zup (zPP (zPr 6)) 20 0 (some 49)) 20 1 (some 21)) 20 2 (some 25)) 20 3 (some 29)) 20 4 (some 33)) 20 5 (some 37)) 20 6 (some 41)))) 1 rfl ?_
  refine wp_blk (pc' := 38) (L' := [some (.ref 19), some (.ref 45), some (.int 8)]) (st' := [.ref 19]) (h' := ((76, 1769), zS, I, (zup (zup (zup (zup (zup (zup (zup (zPP (zPr 6)) 20 0 (some 49)) 20 1 (some 21)) 20 2 (some 25)) 20 3 (some 29)) 20 4 (some 33)) 20 5 (some 37)) 20 6 (some 41)))) 1 rfl ?_
  refine wp_blk (pc' := 39) (L' := [some (.ref 19), some (.ref 45), some (.int 8)]) (st' := [.ref 19, .ref 19]) (h' := ((76, 1769), zS, I, (zup (zup (zup (zup (zup (zup (zup (zPP (zPr 6)) 20 0 (some 49)) 20 1 (some 21)) 20 2 (some 25)) 20 3 (some 29)) 20 4 (some 33)) 20 5 (some 37)) 20 6 (some 41)))) 1 rfl ?_
  refine wp_blk (pc' := 42) (L' := [some (.ref 19), some (.ref 45), some (.int 8)]) (st' := [.ref 20, .ref 19]) (h' := ((76, 1769), zS, I, (zup (zup (zup (zup (zup (zup (zup (zPP (zPr 6)) 20 0 (some 49)) 20 1 (some 21)) 20 2 (some 25)) 20 3 (some 29)) 20 4 (some 33)) 20 5 (some 37)) 20 6 (some 41)))) 1 rfl ?_
  refine wp_blk (pc' := 43) (L' := [some (.ref 19), some (.ref 45), some (.int 8)]) (st' := [.int 8, .ref 19]) (h' := ((76, 1769), zS, I, (zup (zup (zup (zup (zup (zup (zup (zPP (zPr 6)) 20 0 (some 49)) 20 1 (some 21)) 20 2 (some 25)) 20 3 (some 29)) 20 4 (some 33)) 20 5 (some 37)) 20 6 (some 41)))) 1 rfl ?_
  refine wp_blk (pc' := 44) (L' := [some (.ref 19), some (.ref 45), some (.int 8)]) (st' := [.int 1, .int 8, .ref 19]) (h' := ((76, 1769), zS, I, (zup (zup (zup (zup (zup (zup (zup (zPP (zPr 6)) 20 0 (some 49)) 20 1 (some 21)) 20 2 (some 25)) 20 3 (some 29)) 20 4 (some 33)) 20 5 (some 37)) 20 6 (some 41)))) 1 rfl ?_
  refine wp_blk (pc' := 45) (L' := [some (.ref 19), some (.ref 45), some (.int 8)]) (st' := [.int 7, .ref 19]) (h' := ((76, 1769), zS, I, (zup (zup (zup (zup (zup (zup (zup (zPP (zPr 6)) 20 0 (some 49)) 20 1 (some 21)) 20 2 (some 25)) 20 3 (some 29)) 20 4 (some 33)) 20 5 (some 37)) 20 6 (some 41)))) 1 rfl ?_
  refine wp_blk (pc' := 48) (L' := [some (.ref 19), some (.ref 45), some (.int 8)]) (st' := []) (h' := ((76, 1769), zS, (zui I 19 1 7), (zup (zup (zup (zup (zup (zup (zup (zPP (zPr 6)) 20 0 (some 49)) 20 1 (some 21)) 20 2 (some 25)) 20 3 (some 29)) 20 4 (some 33)) 20 5 (some 37)) 20 6 (some 41)))) 1 rfl ?_
  refine wp_blk (pc' := 49) (L' := [some (.ref 19), some (.ref 45), some (.int 8)]) (st' := [.ref 19]) (h' := ((76, 1769), zS, (zui I 19 1 7), (zup (zup (zup (zup (zup (zup (zup (zPP (zPr 6)) 20 0 (some 49)) 20 1 (some 21)) 20 2 (some 25)) 20 3 (some 29)) 20 4 (some 33)) 20 5 (some 37)) 20 6 (some 41)))) 1 rfl ?_
  refine wp_blk (pc' := 52) (L' := [some (.ref 19), some (.ref 45), some (.int 8)]) (st' := [.int 7]) (h' := ((76, 1769), zS, (zui I 19 1 7), (zup (zup (zup (zup (zup (zup (zup (zPP (zPr 6)) 20 0 (some 49)) 20 1 (some 21)) 20 2 (some 25)) 20 3 (some 29)) 20 4 (some 33)) 20 5 (some 37)) 20 6 (some 41)))) 1 rfl ?_
  refine wp_blk (pc' := 55) (L' := [some (.ref 19), some (.ref 45), some (.int 8)]) (st' := []) (h' := ((76, 1769), zS, (zui I 19 1 7), (zup (zup (zup (zup (zup (zup (zup (zPP (zPr 6)) 20 0 (some 49)) 20 1 (some 21)) 20 2 (some 25)) 20 3 (some 29)) 20 4 (some 33)) 20 5 (some 37)) 20 6 (some 41)))) 1 rfl ?_
  refine wp_blk (pc' := 56) (L' := [some (.ref 19), some (.ref 45), some (.int 8)]) (st' := [.ref 19]) (h' := ((76, 1769), zS, (zui I 19 1 7), (zup (zup (zup (zup (zup (zup (zup (zPP (zPr 6)) 20 0 (some 49)) 20 1 (some 21)) 20 2 (some 25)) 20 3 (some 29)) 20 4 (some 33)) 20 5 (some 37)) 20 6 (some 41)))) 1 rfl ?_
  refine wp_blk (pc' := 59) (L' := [some (.ref 19), some (.ref 45), some (.int 8)]) (st' := [.ref 20]) (h' := ((76, 1769), zS, (zui I 19 1 7), (zup (zup (zup (zup (zup (zup (zup (zPP (zPr 6)) 20 0 (some 49)) 20 1 (some 21)) 20 2 (some 25)) 20 3 (some 29)) 20 4 (some 33)) 20 5 (some 37)) 20 6 (some 41)))) 1 rfl ?_
  refine wp_blk (pc' := 60) (L' := [some (.ref 19), some (.ref 45), some (.int 8)]) (st' := [.ref 19, .ref 20]) (h' := ((76, 1769), zS, (zui I 19 1 7), (zup (zup (zup (zup (zup (zup (zup (zPP (zPr 6)) 20 0 (some 49)) 20 1 (some 21)) 20 2 (some 25)) 20 3 (some 29)) 20 4 (some 33)) 20 5 (some 37)) 20 6 (some 41)))) 1 rfl ?_
  refine wp_blk (pc' := 63) (L' := [some (.ref 19), some (.ref 45), some (.int 8)]) (st' := [.int 7, .ref 20]) (h' := ((76, 1769), zS, (zui I 19 1 7), (zup (zup (zup (zup (zup (zup (zup (zPP (zPr 6)) 20 0 (some 49)) 20 1 (some 21)) 20 2 (some 25)) 20 3 (some 29)) 20 4 (some 33)) 20 5 (some 37)) 20 6 (some 41)))) 1 rfl ?_
  refine wp_blk (pc' := 64) (L' := [some (.ref 19), some (.ref 45), some (.int 8)]) (st' := [.ref 45, .int 7, .ref 20]) (h' := ((76, 1769), zS, (zui I 19 1 7), (zup (zup (zup (zup (zup (zup (zup (zPP (zPr 6)) 20 0 (some 49)) 20 1 (some 21)) 20 2 (some 25)) 20 3 (some 29)) 20 4 (some 33)) 20 5 (some 37)) 20 6 (some 41)))) 1 rfl ?_
  refine wp_blk (pc' := 65) (L' := [some (.ref 19), some (.ref 45), some (.int 8)]) (st' := []) (h' := ((76, 1769), zS, (zui I 19 1 7), (zup (zup (zup (zup (zup (zup (zup (zup (zPP (zPr 6)) 20 0 (some 49)) 20 1 (some 21)) 20 2 (some 25)) 20 3 (some 29)) 20 4 (some 33)) 20 5 (some 37)) 20 6 (some 41)) 20 7 (some 45)))) 1 rfl ?_
  exact wp_end rfl rfl ⟨rfl, by rw [zH, ← zrot_6]⟩
set_option maxRecDepth 100000 in
theorem sp_drop_7 {X : Nat × (Nat → Int32)} (I : Nat → Nat → Int32) : Wf X 67 [some (.ref 19), none, none] (zH I (zPr 7)) none (zH (zui I 19 1 7) (zPr 0)) := by
  unfold Wf
  refine wp_blk (pc' := 1) (L' := [some (.ref 19), none, none]) (st' := [.ref 19]) (h' := zH I (zPr 7)) 1 rfl ?_
  refine wp_blk (pc' := 2) (L' := [some (.ref 19), none, none]) (st' := [.int 0, .ref 19]) (h' := zH I (zPr 7)) 1 rfl ?_
  refine wp_callf (d := 68) (as := [.ref 19, .int 0]) (rest := []) (Ld := [some (.ref 19), some (.int 0)]) (pc' := 5) (st' := [.ref 49]) (r := some (.ref 49)) (h1 := zH I (zPr 7)) rfl rfl rfl rfl rfl rfl rfl rfl rfl (sp_at19_7_0 (X := X) I) ?_
  refine wp_blk (pc' := 6) (L' := [some (.ref 19), some (.ref 49), none]) (st' := []) (h' := zH I (zPr 7)) 1 rfl ?_
  refine wp_blk (pc' := 7) (L' := [some (.ref 19), some (.ref 49), none]) (st' := [.int 1]) (h' := zH I (zPr 7)) 1 rfl ?_
  refine wp_blk (pc' := 8) (L' := [some (.ref 19), some (.ref 49), some (.int 1)]) (st' := []) (h' := zH I (zPr 7)) 1 rfl ?_
  refine wp_blk (pc' := 9) (L' := [some (.ref 19), some (.ref 49), some (.int 1)]) (st' := [.int 1]) (h' := zH I (zPr 7)) 1 rfl ?_
  refine wp_blk (pc' := 10) (L' := [some (.ref 19), some (.ref 49), some (.int 1)]) (st' := [.ref 19, .int 1]) (h' := zH I (zPr 7)) 1 rfl ?_
  refine wp_blk (pc' := 13) (L' := [some (.ref 19), some (.ref 49), some (.int 1)]) (st' := [.ref 20, .int 1]) (h' := zH I (zPr 7)) 1 rfl ?_
  refine wp_blk (pc' := 14) (L' := [some (.ref 19), some (.ref 49), some (.int 1)]) (st' := [.int 8, .int 1]) (h' := zH I (zPr 7)) 1 rfl ?_
  refine wp_blk (pc' := 17) (L' := [some (.ref 19), some (.ref 49), some (.int 1)]) (st' := []) (h' := zH I (zPr 7)) 1 rfl ?_
  refine wp_blk (pc' := 18) (L' := [some (.ref 19), some (.ref 49), some (.int 1)]) (st' := [.ref 19]) (h' := zH I (zPr 7)) 1 rfl ?_
  refine wp_blk (pc' := 21) (L' := [some (.ref 19), some (.ref 49), some (.int 1)]) (st' := [.ref 20]) (h' := zH I (zPr 7)) 1 rfl ?_
  refine wp_blk (pc' := 22) (L' := [some (.ref 19), some (.ref 49), some (.int 1)]) (st' := [.int 1, .ref 20]) (h' := zH I (zPr 7)) 1 rfl ?_
  refine wp_blk (pc' := 23) (L' := [some (.ref 19), some (.ref 49), some (.int 1)]) (st' := [.int 1, .int 1, .ref 20]) (h' := zH I (zPr 7)) 1 rfl ?_
  refine wp_blk (pc' := 24) (L' := [some (.ref 19), some (.ref 49), some (.int 1)]) (st' := [.int 0, .ref 20]) (h' := zH I (zPr 7)) 1 rfl ?_
  refine wp_blk (pc' := 25) (L' := [some (.ref 19), some (.ref 49), some (.int 1)]) (st' := [.ref 19, .int 0, .ref 20]) (h' := zH I (zPr 7)) 1 rfl ?_
  refine wp_blk (pc' := 28) (L' := [some (.ref 19), some (.ref 49), some (.int 1)]) (st' := [.ref 20, .int 0, .ref 20]) (h' := zH I (zPr 7)) 1 rfl ?_
  refine wp_blk (pc' := 29) (L' := [some (.ref 19), some (.ref 49), some (.int 1)]) (st' := [.int 1, .ref 20, .int 0, .ref 20]) (h' := zH I (zPr 7)) 1 rfl ?_
  refine wp_blk (pc' := 30) (L' := [some (.ref 19), some (.ref 49), some (.int 1)]) (st' := [.ref 21, .int 0, .ref 20]) (h' := zH I (zPr 7)) 1 rfl ?_
  refine wp_blk (pc' := 31) (L' := [some (.ref 19), some (.ref 49), some (.int 1)]) (st' := []) (h' := ((76, 1769), zS, I, (zup (zPP (zPr 7)) 20 0 (some 21)))) 1 rfl ?_
  refine wp_blk (pc' := 34) (L' := [some (.ref 19), some (.ref 49), some (.int 2)]) (st' := []) (h' := ((76, 1769), zS, I, (zup (zPP (zPr 7)) 20 0 (some 21)))) 1 rfl ?_
  refine wp_blk (pc' := 8) (L' := [some (.ref 19), some (.ref 49), some (.int 2)]) (st' := []) (h' := ((76, 1769), zS, I, (zup (zPP (zPr 7)) 20 0 (some 21)))) 1 rfl ?_
  refine wp_blk (pc' := 9) (L' := [some (.ref 19), some (.ref 49), some (.int 2)]) (st' := [.int 2]) (h' := ((76, 1769), zS, I, (zup (zPP (zPr 7)) 20 0 (some 21)))) 1 rfl ?_
  refine wp_blk (pc' := 10) (L' := [some (.ref 19), some (.ref 49), some (.int 2)]) (st' := [.ref 19, .int 2]) (h' := ((76, 1769), zS, I, (zup (zPP (zPr 7)) 20 0 (some 21)))) 1 rfl ?_
  refine wp_blk (pc' := 13) (L' := [some (.ref 19), some (.ref 49), some (.int 2)]) (st' := [.ref 20, .int 2]) (h' := ((76, 1769), zS, I, (zup (zPP (zPr 7)) 20 0 (some 21)))) 1 rfl ?_
  refine wp_blk (pc' := 14) (L' := [some (.ref 19), some (.ref 49), some (.int 2)]) (st' := [.int 8, .int 2]) (h' := ((76, 1769), zS, I, (zup (zPP (zPr 7)) 20 0 (some 21)))) 1 rfl ?_
  refine wp_blk (pc' := 17) (L' := [some (.ref 19), some (.ref 49), some (.int 2)]) (st' := []) (h' := ((76, 1769), zS, I, (zup (zPP (zPr 7)) 20 0 (some 21)))) 1 rfl ?_
  refine wp_blk (pc' := 18) (L' := [some (.ref 19), some (.ref 49), some (.int 2)]) (st' := [.ref 19]) (h' := ((76, 1769), zS, I, (zup (zPP (zPr 7)) 20 0 (some 21)))) 1 rfl ?_
  refine wp_blk (pc' := 21) (L' := [some (.ref 19), some (.ref 49), some (.int 2)]) (st' := [.ref 20]) (h' := ((76, 1769), zS, I, (zup (zPP (zPr 7)) 20 0 (some 21)))) 1 rfl ?_
  refine wp_blk (pc' := 22) (L' := [some (.ref 19), some (.ref 49), some (.int 2)]) (st' := [.int 2, .ref 20]) (h' := ((76, 1769), zS, I, (zup (zPP (zPr 7)) 20 0 (some 21)))) 1 rfl ?_
  refine wp_blk (pc' := 23) (L' := [some (.ref 19), some (.ref 49), some (.int 2)]) (st' := [.int 1, .int 2, .ref 20]) (h' := ((76, 1769), zS, I, (zup (zPP (zPr 7)) 20 0 (some 21)))) 1 rfl ?_
  refine wp_blk (pc' := 24) (L' := [some (.ref 19), some (.ref 49), some (.int 2)]) (st' := [.int 1, .ref 20]) (h' := ((76, 1769), zS, I, (zup (zPP (zPr 7)) 20 0 (some 21)))) 1 rfl ?_
  refine wp_blk (pc' := 25) (L' := [some (.ref 19), some (.ref 49), some (.int 2)]) (st' := [.ref 19, .int 1, .ref 20]) (h' := ((76, 1769), zS, I, (zup (zPP (zPr 7)) 20 0 (some 21)))) 1 rfl ?_
  refine wp_blk (pc' := 28) (L' := [some (.ref 19), some (.ref 49), some (.int 2)]) (st' := [.ref 20, .int 1, .ref 20]) (h' := ((76, 1769), zS, I, (zup (zPP (zPr 7)) 20 0 (some 21)))) 1 rfl ?_
  refine wp_blk (pc' := 29) (L' := [some (.ref 19), some (.ref 49), some (.int 2)]) (st' := [.int 2, .ref 20, .int 1, .ref 20]) (h' := ((76, 1769), zS, I, (zup (zPP (zPr 7)) 20 0 (some 21)))) 1 rfl ?_
  refine wp_blk (pc' := 30) (L' := [some (.ref 19), some (.ref 49), some (.int 2)]) (st' := [.ref 25, .int 1, .ref 20]) (h' := ((76, 1769), zS, I, (zup (zPP (zPr 7)) 20 0 (some 21)))) 1 rfl ?_
  refine wp_blk (pc' := 31) (L' := [some (.ref 19), some (.ref 49), some (.int 2)]) (st' := []) (h' := ((76, 1769), zS, I, (zup (zup (zPP (zPr 7)) 20 0 (some 21)) 20 1 (some 25)))) 1 rfl ?_
  refine wp_blk (pc' := 34) (L' := [some (.ref 19), some (.ref 49), some (.int 3)]) (st' := []) (h' := ((76, 1769), zS, I, (zup (zup (zPP (zPr 7)) 20 0 (some 21)) 20 1 (some 25)))) 1 rfl ?_
  refine wp_blk (pc' := 8) (L' := [some (.ref 19), some (.ref 49), some (.int 3)]) (st' := []) (h' := ((76, 1769), zS, I, (zup (zup (zPP (zPr 7)) 20 0 (some 21)) 20 1 (some 25)))) 1 rfl ?_
  refine wp_blk (pc' := 9) (L' := [some (.ref 19), some (.ref 49), some (.int 3)]) (st' := [.int 3]) (h' := ((76, 1769), zS, I, (zup (zup (zPP (zPr 7)) 20 0 (some 21)) 20 1 (some 25)))) 1 rfl ?_
  refine wp_blk (pc' := 10) (L' := [some (.ref 19), some (.ref 49), some (.int 3)]) (st' := [.ref 19, .int 3]) (h' := ((76, 1769), zS, I, (zup (zup (zPP (zPr 7)) 20 0 (some 21)) 20 1 (some 25)))) 1 rfl ?_
  refine wp_blk (pc' := 13) (L' := [some (.ref 19), some (.ref 49), some (.int 3)]) (st' := [.ref 20, .int 3]) (h' := ((76, 1769), zS, I, (zup (zup (zPP (zPr 7)) 20 0 (some 21)) 20 1 (some 25)))) 1 rfl ?_
  refine wp_blk (pc' := 14) (L' := [some (.ref 19), some (.ref 49), some (.int 3)]) (st' := [.int 8, .int 3]) (h' := ((76, 1769), zS, I, (zup (zup (zPP (zPr 7)) 20 0 (some 21)) 20 1 (some 25)))) 1 rfl ?_
  refine wp_blk (pc' := 17) (L' := [some (.ref 19), some (.ref 49), some (.int 3)]) (st' := []) (h' := ((76, 1769), zS, I, (zup (zup (zPP (zPr 7)) 20 0 (some 21)) 20 1 (some 25)))) 1 rfl ?_
  refine wp_blk (pc' := 18) (L' := [some (.ref 19), some (.ref 49), some (.int 3)]) (st' := [.ref 19]) (h' := ((76, 1769), zS, I, (zup (zup (zPP (zPr 7)) 20 0 (some 21)) 20 1 (some 25)))) 1 rfl ?_
  refine wp_blk (pc' := 21) (L' := [some (.ref 19), some (.ref 49), some (.int 3)]) (st' := [.ref 20]) (h' := ((76, 1769), zS, I, (zup (zup (zPP (zPr 7)) 20 0 (some 21)) 20 1 (some 25)))) 1 rfl ?_
  refine wp_blk (pc' := 22) (L' := [some (.ref 19), some (.ref 49), some (.int 3)]) (st' := [.int 3, .ref 20]) (h' := ((76, 1769), zS, I, (zup (zup (zPP (zPr 7)) 20 0 (some 21)) 20 1 (some 25)))) 1 rfl ?_
  refine wp_blk (pc' := 23) (L' := [some (.ref 19), some (.ref 49), some (.int 3)]) (st' := [.int 1, .int 3, .ref 20]) (h' := ((76, 1769), zS, I, (zup (zup (zPP (zPr 7)) 20 0 (some 21)) 20 1 (some 25)))) 1 rfl ?_
  refine wp_blk (pc' := 24) (L' := [some (.ref 19), some (.ref 49), some (.int 3)]) (st' := [.int 2, .ref 20]) (h' := ((76, 1769), zS, I, (zup (zup (zPP (zPr 7)) 20 0 (some 21)) 20 1 (some 25)))) 1 rfl ?_
  refine wp_blk (pc' := 25) (L' := [some (.ref 19), some (.ref 49), some (.int 3)]) (st' := [.ref 19, .int 2, .ref 20]) (h' := ((76, 1769), zS, I, (zup (zup (zPP (zPr 7)) 20 0 (some 21)) 20 1 (some 25)))) 1 rfl ?_
  refine wp_blk (pc' := 28) (L' := [some (.ref 19), some (.ref 49), some (.int 3)]) (st' := [.ref 20, .int 2, .ref 20]) (h' := ((76, 1769), zS, I, (zup (zup (zPP (zPr 7)) 20 0 (some 21)) 20 1 (some 25)))) 1 rfl ?_
  refine wp_blk (pc' := 29) (L' := [some (.ref 19), some (.ref 49), some (.int 3)]) (st' := [.int 3, .ref 20, .int 2, .ref 20]) (h' := ((76, 1769), zS, I, (zup (zup (zPP (zPr 7)) 20 0 (some 21)) 20 1 (some 25)))) 1 rfl ?_
  refine wp_blk (pc' := 30) (L' := [some (.ref 19), some (.ref 49), some (.int 3)]) (st' := [.ref 29, .int 2, .ref 20]) (h' := ((76, 1769), zS, I, (zup (zup (zPP (zPr 7)) 20 0 (some 21)) 20 1 (some 25)))) 1 rfl ?_
  refine wp_blk (pc' := 31) (L' := [some (.ref 19), some (.ref 49), some (.int 3)]) (st' := []) (h' := ((76, 1769), zS, I, (zup (zup (zup (zPP (zPr 7)) 20 0 (some 21)) 20 1 (some 25)) 20 2 (some 29)))) 1 rfl ?_
  refine wp_blk (pc' := 34) (L' := [some (.ref 19), some (.ref 49), some (.int 4)]) (st' := []) (h' := ((76, 1769), zS, I, (zup (zup (zup (zPP (zPr 7)) 20 0 (some 21)) 20 1 (some 25)) 20 2 (some 29)))) 1 rfl ?_
  refine wp_blk (pc' := 8) (L' := [some (.ref 19), some (.ref 49), some (.int 4)]) (st' := []) (h' := ((76, 1769), zS, I, (zup (zup (zup (zPP (zPr 7)) 20 0 (some 21)) 20 1 (some 25)) 20 2 (some 29)))) 1 rfl ?_
  refine wp_blk (pc' := 9) (L' := [some (.ref 19), some (.ref 49), some (.int 4)]) (st' := [.int 4]) (h' := ((76, 1769), zS, I, (zup (zup (zup (zPP (zPr 7)) 20 0 (some 21)) 20 1 (some 25)) 20 2 (some 29)))) 1 rfl ?_
  refine wp_blk (pc' := 10) (L' := [some (.ref 19), some (.ref 49), some (.int 4)]) (st' := [.ref 19, .int 4]) (h' := ((76, 1769), zS, I, (zup (zup (zup (zPP (zPr 7)) 20 0 (some 21)) 20 1 (some 25)) 20 2 (some 29)))) 1 rfl ?_
  refine wp_blk (pc' := 13) (L' := [some (.ref 19), some (.ref 49), some (.int 4)]) (st' := [.ref 20, .int 4]) (h' := ((76, 1769), zS, I, (zup (zup (zup (zPP (zPr 7)) 20 0 (some 21)) 20 1 (some 25)) 20 2 (some 29)))) 1 rfl ?_
  refine wp_blk (pc' := 14) (L' := [some (.ref 19), some (.ref 49), some (.int 4)]) (st' := [.int 8, .int 4]) (h' := ((76, 1769), zS, I, (zup (zup (zup (zPP (zPr 7)) 20 0 (some 21)) 20 1 (some 25)) 20 2 (some 29)))) 1 rfl ?_
  refine wp_blk (pc' := 17) (L' := [some (.ref 19), some (.ref 49), some (.int 4)]) (st' := []) (h' := ((76, 1769), zS, I, (zup (zup (zup (zPP (zPr 7)) 20 0 (some 21)) 20 1 (some 25)) 20 2 (some 29)))) 1 rfl ?_
  refine wp_blk (pc' := 18) (L' := [some (.ref 19), some (.ref 49), some (.int 4)]) (st' := [.ref 19]) (h' := ((76, 1769), zS, I, (zup (zup (zup (zPP (zPr 7)) 20 0 (some 21)) 20 1 (some 25)) 20 2 (some 29)))) 1 rfl ?_
  refine wp_blk (pc' := 21) (L' := [some (.ref 19), some (.ref 49), some (.int 4)]) (st' := [.ref 20]) (h' := ((76, 1769), zS, I, (zup (zup (zup (zPP (zPr 7)) 20 0 (some 21)) 20 1 (some 25)) 20 2 (some 29)))) 1 rfl ?_
  refine wp_blk (pc' := 22) (L' := [some (.ref 19), some (.ref 49), some (.int 4)]) (st' := [.int 4, .ref 20]) (h' := ((76, 1769), zS, I, (zup (zup (zup (zPP (zPr 7)) 20 0 (some 21)) 20 1 (some 25)) 20 2 (some 29)))) 1 rfl ?_
  refine wp_blk (pc' := 23) (L' := [some (.ref 19), some (.ref 49), some (.int 4)]) (st' := [.int 1, .int 4, .ref 20]) (h' := ((76, 1769), zS, I, (zup (zup (zup (zPP (zPr 7)) 20 0 (some 21)) 20 1 (some 25)) 20 2 (some 29)))) 1 rfl ?_
  refine wp_blk (pc' := 24) (L' := [some (.ref 19), some (.ref 49), some (.int 4)]) (st' := [.int 3, .ref 20]) (h' := ((76, 1769), zS, I, (zup (zup (zup (zPP (zPr 7)) 20 0 (some 21)) 20 1 (some 25)) 20 2 (some 29)))) 1 rfl ?_
  refine wp_blk (pc' := 25) (L' := [some (.ref 19), some (.ref 49), some (.int 4)]) (st' := [.ref 19, .int 3, .ref 20]) (h' := ((76, 1769), zS, I, (zup (zup (zup (zPP (zPr 7)) 20 0 (some 21)) 20 1 (some 25)) 20 2 (some 29)))) 1 rfl ?_
  refine wp_blk (pc' := 28) (L' := [some (.ref 19), some (.ref 49), some (.int 4)]) (st' := [.ref 20, .int 3, .ref 20]) (h' := ((76, 1769), zS, I, (zup (zup (zup (zPP (zPr 7)) 20 0 (some 21)) 20 1 (some 25)) 20 2 (some 29)))) 1 rfl ?_
  refine wp_blk (pc' := 29) (L' := [some (.ref 19), some (.ref 49), some (.int 4)]) (st' := [.int 4, .ref 20, .int 3, .ref 20]) (h' := ((76, 1769), zS, I, (zup (zup (zup (zPP (zPr 7)) 20 0 (some 21)) 20 1 (some 25)) 20 2 (some 29)))) 1 rfl ?_
  refine wp_blk (pc' := 30) (L' := [some (.ref 19), some (.ref 49), some (.int 4)]) (st' := [.ref 33, .int 3, .ref 20]) (h' := ((76, 1769), zS, I, (zup (zup (zup (zPP (zPr 7)) 20 0 (some 21)) 20 1 (some 25)) 20 2 (some 29)))) 1 rfl ?_
  refine wp_blk (pc' := 31) (L' := [some (.ref 19), some (.ref 49), some (.int 4)]) (st' := []) (h' := ((76, 1769), zS, I, (zup (zup (zup (zup (zPP (zPr 7)) 20 0 (some 21)) 20 1 (some 25)) 20 2 (some 29)) 20 3 (some 33)))) 1 rfl ?_
  refine wp_blk (pc' := 34) (L' := [some (.ref 19), some (.ref 49), some (.int 5)]) (st' := []) (h' := ((76, 1769), zS, I, (zup (zup (zup (zup (zPP (zPr 7)) 20 0 (some 21)) 20 1 (some 25)) 20 2 (some 29)) 20 3 (some 33)))) 1 rfl ?_
  refine wp_blk (pc' := 8) (L' := [some (.ref 19), some (.ref 49), some (.int 5)]) (st' := []) (h' := ((76, 1769), zS, I, (zup (zup (zup (zup (zPP (zPr 7)) 20 0 (some 21)) 20 1 (some 25)) 20 2 (some 29)) 20 3 (some 33)))) 1 rfl ?_
  refine wp_blk (pc' := 9) (L' := [some (.ref 19), some (.ref 49), some (.int 5)]) (st' := [.int 5]) (h' := ((76, 1769), zS, I, (zup (zup (zup (zup (zPP (zPr 7)) 20 0 (some 21)) 20 1 (some 25)) 20 2 (some 29)) 20 3 (some 33)))) 1 rfl ?_
  refine wp_blk (pc' := 10) (L' := [some (.ref 19), some (.ref 49), some (.int 5)]) (st' := [.ref 19, .int 5]) (h' := ((76, 1769), zS, I, (zup (zup (zup (zup (zPP (zPr 7)) 20 0 (some 21)) 20 1 (some 25)) 20 2 (some 29)) 20 3 (some 33)))) 1 rfl ?_
  refine wp_blk (pc' := 13) (L' := [some (.ref 19), some (.ref 49), some (.int 5)]) (st' := [.ref 20, .int 5]) (h' := ((76, 1769), zS, I, (zup (zup (zup (zup (zPP (zPr 7)) 20 0 (some 21)) 20 1 (some 25)) 20 2 (some 29)) 20 3 (some 33)))) 1 rfl ?_
  refine wp_blk (pc' := 14) (L' := [some (.ref 19), some (.ref 49), some (.int 5)]) (st' := [.int 8, .int 5]) (h' := ((76, 1769), zS, I, (zup (zup (zup (zup (zPP (zPr 7)) 20 0 (some 21)) 20 1 (some 25)) 20 2 (some 29)) 20 3 (some 33)))) 1 rfl ?_
  refine wp_blk (pc' := 17) (L' := [some (.ref 19), some (.ref 49), some (.int 5)]) (st' := []) (h' := ((76, 1769), zS, I, (zup (zup (zup (zup (zPP (zPr 7)) 20 0 (some 21)) 20 1 (some 25)) 20 2 (some 29)) 20 3 (some 33)))) 1 rfl ?_
  refine wp_blk (pc' := 18) (L' := [some (.ref 19), some (.ref 49), some (.int 5)]) (st' := [.ref 19]) (h' := ((76, 1769), zS, I, (zup (zup (zup (zup (zPP (zPr 7)) 20 0 (some 21)) 20 1 (some 25)) 20 2 (some 29)) 20 3 (some 33)))) 1 rfl ?_
  refine wp_blk (pc' := 21) (L' := [some (.ref 19), some (.ref 49), some (.int 5)]) (st' := [.ref 20]) (h' := ((76, 1769), zS, I, (zup (zup (zup (zup (zPP (zPr 7)) 20 0 (some 21)) 20 1 (some 25)) 20 2 (some 29)) 20 3 (some 33)))) 1 rfl ?_
  refine wp_blk (pc' := 22) (L' := [some (.ref 19), some (.ref 49), some (.int 5)]) (st' := [.int 5, .ref 20]) (h' := ((76, 1769), zS, I, (zup (zup (zup (zup (zPP (zPr 7)) 20 0 (some 21)) 20 1 (some 25)) 20 2 (some 29)) 20 3 (some 33)))) 1 rfl ?_
  refine wp_blk (pc' := 23) (L' := [some (.ref 19), some (.ref 49), some (.int 5)]) (st' := [.int 1, .int 5, .ref 20]) (h' := ((76, 1769), zS, I, (zup (zup (zup (zup (zPP (zPr 7)) 20 0 (some 21)) 20 1 (some 25)) 20 2 (some 29)) 20 3 (some 33)))) 1 rfl ?_
  refine wp_blk (pc' := 24) (L' := [some (.ref 19), some (.ref 49), some (.int 5)]) (st' := [.int 4, .ref 20]) (h' := ((76, 1769), zS, I, (zup (zup (zup (zup (zPP (zPr 7)) 20 0 (some 21)) 20 1 (some 25)) 20 2 (some 29)) 20 3 (some 33)))) 1 rfl ?_
  refine wp_blk (pc' := 25) (L' := [some (.ref 19), some (.ref 49), some (.int 5)]) (st' := [.ref 19, .int 4, .ref 20]) (h' := ((76, 1769), zS, I, (zup (zup (zup (zup (zPP (zPr 7)) 20 0 (some 21)) 20 1 (some 25)) 20 2 (some 29)) 20 3 (some 33)))) 1 rfl ?_
  refine wp_blk (pc' := 28) (L' := [some (.ref 19), some (.ref 49), some (.int 5)]) (st' := [.ref 20, .int 4, .ref 20]) (h' := ((76, 1769), zS, I, (zup (zup (zup (zup (zPP (zPr 7)) 20 0 (some 21)) 20 1 (some 25)) 20 2 (some 29)) 20 3 (some 33)))) 1 rfl ?_
  refine wp_blk (pc' := 29) (L' := [some (.ref 19), some (.ref 49), some (.int 5)]) (st' := [.int 5, .ref 20, .int 4, .ref 20]) (h' := ((76, 1769), zS, I, (zup (zup (zup (zup (zPP (zPr 7)) 20 0 (some 21)) 20 1 (some 25)) 20 2 (some 29)) 20 3 (some 33)))) 1 rfl ?_
  refine wp_blk (pc' := 30) (L' := [some (.ref 19), some (.ref 49), some (.int 5)]) (st' := [.ref 37, .int 4, .ref 20]) (h' := ((76, 1769), zS, I, (zup (zup (zup (zup (zPP (zPr 7)) 20 0 (some 21)) 20 1 (some 25)) 20 2 (some 29)) 20 3 (some 33)))) 1 rfl ?_
  refine wp_blk (pc' := 31) (L' := [some (.ref 19), some (.ref 49), some (.int 5)]) (st' := []) (h' := ((76, 1769), zS, I, (zup (zup (zup (zup (zup (zPP (zPr 7)) 20 0 (some 21)) 20 1 (some 25)) 20 2 (some 29)) 20 3 (some 33)) 20 4 (some 37)))) 1 rfl ?_
  refine wp_blk (pc' := 34) (L' := [some (.ref 19), some (.ref 49), some (.int 6)]) (st' := []) (h' := ((76, 1769), zS, I, (zup (zup (zup (zup (zup (zPP (zPr 7)) 20 0 (some 21)) 20 1 (some 25)) 20 2 (some 29)) 20 3 (some 33)) 20 4 (some 37)))) 1 rfl ?_
  refine wp_blk (pc' := 8) (L' := [some (.ref 19), some (.ref 49), some (.int 6)]) (st' := []) (h' := ((76, 1769), zS, I, (zup (zup (zup (zup (zup (zPP (zPr 7)) 20 0 (some 21)) 20 1 (some 25)) 20 2 (some 29)) 20 3 (some 33)) 20 4 (some 37)))) 1 rfl ?_
  refine wp_blk (pc' := 9) (L' := [some (.ref 19), some (.ref 49), some (.int 6)]) (st' := [.int 6]) (h' := ((76, 1769), zS, I, (zup (zup (zup (zup (zup (zPP (zPr 7)) 20 0 (some 21)) 20 1 (some 25)) 20 2 (some 29)) 20 3 (some 33)) 20 4 (some 37)))) 1 rfl ?_
  refine wp_blk (pc' := 10) (L' := [some (.ref 19), some (.ref 49), some (.int 6)]) (st' := [.ref 19, .int 6]) (h' := ((76, 1769), zS, I, (zup (zup (zup (zup (zup (zPP (zPr 7)) 20 0 (some 21)) 20 1 (some 25)) 20 2 (some 29)) 20 3 (some 33)) 20 4 (some 37)))) 1 rfl ?_
  refine wp_blk (pc' := 13) (L' := [some (.ref 19), some (.ref 49), some (.int 6)]) (st' := [.ref 20, .int 6]) (h' := ((76, 1769), zS, I, (zup (zup (zup (zup (zup (zPP (zPr 7)) 20 0 (some 21)) 20 1 (some 25)) 20 2 (some 29)) 20 3 (some 33)) 20 4 (some 37)))) 1 rfl ?_
  refine wp_blk (pc' := 14) (L' := [some (.ref 19), some (.ref 49), some (.int 6)]) (st' := [.int 8, .int 6]) (h' := ((76, 1769), zS, I, (zup (zup (zup (zup (zup (zPP (zPr 7)) 20 0 (some 21)) 20 1 (some 25)) 20 2 (some 29)) 20 3 (some 33)) 20 4 (some 37)))) 1 rfl ?_
  refine wp_blk (pc' := 17) (L' := [some (.ref 19), some (.ref 49), some (.int 6)]) (st' := []) (h' := ((76, 1769), zS, I, (zup (zup (zup (zup (zup (zPP (zPr 7)) 20 0 (some 21)) 20 1 (some 25)) 20 2 (some 29)) 20 3 (some 33)) 20 4 (some 37)))) 1 rfl ?_
  refine wp_blk (pc' := 18) (L' := [some (.ref 19), some (.ref 49), some (.int 6)]) (st' := [.ref 19]) (h' := ((76, 1769), zS, I, (zup (zup (zup (zup (zup (zPP (zPr 7)) 20 0 (some 21)) 20 1 (some 25)) 20 2 (some 29)) 20 3 (some 33)) 20 4 (some 37)))) 1 rfl ?_
  refine wp_blk (pc' := 21) (L' := [some (.ref 19), some (.ref 49), some (.int 6)]) (st' := [.ref 20]) (h' := ((76, 1769), zS, I, (zup (zup (zup (zup (zup (zPP (zPr 7)) 20 0 (some 21)) 20 1 (some 25)) 20 2 (some 29)) 20 3 (some 33)) 20 4 (some 37)))) 1 rfl ?_
  refine wp_blk (pc' := 22) (L' := [some (.ref 19), some (.ref 49), some (.int 6)]) (st' := [.int 6, .ref 20]) (h' := ((76, 1769), zS, I, (zup (zup (zup (zup (zup (zPP (zPr 7)) 20 0 (some 21)) 20 1 (some 25)) 20 2 (some 29)) 20 3 (some 33)) 20 4 (some 37)))) 1 rfl ?_
  refine wp_blk (pc' := 23) (L' := [some (.ref 19), some (.ref 49), some (.int 6)]) (st' := [.int 1, .int 6, .ref 20]) (h' := ((76, 1769), zS, I, (zup (zup (zup (zup (zup (zPP (zPr 7)) 20 0 (some 21)) 20 1 (some 25)) 20 2 (some 29)) 20 3 (some 33)) 20 4 (some 37)))) 1 rfl ?_
  refine wp_blk (pc' := 24) (L' := [some (.ref 19), some (.ref 49), some (.int 6)]) (st' := [.int 5, .ref 20]) (h' := ((76, 1769), zS, I, (zup (zup (zup (zup (zup (zPP (zPr 7)) 20 0 (some 21)) 20 1 (some 25)) 20 2 (some 29)) 20 3 (some 33)) 20 4 (some 37)))) 1 rfl ?_
  refine wp_blk (pc' := 25) (L' := [some (.ref 19), some (.ref 49), some (.int 6)]) (st' := [.ref 19, .int 5, .ref 20]) (h' := ((76, 1769), zS, I, (zup (zup (zup (zup (zup (zPP (zPr 7)) 20 0 (some 21)) 20 1 (some 25)) 20 2 (some 29)) 20 3 (some 33)) 20 4 (some 37)))) 1 rfl ?_
  refine wp_blk (pc' := 28) (L' := [some (.ref 19), some (.ref 49), some (.int 6)]) (st' := [.ref 20, .int 5, .ref 20]) (h' := ((76, 1769), zS, I, (zup (zup (zup (zup (zup (zPP (zPr 7)) 20 0 (some 21)) 20 1 (some 25)) 20 2 (some 29)) 20 3 (some 33)) 20 4 (some 37)))) 1 rfl ?_
  refine wp_blk (pc' := 29) (L' := [some (.ref 19), some (.ref 49), some (.int 6)]) (st' := [.int 6, .ref 20, .int 5, .ref 20]) (h' := ((76, 1769), zS, I, (zup (zup (zup (zup (zup (zPP (zPr 7)) 20 0 (some 21)) 20 1 (some 25)) 20 2 (some 29)) 20 3 (some 33)) 20 4 (some 37)))) 1 rfl ?_
  refine wp_blk (pc' := 30) (L' := [some (.ref 19), some (.ref 49), some (.int 6)]) (st' := [.ref 41, .int 5, .ref 20]) (h' := ((76, 1769), zS, I, (zup (zup (zup (zup (zup (zPP (zPr 7)) 20 0 (some 21)) 20 1 (some 25)) 20 2 (some 29)) 20 3 (some 33)) 20 4 (some 37)))) 1 rfl ?_
  refine wp_blk (pc' := 31) (L' := [some (.ref 19), some (.ref 49), some (.int 6)]) (st' := []) (h' := ((76, 1769), zS, I, (zup (zup (zup (zup (zup (zup (zPP (zPr 7)) 20 0 (some 21)) 20 1 (some 25)) 20 2 (some 29)) 20 3 (some 33)) 20 4 (some 37)) 20 5 (some 41)))) 1 rfl ?_
  refine wp_blk (pc' := 34) (L' := [some (.ref 19), some (.ref 49), some (.int 7)]) (st' := []) (h' := ((76, 1769), zS, I, (zup (zup (zup (zup (zup (zup (zPP (zPr 7)) 20 0 (some 21)) 20 1 (some 25)) 20 2 (some 29)) 20 3 (some 33)) 20 4 (some 37)) 20 5 (some 41)))) 1 rfl ?_
  refine wp_blk (pc' := 8) (L' := [some (.ref 19), some (.ref 49), some (.int 7)]) (st' := []) (h' := ((76, 1769), zS, I, (zup (zup (zup (zup (zup (zup (zPP (zPr 7)) 20 0 (some 21)) 20 1 (some 25)) 20 2 (some 29)) 20 3 (some 33)) 20 4 (some 37)) 20 5 (some 41)))) 1 rfl ?_
  refine wp_blk (pc' := 9) (L' := [some (.ref 19), some (.ref 49), some (.int 7)]) (st' := [.int 7]) (h' := ((76, 1769), zS, I, (zup (zup (zup (zup (zup (zup (zPP (zPr 7)) 20 0 (some 21)) 20 1 (some 25)) 20 2 (some 29)) 20 3 (some 33)) 20 4 (some 37)) 20 5 (some 41)))) 1 rfl ?_
  refine wp_blk (pc' := 10) (L' := [some (.ref 19), some (.ref 49), some (.int 7)]) (st' := [.ref 19, .int 7]) (h' := ((76, 1769), zS, I, (zup (zup (zup (zup (zup (zup (zPP (zPr 7)) 20 0 (some 21)) 20 1 (some 25)) 20 2 (some 29)) 20 3 (some 33)) 20 4 (some 37)) 20 5 (some 41)))) 1 rfl ?_
  refine wp_blk (pc' := 13) (L' := [some (.ref 19), some (.ref 49), some (.int 7)]) (st' := [.ref 20, .int 7]) (h' := ((76, 1769), zS, I, (zup (zup (zup (zup (zup (zup (zPP (zPr 7)) 20 0 (some 21)) 20 1 (some 25)) 20 2 (some 29)) 20 3 (some 33)) 20 4 (some 37)) 20 5 (some 41)))) 1 rfl ?_
  refine wp_blk (pc' := 14) (L' := [some (.ref 19), some (.ref 49), some (.int 7)]) (st' := [.int 8, .int 7]) (h' := ((76, 1769), zS, I, (zup (zup (zup (zup (zup (zup (zPP (zPr 7)) 20 0 (some 21)) 20 1 (some 25)) 20 2 (some 29)) 20 3 (some 33)) 20 4 (some 37)) 20 5 (some 41)))) 1 rfl ?_
  refine wp_blk (pc' := 17) (L' := [some (.ref 19), some (.ref 49), some (.int 7)]) (st' := []) (h' := ((76, 1769), zS, I, (zup (zup (zup (zup (zup (zup (zPP (zPr 7)) 20 0 (some 21)) 20 1 (some 25)) 20 2 (some 29)) 20 3 (some 33)) 20 4 (some 37)) 20 5 (some 41)))) 1 rfl ?_
  refine wp_blk (pc' := 18) (L' := [some (.ref 19), some (.ref 49), some (.int 7)]) (st' := [.ref 19]) (h' := ((76, 1769), zS, I, (zup (zup (zup (zup (zup (zup (zPP (zPr 7)) 20 0 (some 21)) 20 1 (some 25)) 20 2 (some 29)) 20 3 (some 33)) 20 4 (some 37)) 20 5 (some 41)))) 1 rfl ?_
  refine wp_blk (pc' := 21) (L' := [some (.ref 19), some (.ref 49), some (.int 7)]) (st' := [.ref 20]) (h' := ((76, 1769), zS, I, (zup (zup (zup (zup (zup (zup (zPP (zPr 7)) 20 0 (some 21)) 20 1 (some 25)) 20 2 (some 29)) 20 3 (some 33)) 20 4 (some 37)) 20 5 (some 41)))) 1 rfl ?_
  refine wp_blk (pc' := 22) (L' := [some (.ref 19), some (.ref 49), some (.int 7)]) (st' := [.int 7, .ref 20]) (h' := ((76, 1769), zS, I, (zup (zup (zup (zup (zup (zup (zPP (zPr 7)) 20 0 (some 21)) 20 1 (some 25)) 20 2 (some 29)) 20 3 (some 33)) 20 4 (some 37)) 20 5 (some 41)))) 1 rfl ?_
  refine wp_blk (pc' := 23) (L' := [some (.ref 19), some (.ref 49), some (.int 7)]) (st' := [.int 1, .int 7, .ref 20]) (h' := ((76, 1769), zS, I, (zup (zup (zup (zup (zup (zup (zPP (zPr 7)) 20 0 (some 21)) 20 1 (some 25)) 20 2 (some 29)) 20 3 (some 33)) 20 4 (some 37)) 20 5 (some 41)))) 1 rfl ?_
  refine wp_blk (pc' := 24) (L' := [some (.ref 19), some (.ref 49), some (.int 7)]) (st' := [.int 6, .ref 20]) (h' := ((76, 1769), zS, I, (zup (zup (zup (zup (zup (zup (zPP (zPr 7)) 20 0 (some 21)) 20 1 (some 25)) 20 2 (some 29)) 20 3 (some 33)) 20 4 (some 37)) 20 5 (some 41)))) 1 rfl ?_
  refine wp_blk (pc' := 25) (L' := [some (.ref 19), some (.ref 49), some (.int 7)]) (st' := [.ref 19, .int 6, .ref 20]) (h' := ((76, 1769), zS, I, (zup (zup (zup (zup (zup (zup (zPP (zPr 7)) 20 0 (some 21)) 20 1 (some 25)) 20 2 (some 29)) 20 3 (some 33)) 20 4 (some 37)) 20 5 (some 41)))) 1 rfl ?_
  refine wp_blk (pc' := 28) (L' := [some (.ref 19), some (.ref 49), some (.int 7)]) (st' := [.ref 20, .int 6, .ref 20]) (h' := ((76, 1769), zS, I, (zup (zup (zup (zup (zup (zup (zPP (zPr 7)) 20 0 (some 21)) 20 1 (some 25)) 20 2 (some 29)) 20 3 (some 33)) 20 4 (some 37)) 20 5 (some 41)))) 1 rfl ?_
  refine wp_blk (pc' := 29) (L' := [some (.ref 19), some (.ref 49), some (.int 7)]) (st' := [.int 7, .ref 20, .int 6, .ref 20]) (h' := ((76, 1769), zS, I, (zup (zup (zup (zup (zup (zup (zPP (zPr 7)) 20 0 (some 21)) 20 1 (some 25)) 20 2 (some 29)) 20 3 (some 33)) 20 4 (some 37)) 20 5 (some 41)))) 1 rfl ?_
  refine wp_blk (pc' := 30) (L' := [some (.ref 19), some (.ref 49), some (.int 7)]) (st' := [.ref 45, .int 6, .ref 20]) (h' := ((76, 1769), zS, I, (zup (zup (zup (zup (zup (zup (zPP (zPr 7)) 20 0 (some 21)) 20 1 (some 25)) 20 2 (some 29)) 20 3 (some 33)) 20 4 (some 37)) 20 5 (some 41)))) 1 rfl ?_
  refine wp_blk (pc' := 31) (L' := [some (.ref 19), some (.ref 49), some (.int 7)]) (st' := []) (h' := ((76, 1769), zS, I, (zup (zup (zup (zup (zup (zup (zup (zPP (zPr 7)) 20 0 (some 21)) 20 1 (some 25)) 20 2 (some 29)) 20 3 (some 33)) 20 4 (some 37)) 20 5 (some 41)) 20 6 (some 45)))) 1 rfl ?_
  refine wp_blk (pc' := 34) (L' := [some (.ref 19), some (.ref 49), some (.int 8)]) (st' := []) (h' := ((76, 1769), zS, I, (zup (zup (zup (zup (zup (zup (zup (zPP (zPr 7)) 20 0 (some 21)) 20 1 (some 25)) 20 2 (some 29)) 20 3 (some 33)) 20 4 (some 37)) 20 5 (some 41)) 20 6 (some 45)))) 1 rfl ?_
  refine wp_blk (pc' := 8) (L' := [some (.ref 19), some (.ref 49), some (.int 8)]) (st' := []) (h' := ((76, 1769), zS, I, (zup (zup (zup (zup (zup (zup (zup (zPP (zPr 7)) 20 0 (some 21)) 20 1 (some 25)) 20 2 (some 29)) 20 3 (some 33)) 20 4 (some 37)) 20 5 (some 41)) 20 6 (some 45)))) 1 rfl ?_
  refine wp_blk (pc' := 9) (L' := [some (.ref 19), some (.ref 49), some (.int 8)]) (st' := [.int 8]) (h' := ((76, 1769), zS, I, (zup (zup (zup (zup (zup (zup (zup (zPP (zPr 7)) 20 0 (some 21)) 20 1 (some 25)) 20 2 (some 29)) 20 3 (some 33)) 20 4 (some 37)) 20 5 (some 41)) 20 6 (some 45)))) 1 rfl ?_
  refine wp_blk (pc' := 10) (L' := [some (.ref 19), some (.ref 49), some (.int 8)]) (st' := [.ref 19, .int 8]) (h' := ((76, 1769), zS, I, (zup (zup (zup (zup (zup (zup (zup (zPP (zPr 7)) 20 0 (some 21)) 20 1 (some 25)) 20 2 (some 29)) 20 3 (some 33)) 20 4 (some 37)) 20 5 (some 41)) 20 6 (some 45)))) 1 rfl ?_
  refine wp_blk (pc' := 13) (L' := [some (.ref 19), some (.ref 49), some (.int 8)]) (st' := [.ref 20, .int 8]) (h' := ((76, 1769), zS, I, (zup (zup (zup (zup (zup (zup (zup (zPP (zPr 7)) 20 0 (some 21)) 20 1 (some 25)) 20 2 (some 29)) 20 3 (some 33)) 20 4 (some 37)) 20 5 (some 41)) 20 6 (some 45)))) 1 rfl ?_
  refine wp_blk (pc' := 14) (L' := [some (.ref 19), some (.ref 49), some (.int 8)]) (st' := [.int 8, .int 8]) (h' := ((76, 1769), zS, I, (zup (zup (zup (zup (zup (zup (zup (zPP (zPr 7)) 20 0 (some 21)) 20 1 (some 25)) 20 2 (some 29)) 20 3 (some 33)) 20 4 (some 37)) 20 5 (some 41)) 20 6 (some 45)))) 1 rfl ?_
  refine wp_blk (pc' := 37) (L' := [some (.ref 19), some (.ref 49), some (.int 8)]) (st' := []) (h' := ((76, 1769), zS, I, (zup (zup (zup (zup (zup (zup (zup (zPP (zPr 7)) 20 0 (some 21)) 20 1 (some 25)) 20 2 (some 29)) 20 3 (some 33)) 20 4 (some 37)) 20 5 (some 41)) 20 6 (some 45)))) 1 rfl ?_
  refine wp_blk (pc' := 38) (L' := [some (.ref 19), some (.ref 49), some (.int 8)]) (st' := [.ref 19]) (h' := ((76, 1769), zS, I, (zup (zup (zup (zup (zup (zup (zup (zPP (zPr 7)) 20 0 (some 21)) 20 1 (some 25)) 20 2 (some 29)) 20 3 (some 33)) 20 4 (some 37)) 20 5 (some 41)) 20 6 (some 45)))) 1 rfl ?_
  refine wp_blk (pc' := 39) (L' := [some (.ref 19), some (.ref 49), some (.int 8)]) (st' := [.ref 19, .ref 19]) (h' := ((76, 1769), zS, I, (zup (zup (zup (zup (zup (zup (zup (zPP (zPr 7)) 20 0 (some 21)) 20 1 (some 25)) 20 2 (some 29)) 20 3 (some 33)) 20 4 (some 37)) 20 5 (some 41)) 20 6 (some 45)))) 1 rfl ?_
  refine wp_blk (pc' := 42) (L' := [some (.ref 19), some (.ref 49), some (.int 8)]) (st' := [.ref 20, .ref 19]) (h' := ((76, 1769), zS, I, (zup (zup (zup (zup (zup (zup (zup (zPP (zPr 7)) 20 0 (some 21)) 20 1 (some 25)) 20 2 (some 29)) 20 3 (some 33)) 20 4 (some 37)) 20 5 (some 41)) 20 6 (some 45)))) 1 rfl ?_
  refine wp_blk (pc' := 43) (L' := [some (.ref 19), some (.ref 49), some (.int 8)]) (st' := [.int 8, .ref 19]) (h' := ((76, 1769), zS, I, (zup (zup (zup (zup (zup (zup (zup (zPP (zPr 7)) 20 0 (some 21)) 20 1 (some 25)) 20 2 (some 29)) 20 3 (some 33)) 20 4 (some 37)) 20 5 (some 41)) 20 6 (some 45)))) 1 rfl ?_
  refine wp_blk (pc' := 44) (L' := [some (.ref 19), some (.ref 49), some (.int 8)]) (st' := [.int 1, .int 8, .ref 19]) (h' := ((76, 1769), zS, I, (zup (zup (zup (zup (zup (zup (zup (zPP (zPr 7)) 20 0 (some 21)) 20 1 (some 25)) 20 2 (some 29)) 20 3 (some 33)) 20 4 (some 37)) 20 5 (some 41)) 20 6 (some 45)))) 1 rfl ?_
  refine wp_blk (pc' := 45) (L' := [some (.ref 19), some (.ref 49), some (.int 8)]) (st' := [.int 7, .ref 19]) (h' := ((76, 1769), zS, I, (zup (zup (zup (zup (zup (zup (zup (zPP (zPr 7)) 20 0 (some 21)) 20 1 (some 25)) 20 2 (some 29)) 20 3 (some 33)) 20 4 (some 37)) 20 5 (some 41)) 20 6 (some 45)))) 1 rfl ?_
  refine wp_blk (pc' := 48) (L' := [some (.ref 19), some (.ref 49), some (.int 8)]) (st' := []) (h' := ((76, 1769), zS, (zui I 19 1 7), (zup (zup (zup (zup (zup (zup (zup (zPP (zPr 7)) 20 0 (some 21)) 20 1 (some 25)) 20 2 (some 29)) 20 3 (some 33)) 20 4 (some 37)) 20 5 (some 41)) 20 6 (some 45)))) 1 rfl ?_
  refine wp_blk (pc' := 49) (L' := [some (.ref 19), some (.ref 49), some (.int 8)]) (st' := [.ref 19]) (h' := ((76, 1769), zS, (zui I 19 1 7), (zup (zup (zup (zup (zup (zup (zup (zPP (zPr 7)) 20 0 (some 21)) 20 1 (some 25)) 20 2 (some 29)) 20 3 (some 33)) 20 4 (some 37)) 20 5 (some 41)) 20 6 (some 45)))) 1 rfl ?_
  refine wp_blk (pc' := 52) (L' := [some (.ref 19), some (.ref 49), some (.int 8)]) (st' := [.int 7]) (h' := ((76, 1769), zS, (zui I 19 1 7), (zup (zup (zup (zup (zup (zup (zup (zPP (zPr 7)) 20 0 (some 21)) 20 1 (some 25)) 20 2 (some 29)) 20 3 (some 33)) 20 4 (some 37)) 20 5 (some 41)) 20 6 (some 45)))) 1 rfl ?_
  refine wp_blk (pc' := 55) (L' := [some (.ref 19), some (.ref 49), some (.int 8)]) (st' := []) (h' := ((76, 1769), zS, (zui I 19 1 7), (zup (zup (zup (zup (zup (zup (zup (zPP (zPr 7)) 20 0 (some 21)) 20 1 (some 25)) 20 2 (some 29)) 20 3 (some 33)) 20 4 (some 37)) 20 5 (some 41)) 20 6 (some 45)))) 1 rfl ?_
  refine wp_blk (pc' := 56) (L' := [some (.ref 19), some (.ref 49), some (.int 8)]) (st' := [.ref 19]) (h' := ((76, 1769), zS, (zui I 19 1 7), (zup (zup (zup (zup (zup (zup (zup (zPP (zPr 7)) 20 0 (some 21)) 20 1 (some 25)) 20 2 (some 29)) 20 3 (some 33)) 20 4 (some 37)) 20 5 (some 41)) 20 6 (some 45)))) 1 rfl ?_
  refine wp_blk (pc' := 59) (L' := [some (.ref 19), some (.ref 49), some (.int 8)]) (st' := [.ref 20]) (h' := ((76, 1769), zS, (zui I 19 1 7), (zup (zup (zup (zup (zup (zup (zup (zPP (zPr 7)) 20 0 (some 21)) 20 1 (some 25)) 20 2 (some 29)) 20 3 (some 33)) 20 4 (some 37)) 20 5 (some 41)) 20 6 (some 45)))) 1 rfl ?_
  refine wp_blk (pc' := 60) (L' := [some (.ref 19), some (.ref 49), some (.int 8)]) (st' := [.ref 19, .ref 20]) (h' := ((76, 1769), zS, (zui I 19 1 7), (zup (zup (zup (zup (zup (zup (zup (zPP (zPr 7)) 20 0 (some 21)) 20 1 (some 25)) 20 2 (some 29)) 20 3 (some 33)) 20 4 (some 37)) 20 5 (some 41)) 20 6 (some 45)))) 1 rfl ?_
  refine wp_blk (pc' := 63) (L' := [some (.ref 19), some (.ref 49), some (.int 8)]) (st' := [.int 7, .ref 20]) (h' := ((76, 1769), zS, (zui I 19 1 7), (zup (zup (zup (zup (zup (zup (zup (zPP (zPr 7)) 20 0 (some 21)) 20 1 (some 25)) 20 2 (some 29)) 20 3 (some 33)) 20 4 (some 37)) 20 5 (some 41)) 20 6 (some 45)))) 1 rfl ?_
  refine wp_blk (pc' := 64) (L' := [some (.ref 19), some (.ref 49), some (.int 8)]) (st' := [.ref 49, .int 7, .ref 20]) (h' := ((76, 1769), zS, (zui I 19 1 7), (zup (zup (zup (zup (zup (zup (zup (zPP (zPr 7)) 20 0 (some 21)) 20 1 (some 25)) 20 2 (some 29)) 20 3 (some 33)) 20 4 (some 37)) 20 5 (some 41)) 20 6 (some 45)))) 1 rfl ?_
  refine wp_blk (pc' := 65) (L' := [some (.ref 19), some (.ref 49), some (.int 8)]) (st' := []) (h' := ((76, 1769), zS, (zui I 19 1 7), (zup (zup (zup (zup (zup (zup (zup (zup (zPP (zPr 7)) 20 0 (some 21)) 20 1 (some 25)) 20 2 (some 29)) 20 3 (some 33)) 20 4 (some 37)) 20 5 (some 41)) 20 6 (some 45)) 20 7 (some 49)))) 1 rfl ?_
  exact wp_end rfl rfl ⟨rfl, by rw [zH, ← zrot_7]⟩
set_option maxRecDepth 100000 in
theorem sp_put19_0_0 {X : Nat × (Nat → Int32)} (I : Nat → Nat → Int32) : Wf X 65 [some (.ref 19), some (.ref 4), none] (zH (zui I 19 1 0) (zPr 0)) none (zH (zui (g_M_copy 21 22 23 24 4 5 6 7 (zui I 19 1 0)) 19 1 (((g_M_copy 21 22 23 24 4 5 6 7 (zui I 19 1 0)) 19 1) + 1)) (zPr 0)) := by
  unfold Wf
  refine wp_blk (pc' := 1) (L' := [some (.ref 19), some (.ref 4), none]) (st' := [.ref 19]) (h' := zH (zui I 19 1 0) (zPr 0)) 1 rfl ?_
  refine wp_callf (d := 66) (as := [.ref 19]) (rest := []) (Ld := [some (.ref 19)]) (pc' := 4) (st' := [.int 0]) (r := some (.int 0)) (h1 := zH (zui I 19 1 0) (zPr 0)) rfl rfl rfl rfl rfl rfl rfl rfl rfl (sp_H1_isFull (X := X) (zui I 19 1 0) (zPr 0)) ?_
  refine wp_blk (pc' := 11) (L' := [some (.ref 19), some (.ref 4), none]) (st' := []) (h' := zH (zui I 19 1 0) (zPr 0)) 1 rfl ?_
  refine wp_blk (pc' := 12) (L' := [some (.ref 19), some (.ref 4), none]) (st' := [.ref 19]) (h' := zH (zui I 19 1 0) (zPr 0)) 1 rfl ?_
  refine wp_blk (pc' := 13) (L' := [some (.ref 19), some (.ref 4), none]) (st' := [.ref 19, .ref 19]) (h' := zH (zui I 19 1 0) (zPr 0)) 1 rfl ?_
  refine wp_blk (pc' := 16) (L' := [some (.ref 19), some (.ref 4), none]) (st' := [.int 0, .ref 19]) (h' := zH (zui I 19 1 0) (zPr 0)) 1 rfl ?_
  refine wp_callf (d := 68) (as := [.ref 19, .int 0]) (rest := []) (Ld := [some (.ref 19), some (.int 0)]) (pc' := 19) (st' := [.ref 21]) (r := some (.ref 21)) (h1 := zH (zui I 19 1 0) (zPr 0)) rfl rfl rfl rfl rfl rfl rfl rfl rfl (sp_at19_0_0 (X := X) (zui I 19 1 0)) ?_
  refine wp_blk (pc' := 20) (L' := [some (.ref 19), some (.ref 4), some (.ref 21)]) (st' := []) (h' := zH (zui I 19 1 0) (zPr 0)) 1 rfl ?_
  refine wp_blk (pc' := 21) (L' := [some (.ref 19), some (.ref 4), some (.ref 21)]) (st' := [.ref 21]) (h' := zH (zui I 19 1 0) (zPr 0)) 1 rfl ?_
  refine wp_blk (pc' := 24) (L' := [some (.ref 19), some (.ref 4), some (.ref 21)]) (st' := []) (h' := zH (zui I 19 1 0) (zPr 0)) 1 rfl ?_
  refine wp_blk (pc' := 25) (L' := [some (.ref 19), some (.ref 4), some (.ref 21)]) (st' := [.ref 21]) (h' := zH (zui I 19 1 0) (zPr 0)) 1 rfl ?_
  refine wp_blk (pc' := 26) (L' := [some (.ref 19), some (.ref 4), some (.ref 21)]) (st' := [.ref 4, .ref 21]) (h' := zH (zui I 19 1 0) (zPr 0)) 1 rfl ?_
  refine wp_callf (d := 37) (as := [.ref 21, .ref 4]) (rest := []) (Ld := [some (.ref 21), some (.ref 4)]) (pc' := 29) (st' := []) (r := none) (h1 := zH (g_M_copy 21 22 23 24 4 5 6 7 (zui I 19 1 0)) (zPr 0)) rfl rfl rfl rfl rfl rfl rfl rfl rfl (xp_M_copy_21_4 _ _ (0, (g_M_copy 21 22 23 24 4 5 6 7 (zui I 19 1 0))) rfl) ?_
  refine wp_blk (pc' := 30) (L' := [some (.ref 19), some (.ref 4), some (.ref 21)]) (st' := [.ref 19]) (h' := zH (g_M_copy 21 22 23 24 4 5 6 7 (zui I 19 1 0)) (zPr 0)) 1 rfl ?_
  refine wp_blk (pc' := 31) (L' := [some (.ref 19), some (.ref 4), some (.ref 21)]) (st' := [.ref 19, .ref 19]) (h' := zH (g_M_copy 21 22 23 24 4 5 6 7 (zui I 19 1 0)) (zPr 0)) 1 rfl ?_
  refine wp_blk (pc' := 34) (L' := [some (.ref 19), some (.ref 4), some (.ref 21)]) (st' := [.int ((g_M_copy 21 22 23 24 4 5 6 7 (zui I 19 1 0)) 19 1), .ref 19]) (h' := zH (g_M_copy 21 22 23 24 4 5 6 7 (zui I 19 1 0)) (zPr 0)) 1 rfl ?_
  refine wp_blk (pc' := 35) (L' := [some (.ref 19), some (.ref 4), some (.ref 21)]) (st' := [.int 1, .int ((g_M_copy 21 22 23 24 4 5 6 7 (zui I 19 1 0)) 19 1), .ref 19]) (h' := zH (g_M_copy 21 22 23 24 4 5 6 7 (zui I 19 1 0)) (zPr 0)) 1 rfl ?_
  refine wp_blk (pc' := 36) (L' := [some (.ref 19), some (.ref 4), some (.ref 21)]) (st' := [.int (((g_M_copy 21 22 23 24 4 5 6 7 (zui I 19 1 0)) 19 1) + 1), .ref 19]) (h' := zH (g_M_copy 21 22 23 24 4 5 6 7 (zui I 19 1 0)) (zPr 0)) 1 rfl ?_
  refine wp_blk (pc' := 39) (L' := [some (.ref 19), some (.ref 4), some (.ref 21)]) (st' := []) (h' := zH (zui (g_M_copy 21 22 23 24 4 5 6 7 (zui I 19 1 0)) 19 1 (((g_M_copy 21 22 23 24 4 5 6 7 (zui I 19 1 0)) 19 1) + 1)) (zPr 0)) 1 rfl ?_
  exact wp_end rfl rfl ⟨rfl, rfl⟩
set_option maxRecDepth 100000 in
theorem sp_take19_0_0 {X : Nat × (Nat → Int32)} (I : Nat → Nat → Int32) : Wf X 79 [some (.ref 19), some (.ref 4), none] (zH (zui I 19 1 0) (zPr 0)) (some (.int 0)) (zH (zui I 19 1 0) (zPr 0)) := by
  unfold Wf
  refine wp_blk (pc' := 1) (L' := [some (.ref 19), some (.ref 4), none]) (st' := [.ref 19]) (h' := zH (zui I 19 1 0) (zPr 0)) 1 rfl ?_
  refine wp_blk (pc' := 2) (L' := [some (.ref 19), some (.ref 4), none]) (st' := [.ref 19, .ref 19]) (h' := zH (zui I 19 1 0) (zPr 0)) 1 rfl ?_
  refine wp_blk (pc' := 5) (L' := [some (.ref 19), some (.ref 4), none]) (st' := [.int 0, .ref 19]) (h' := zH (zui I 19 1 0) (zPr 0)) 1 rfl ?_
  refine wp_blk (pc' := 6) (L' := [some (.ref 19), some (.ref 4), none]) (st' := [.int 1, .int 0, .ref 19]) (h' := zH (zui I 19 1 0) (zPr 0)) 1 rfl ?_
  refine wp_blk (pc' := 7) (L' := [some (.ref 19), some (.ref 4), none]) (st' := [.int (-1), .ref 19]) (h' := zH (zui I 19 1 0) (zPr 0)) 1 rfl ?_
  refine wp_callf (d := 68) (as := [.ref 19, .int (-1)]) (rest := []) (Ld := [some (.ref 19), some (.int (-1))]) (pc' := 10) (st' := [.null]) (r := some (.null)) (h1 := zH (zui I 19 1 0) (zPr 0)) rfl rfl rfl rfl rfl rfl rfl rfl rfl (sp_at19_0_m (X := X) (zui I 19 1 0)) ?_
  refine wp_blk (pc' := 11) (L' := [some (.ref 19), some (.ref 4), some (.null)]) (st' := []) (h' := zH (zui I 19 1 0) (zPr 0)) 1 rfl ?_
  refine wp_blk (pc' := 12) (L' := [some (.ref 19), some (.ref 4), some (.null)]) (st' := [.null]) (h' := zH (zui I 19 1 0) (zPr 0)) 1 rfl ?_
  refine wp_blk (pc' := 15) (L' := [some (.ref 19), some (.ref 4), some (.null)]) (st' := []) (h' := zH (zui I 19 1 0) (zPr 0)) 1 rfl ?_
  refine wp_blk (pc' := 16) (L' := [some (.ref 19), some (.ref 4), some (.null)]) (st' := [.int 0]) (h' := zH (zui I 19 1 0) (zPr 0)) 1 rfl ?_
  exact wp_end rfl rfl ⟨rfl, rfl⟩
set_option maxRecDepth 100000 in
theorem sp_put19_0_1 {X : Nat × (Nat → Int32)} (I : Nat → Nat → Int32) : Wf X 65 [some (.ref 19), some (.ref 4), none] (zH (zui I 19 1 1) (zPr 0)) none (zH (zui (g_M_copy 25 26 27 28 4 5 6 7 (zui I 19 1 1)) 19 1 (((g_M_copy 25 26 27 28 4 5 6 7 (zui I 19 1 1)) 19 1) + 1)) (zPr 0)) := by
  unfold Wf
  refine wp_blk (pc' := 1) (L' := [some (.ref 19), some (.ref 4), none]) (st' := [.ref 19]) (h' := zH (zui I 19 1 1) (zPr 0)) 1 rfl ?_
  refine wp_callf (d := 66) (as := [.ref 19]) (rest := []) (Ld := [some (.ref 19)]) (pc' := 4) (st' := [.int 0]) (r := some (.int 0)) (h1 := zH (zui I 19 1 1) (zPr 0)) rfl rfl rfl rfl rfl rfl rfl rfl rfl (sp_H1_isFull (X := X) (zui I 19 1 1) (zPr 0)) ?_
  refine wp_blk (pc' := 11) (L' := [some (.ref 19), some (.ref 4), none]) (st' := []) (h' := zH (zui I 19 1 1) (zPr 0)) 1 rfl ?_
  refine wp_blk (pc' := 12) (L' := [some (.ref 19), some (.ref 4), none]) (st' := [.ref 19]) (h' := zH (zui I 19 1 1) (zPr 0)) 1 rfl ?_
  refine wp_blk (pc' := 13) (L' := [some (.ref 19), some (.ref 4), none]) (st' := [.ref 19, .ref 19]) (h' := zH (zui I 19 1 1) (zPr 0)) 1 rfl ?_
  refine wp_blk (pc' := 16) (L' := [some (.ref 19), some (.ref 4), none]) (st' := [.int 1, .ref 19]) (h' := zH (zui I 19 1 1) (zPr 0)) 1 rfl ?_
  refine wp_callf (d := 68) (as := [.ref 19, .int 1]) (rest := []) (Ld := [some (.ref 19), some (.int 1)]) (pc' := 19) (st' := [.ref 25]) (r := some (.ref 25)) (h1 := zH (zui I 19 1 1) (zPr 0)) rfl rfl rfl rfl rfl rfl rfl rfl rfl (sp_at19_0_1 (X := X) (zui I 19 1 1)) ?_
  refine wp_blk (pc' := 20) (L' := [some (.ref 19), some (.ref 4), some (.ref 25)]) (st' := []) (h' := zH (zui I 19 1 1) (zPr 0)) 1 rfl ?_
  refine wp_blk (pc' := 21) (L' := [some (.ref 19), some (.ref 4), some (.ref 25)]) (st' := [.ref 25]) (h' := zH (zui I 19 1 1) (zPr 0)) 1 rfl ?_
  refine wp_blk (pc' := 24) (L' := [some (.ref 19), some (.ref 4), some (.ref 25)]) (st' := []) (h' := zH (zui I 19 1 1) (zPr 0)) 1 rfl ?_
  refine wp_blk (pc' := 25) (L' := [some (.ref 19), some (.ref 4), some (.ref 25)]) (st' := [.ref 25]) (h' := zH (zui I 19 1 1) (zPr 0)) 1 rfl ?_
  refine wp_blk (pc' := 26) (L' := [some (.ref 19), some (.ref 4), some (.ref 25)]) (st' := [.ref 4, .ref 25]) (h' := zH (zui I 19 1 1) (zPr 0)) 1 rfl ?_
  refine wp_callf (d := 37) (as := [.ref 25, .ref 4]) (rest := []) (Ld := [some (.ref 25), some (.ref 4)]) (pc' := 29) (st' := []) (r := none) (h1 := zH (g_M_copy 25 26 27 28 4 5 6 7 (zui I 19 1 1)) (zPr 0)) rfl rfl rfl rfl rfl rfl rfl rfl rfl (xp_M_copy_25_4 _ _ (0, (g_M_copy 25 26 27 28 4 5 6 7 (zui I 19 1 1))) rfl) ?_
  refine wp_blk (pc' := 30) (L' := [some (.ref 19), some (.ref 4), some (.ref 25)]) (st' := [.ref 19]) (h' := zH (g_M_copy 25 26 27 28 4 5 6 7 (zui I 19 1 1)) (zPr 0)) 1 rfl ?_
  refine wp_blk (pc' := 31) (L' := [some (.ref 19), some (.ref 4), some (.ref 25)]) (st' := [.ref 19, .ref 19]) (h' := zH (g_M_copy 25 26 27 28 4 5 6 7 (zui I 19 1 1)) (zPr 0)) 1 rfl ?_
  refine wp_blk (pc' := 34) (L' := [some (.ref 19), some (.ref 4), some (.ref 25)]) (st' := [.int ((g_M_copy 25 26 27 28 4 5 6 7 (zui I 19 1 1)) 19 1), .ref 19]) (h' := zH (g_M_copy 25 26 27 28 4 5 6 7 (zui I 19 1 1)) (zPr 0)) 1 rfl ?_
  refine wp_blk (pc' := 35) (L' := [some (.ref 19), some (.ref 4), some (.ref 25)]) (st' := [.int 1, .int ((g_M_copy 25 26 27 28 4 5 6 7 (zui I 19 1 1)) 19 1), .ref 19]) (h' := zH (g_M_copy 25 26 27 28 4 5 6 7 (zui I 19 1 1)) (zPr 0)) 1 rfl ?_
  refine wp_blk (pc' := 36) (L' := [some (.ref 19), some (.ref 4), some (.ref 25)]) (st' := [.int (((g_M_copy 25 26 27 28 4 5 6 7 (zui I 19 1 1)) 19 1) + 1), .ref 19]) (h' := zH (g_M_copy 25 26 27 28 4 5 6 7 (zui I 19 1 1)) (zPr 0)) 1 rfl ?_
  refine wp_blk (pc' := 39) (L' := [some (.ref 19), some (.ref 4), some (.ref 25)]) (st' := []) (h' := zH (zui (g_M_copy 25 26 27 28 4 5 6 7 (zui I 19 1 1)) 19 1 (((g_M_copy 25 26 27 28 4 5 6 7 (zui I 19 1 1)) 19 1) + 1)) (zPr 0)) 1 rfl ?_
  exact wp_end rfl rfl ⟨rfl, rfl⟩
set_option maxRecDepth 100000 in
theorem sp_take19_0_1 {X : Nat × (Nat → Int32)} (I : Nat → Nat → Int32) : Wf X 79 [some (.ref 19), some (.ref 4), none] (zH (zui I 19 1 1) (zPr 0)) (some (.int 1)) (zH (zui (g_M_copy 4 5 6 7 21 22 23 24 (zui I 19 1 1)) 19 1 (((g_M_copy 4 5 6 7 21 22 23 24 (zui I 19 1 1)) 19 1) - 1)) (zPr 0)) := by
  unfold Wf
  refine wp_blk (pc' := 1) (L' := [some (.ref 19), some (.ref 4), none]) (st' := [.ref 19]) (h' := zH (zui I 19 1 1) (zPr 0)) 1 rfl ?_
  refine wp_blk (pc' := 2) (L' := [some (.ref 19), some (.ref 4), none]) (st' := [.ref 19, .ref 19]) (h' := zH (zui I 19 1 1) (zPr 0)) 1 rfl ?_
  refine wp_blk (pc' := 5) (L' := [some (.ref 19), some (.ref 4), none]) (st' := [.int 1, .ref 19]) (h' := zH (zui I 19 1 1) (zPr 0)) 1 rfl ?_
  refine wp_blk (pc' := 6) (L' := [some (.ref 19), some (.ref 4), none]) (st' := [.int 1, .int 1, .ref 19]) (h' := zH (zui I 19 1 1) (zPr 0)) 1 rfl ?_
  refine wp_blk (pc' := 7) (L' := [some (.ref 19), some (.ref 4), none]) (st' := [.int 0, .ref 19]) (h' := zH (zui I 19 1 1) (zPr 0)) 1 rfl ?_
  refine wp_callf (d := 68) (as := [.ref 19, .int 0]) (rest := []) (Ld := [some (.ref 19), some (.int 0)]) (pc' := 10) (st' := [.ref 21]) (r := some (.ref 21)) (h1 := zH (zui I 19 1 1) (zPr 0)) rfl rfl rfl rfl rfl rfl rfl rfl rfl (sp_at19_0_0 (X := X) (zui I 19 1 1)) ?_
  refine wp_blk (pc' := 11) (L' := [some (.ref 19), some (.ref 4), some (.ref 21)]) (st' := []) (h' := zH (zui I 19 1 1) (zPr 0)) 1 rfl ?_
  refine wp_blk (pc' := 12) (L' := [some (.ref 19), some (.ref 4), some (.ref 21)]) (st' := [.ref 21]) (h' := zH (zui I 19 1 1) (zPr 0)) 1 rfl ?_
  refine wp_blk (pc' := 17) (L' := [some (.ref 19), some (.ref 4), some (.ref 21)]) (st' := []) (h' := zH (zui I 19 1 1) (zPr 0)) 1 rfl ?_
  refine wp_blk (pc' := 18) (L' := [some (.ref 19), some (.ref 4), some (.ref 21)]) (st' := [.ref 4]) (h' := zH (zui I 19 1 1) (zPr 0)) 1 rfl ?_
  refine wp_blk (pc' := 19) (L' := [some (.ref 19), some (.ref 4), some (.ref 21)]) (st' := [.ref 21, .ref 4]) (h' := zH (zui I 19 1 1) (zPr 0)) 1 rfl ?_
  refine wp_callf (d := 37) (as := [.ref 4, .ref 21]) (rest := []) (Ld := [some (.ref 4), some (.ref 21)]) (pc' := 22) (st' := []) (r := none) (h1 := zH (g_M_copy 4 5 6 7 21 22 23 24 (zui I 19 1 1)) (zPr 0)) rfl rfl rfl rfl rfl rfl rfl rfl rfl (xp_M_copy_4_21 _ _ (0, (g_M_copy 4 5 6 7 21 22 23 24 (zui I 19 1 1))) rfl) ?_
  refine wp_blk (pc' := 23) (L' := [some (.ref 19), some (.ref 4), some (.ref 21)]) (st' := [.ref 19]) (h' := zH (g_M_copy 4 5 6 7 21 22 23 24 (zui I 19 1 1)) (zPr 0)) 1 rfl ?_
  refine wp_blk (pc' := 24) (L' := [some (.ref 19), some (.ref 4), some (.ref 21)]) (st' := [.ref 19, .ref 19]) (h' := zH (g_M_copy 4 5 6 7 21 22 23 24 (zui I 19 1 1)) (zPr 0)) 1 rfl ?_
  refine wp_blk (pc' := 27) (L' := [some (.ref 19), some (.ref 4), some (.ref 21)]) (st' := [.int ((g_M_copy 4 5 6 7 21 22 23 24 (zui I 19 1 1)) 19 1), .ref 19]) (h' := zH (g_M_copy 4 5 6 7 21 22 23 24 (zui I 19 1 1)) (zPr 0)) 1 rfl ?_
  refine wp_blk (pc' := 28) (L' := [some (.ref 19), some (.ref 4), some (.ref 21)]) (st' := [.int 1, .int ((g_M_copy 4 5 6 7 21 22 23 24 (zui I 19 1 1)) 19 1), .ref 19]) (h' := zH (g_M_copy 4 5 6 7 21 22 23 24 (zui I 19 1 1)) (zPr 0)) 1 rfl ?_
  refine wp_blk (pc' := 29) (L' := [some (.ref 19), some (.ref 4), some (.ref 21)]) (st' := [.int (((g_M_copy 4 5 6 7 21 22 23 24 (zui I 19 1 1)) 19 1) - 1), .ref 19]) (h' := zH (g_M_copy 4 5 6 7 21 22 23 24 (zui I 19 1 1)) (zPr 0)) 1 rfl ?_
  refine wp_blk (pc' := 32) (L' := [some (.ref 19), some (.ref 4), some (.ref 21)]) (st' := []) (h' := zH (zui (g_M_copy 4 5 6 7 21 22 23 24 (zui I 19 1 1)) 19 1 (((g_M_copy 4 5 6 7 21 22 23 24 (zui I 19 1 1)) 19 1) - 1)) (zPr 0)) 1 rfl ?_
  refine wp_blk (pc' := 33) (L' := [some (.ref 19), some (.ref 4), some (.ref 21)]) (st' := [.int 1]) (h' := zH (zui (g_M_copy 4 5 6 7 21 22 23 24 (zui I 19 1 1)) 19 1 (((g_M_copy 4 5 6 7 21 22 23 24 (zui I 19 1 1)) 19 1) - 1)) (zPr 0)) 1 rfl ?_
  exact wp_end rfl rfl ⟨rfl, rfl⟩
set_option maxRecDepth 100000 in
theorem sp_put19_0_2 {X : Nat × (Nat → Int32)} (I : Nat → Nat → Int32) : Wf X 65 [some (.ref 19), some (.ref 4), none] (zH (zui I 19 1 2) (zPr 0)) none (zH (zui (g_M_copy 29 30 31 32 4 5 6 7 (zui I 19 1 2)) 19 1 (((g_M_copy 29 30 31 32 4 5 6 7 (zui I 19 1 2)) 19 1) + 1)) (zPr 0)) := by
  unfold Wf
  refine wp_blk (pc' := 1) (L' := [some (.ref 19), some (.ref 4), none]) (st' := [.ref 19]) (h' := zH (zui I 19 1 2) (zPr 0)) 1 rfl ?_
  refine wp_callf (d := 66) (as := [.ref 19]) (rest := []) (Ld := [some (.ref 19)]) (pc' := 4) (st' := [.int 0]) (r := some (.int 0)) (h1 := zH (zui I 19 1 2) (zPr 0)) rfl rfl rfl rfl rfl rfl rfl rfl rfl (sp_H1_isFull (X := X) (zui I 19 1 2) (zPr 0)) ?_
  refine wp_blk (pc' := 11) (L' := [some (.ref 19), some (.ref 4), none]) (st' := []) (h' := zH (zui I 19 1 2) (zPr 0)) 1 rfl ?_
  refine wp_blk (pc' := 12) (L' := [some (.ref 19), some (.ref 4), none]) (st' := [.ref 19]) (h' := zH (zui I 19 1 2) (zPr 0)) 1 rfl ?_
  refine wp_blk (pc' := 13) (L' := [some (.ref 19), some (.ref 4), none]) (st' := [.ref 19, .ref 19]) (h' := zH (zui I 19 1 2) (zPr 0)) 1 rfl ?_
  refine wp_blk (pc' := 16) (L' := [some (.ref 19), some (.ref 4), none]) (st' := [.int 2, .ref 19]) (h' := zH (zui I 19 1 2) (zPr 0)) 1 rfl ?_
  refine wp_callf (d := 68) (as := [.ref 19, .int 2]) (rest := []) (Ld := [some (.ref 19), some (.int 2)]) (pc' := 19) (st' := [.ref 29]) (r := some (.ref 29)) (h1 := zH (zui I 19 1 2) (zPr 0)) rfl rfl rfl rfl rfl rfl rfl rfl rfl (sp_at19_0_2 (X := X) (zui I 19 1 2)) ?_
  refine wp_blk (pc' := 20) (L' := [some (.ref 19), some (.ref 4), some (.ref 29)]) (st' := []) (h' := zH (zui I 19 1 2) (zPr 0)) 1 rfl ?_
  refine wp_blk (pc' := 21) (L' := [some (.ref 19), some (.ref 4), some (.ref 29)]) (st' := [.ref 29]) (h' := zH (zui I 19 1 2) (zPr 0)) 1 rfl ?_
  refine wp_blk (pc' := 24) (L' := [some (.ref 19), some (.ref 4), some (.ref 29)]) (st' := []) (h' := zH (zui I 19 1 2) (zPr 0)) 1 rfl ?_
  refine wp_blk (pc' := 25) (L' := [some (.ref 19), some (.ref 4), some (.ref 29)]) (st' := [.ref 29]) (h' := zH (zui I 19 1 2) (zPr 0)) 1 rfl ?_
  refine wp_blk (pc' := 26) (L' := [some (.ref 19), some (.ref 4), some (.ref 29)]) (st' := [.ref 4, .ref 29]) (h' := zH (zui I 19 1 2) (zPr 0)) 1 rfl ?_
  refine wp_callf (d := 37) (as := [.ref 29, .ref 4]) (rest := []) (Ld := [some (.ref 29), some (.ref 4)]) (pc' := 29) (st' := []) (r := none) (h1 := zH (g_M_copy 29 30 31 32 4 5 6 7 (zui I 19 1 2)) (zPr 0)) rfl rfl rfl rfl rfl rfl rfl rfl rfl (xp_M_copy_29_4 _ _ (0, (g_M_copy 29 30 31 32 4 5 6 7 (zui I 19 1 2))) rfl) ?_
  refine wp_blk (pc' := 30) (L' := [some (.ref 19), some (.ref 4), some (.ref 29)]) (st' := [.ref 19]) (h' := zH (g_M_copy 29 30 31 32 4 5 6 7 (zui I 19 1 2)) (zPr 0)) 1 rfl ?_
  refine wp_blk (pc' := 31) (L' := [some (.ref 19), some (.ref 4), some (.ref 29)]) (st' := [.ref 19, .ref 19]) (h' := zH (g_M_copy 29 30 31 32 4 5 6 7 (zui I 19 1 2)) (zPr 0)) 1 rfl ?_
  refine wp_blk (pc' := 34) (L' := [some (.ref 19), some (.ref 4), some (.ref 29)]) (st' := [.int ((g_M_copy 29 30 31 32 4 5 6 7 (zui I 19 1 2)) 19 1), .ref 19]) (h' := zH (g_M_copy 29 30 31 32 4 5 6 7 (zui I 19 1 2)) (zPr 0)) 1 rfl ?_
  refine wp_blk (pc' := 35) (L' := [some (.ref 19), some (.ref 4), some (.ref 29)]) (st' := [.int 1, .int ((g_M_copy 29 30 31 32 4 5 6 7 (zui I 19 1 2)) 19 1), .ref 19]) (h' := zH (g_M_copy 29 30 31 32 4 5 6 7 (zui I 19 1 2)) (zPr 0)) 1 rfl ?_
  refine wp_blk (pc' := 36) (L' := [some (.ref 19), some (.ref 4), some (.ref 29)]) (st' := [.int (((g_M_copy 29 30 31 32 4 5 6 7 (zui I 19 1 2)) 19 1) + 1), .ref 19]) (h' := zH (g_M_copy 29 30 31 32 4 5 6 7 (zui I 19 1 2)) (zPr 0)) 1 rfl ?_
  refine wp_blk (pc' := 39) (L' := [some (.ref 19), some (.ref 4), some (.ref 29)]) (st' := []) (h' := zH (zui (g_M_copy 29 30 31 32 4 5 6 7 (zui I 19 1 2)) 19 1 (((g_M_copy 29 30 31 32 4 5 6 7 (zui I 19 1 2)) 19 1) + 1)) (zPr 0)) 1 rfl ?_
  exact wp_end rfl rfl ⟨rfl, rfl⟩
set_option maxRecDepth 100000 in
theorem sp_take19_0_2 {X : Nat × (Nat → Int32)} (I : Nat → Nat → Int32) : Wf X 79 [some (.ref 19), some (.ref 4), none] (zH (zui I 19 1 2) (zPr 0)) (some (.int 1)) (zH (zui (g_M_copy 4 5 6 7 25 26 27 28 (zui I 19 1 2)) 19 1 (((g_M_copy 4 5 6 7 25 26 27 28 (zui I 19 1 2)) 19 1) - 1)) (zPr 0)) := by
  unfold Wf
  refine wp_blk (pc' := 1) (L' := [some (.ref 19), some (.ref 4), none]) (st' := [.ref 19]) (h' := zH (zui I 19 1 2) (zPr 0)) 1 rfl ?_
  refine wp_blk (pc' := 2) (L' := [some (.ref 19), some (.ref 4), none]) (st' := [.ref 19, .ref 19]) (h' := zH (zui I 19 1 2) (zPr 0)) 1 rfl ?_
  refine wp_blk (pc' := 5) (L' := [some (.ref 19), some (.ref 4), none]) (st' := [.int 2, .ref 19]) (h' := zH (zui I 19 1 2) (zPr 0)) 1 rfl ?_
  refine wp_blk (pc' := 6) (L' := [some (.ref 19), some (.ref 4), none]) (st' := [.int 1, .int 2, .ref 19]) (h' := zH (zui I 19 1 2) (zPr 0)) 1 rfl ?_
  refine wp_blk (pc' := 7) (L' := [some (.ref 19), some (.ref 4), none]) (st' := [.int 1, .ref 19]) (h' := zH (zui I 19 1 2) (zPr 0)) 1 rfl ?_
  refine wp_callf (d := 68) (as := [.ref 19, .int 1]) (rest := []) (Ld := [some (.ref 19), some (.int 1)]) (pc' := 10) (st' := [.ref 25]) (r := some (.ref 25)) (h1 := zH (zui I 19 1 2) (zPr 0)) rfl rfl rfl rfl rfl rfl rfl rfl rfl (sp_at19_0_1 (X := X) (zui I 19 1 2)) ?_
  refine wp_blk (pc' := 11) (L' := [some (.ref 19), some (.ref 4), some (.ref 25)]) (st' := []) (h' := zH (zui I 19 1 2) (zPr 0)) 1 rfl ?_
  refine wp_blk (pc' := 12) (L' := [some (.ref 19), some (.ref 4), some (.ref 25)]) (st' := [.ref 25]) (h' := zH (zui I 19 1 2) (zPr 0)) 1 rfl ?_
  refine wp_blk (pc' := 17) (L' := [some (.ref 19), some (.ref 4), some (.ref 25)]) (st' := []) (h' := zH (zui I 19 1 2) (zPr 0)) 1 rfl ?_
  refine wp_blk (pc' := 18) (L' := [some (.ref 19), some (.ref 4), some (.ref 25)]) (st' := [.ref 4]) (h' := zH (zui I 19 1 2) (zPr 0)) 1 rfl ?_
  refine wp_blk (pc' := 19) (L' := [some (.ref 19), some (.ref 4), some (.ref 25)]) (st' := [.ref 25, .ref 4]) (h' := zH (zui I 19 1 2) (zPr 0)) 1 rfl ?_
  refine wp_callf (d := 37) (as := [.ref 4, .ref 25]) (rest := []) (Ld := [some (.ref 4), some (.ref 25)]) (pc' := 22) (st' := []) (r := none) (h1 := zH (g_M_copy 4 5 6 7 25 26 27 28 (zui I 19 1 2)) (zPr 0)) rfl rfl rfl rfl rfl rfl rfl rfl rfl (xp_M_copy_4_25 _ _ (0, (g_M_copy 4 5 6 7 25 26 27 28 (zui I 19 1 2))) rfl) ?_
  refine wp_blk (pc' := 23) (L' := [some (.ref 19), some (.ref 4), some (.ref 25)]) (st' := [.ref 19]) (h' := zH (g_M_copy 4 5 6 7 25 26 27 28 (zui I 19 1 2)) (zPr 0)) 1 rfl ?_
  refine wp_blk (pc' := 24) (L' := [some (.ref 19), some (.ref 4), some (.ref 25)]) (st' := [.ref 19, .ref 19]) (h' := zH (g_M_copy 4 5 6 7 25 26 27 28 (zui I 19 1 2)) (zPr 0)) 1 rfl ?_
  refine wp_blk (pc' := 27) (L' := [some (.ref 19), some (.ref 4), some (.ref 25)]) (st' := [.int ((g_M_copy 4 5 6 7 25 26 27 28 (zui I 19 1 2)) 19 1), .ref 19]) (h' := zH (g_M_copy 4 5 6 7 25 26 27 28 (zui I 19 1 2)) (zPr 0)) 1 rfl ?_
  refine wp_blk (pc' := 28) (L' := [some (.ref 19), some (.ref 4), some (.ref 25)]) (st' := [.int 1, .int ((g_M_copy 4 5 6 7 25 26 27 28 (zui I 19 1 2)) 19 1), .ref 19]) (h' := zH (g_M_copy 4 5 6 7 25 26 27 28 (zui I 19 1 2)) (zPr 0)) 1 rfl ?_
  refine wp_blk (pc' := 29) (L' := [some (.ref 19), some (.ref 4), some (.ref 25)]) (st' := [.int (((g_M_copy 4 5 6 7 25 26 27 28 (zui I 19 1 2)) 19 1) - 1), .ref 19]) (h' := zH (g_M_copy 4 5 6 7 25 26 27 28 (zui I 19 1 2)) (zPr 0)) 1 rfl ?_
  refine wp_blk (pc' := 32) (L' := [some (.ref 19), some (.ref 4), some (.ref 25)]) (st' := []) (h' := zH (zui (g_M_copy 4 5 6 7 25 26 27 28 (zui I 19 1 2)) 19 1 (((g_M_copy 4 5 6 7 25 26 27 28 (zui I 19 1 2)) 19 1) - 1)) (zPr 0)) 1 rfl ?_
  refine wp_blk (pc' := 33) (L' := [some (.ref 19), some (.ref 4), some (.ref 25)]) (st' := [.int 1]) (h' := zH (zui (g_M_copy 4 5 6 7 25 26 27 28 (zui I 19 1 2)) 19 1 (((g_M_copy 4 5 6 7 25 26 27 28 (zui I 19 1 2)) 19 1) - 1)) (zPr 0)) 1 rfl ?_
  exact wp_end rfl rfl ⟨rfl, rfl⟩
set_option maxRecDepth 100000 in
theorem sp_put19_0_3 {X : Nat × (Nat → Int32)} (I : Nat → Nat → Int32) : Wf X 65 [some (.ref 19), some (.ref 4), none] (zH (zui I 19 1 3) (zPr 0)) none (zH (zui (g_M_copy 33 34 35 36 4 5 6 7 (zui I 19 1 3)) 19 1 (((g_M_copy 33 34 35 36 4 5 6 7 (zui I 19 1 3)) 19 1) + 1)) (zPr 0)) := by
  unfold Wf
  refine wp_blk (pc' := 1) (L' := [some (.ref 19), some (.ref 4), none]) (st' := [.ref 19]) (h' := zH (zui I 19 1 3) (zPr 0)) 1 rfl ?_
  refine wp_callf (d := 66) (as := [.ref 19]) (rest := []) (Ld := [some (.ref 19)]) (pc' := 4) (st' := [.int 0]) (r := some (.int 0)) (h1 := zH (zui I 19 1 3) (zPr 0)) rfl rfl rfl rfl rfl rfl rfl rfl rfl (sp_H1_isFull (X := X) (zui I 19 1 3) (zPr 0)) ?_
  refine wp_blk (pc' := 11) (L' := [some (.ref 19), some (.ref 4), none]) (st' := []) (h' := zH (zui I 19 1 3) (zPr 0)) 1 rfl ?_
  refine wp_blk (pc' := 12) (L' := [some (.ref 19), some (.ref 4), none]) (st' := [.ref 19]) (h' := zH (zui I 19 1 3) (zPr 0)) 1 rfl ?_
  refine wp_blk (pc' := 13) (L' := [some (.ref 19), some (.ref 4), none]) (st' := [.ref 19, .ref 19]) (h' := zH (zui I 19 1 3) (zPr 0)) 1 rfl ?_
  refine wp_blk (pc' := 16) (L' := [some (.ref 19), some (.ref 4), none]) (st' := [.int 3, .ref 19]) (h' := zH (zui I 19 1 3) (zPr 0)) 1 rfl ?_
  refine wp_callf (d := 68) (as := [.ref 19, .int 3]) (rest := []) (Ld := [some (.ref 19), some (.int 3)]) (pc' := 19) (st' := [.ref 33]) (r := some (.ref 33)) (h1 := zH (zui I 19 1 3) (zPr 0)) rfl rfl rfl rfl rfl rfl rfl rfl rfl (sp_at19_0_3 (X := X) (zui I 19 1 3)) ?_
  refine wp_blk (pc' := 20) (L' := [some (.ref 19), some (.ref 4), some (.ref 33)]) (st' := []) (h' := zH (zui I 19 1 3) (zPr 0)) 1 rfl ?_
  refine wp_blk (pc' := 21) (L' := [some (.ref 19), some (.ref 4), some (.ref 33)]) (st' := [.ref 33]) (h' := zH (zui I 19 1 3) (zPr 0)) 1 rfl ?_
  refine wp_blk (pc' := 24) (L' := [some (.ref 19), some (.ref 4), some (.ref 33)]) (st' := []) (h' := zH (zui I 19 1 3) (zPr 0)) 1 rfl ?_
  refine wp_blk (pc' := 25) (L' := [some (.ref 19), some (.ref 4), some (.ref 33)]) (st' := [.ref 33]) (h' := zH (zui I 19 1 3) (zPr 0)) 1 rfl ?_
  refine wp_blk (pc' := 26) (L' := [some (.ref 19), some (.ref 4), some (.ref 33)]) (st' := [.ref 4, .ref 33]) (h' := zH (zui I 19 1 3) (zPr 0)) 1 rfl ?_
  refine wp_callf (d := 37) (as := [.ref 33, .ref 4]) (rest := []) (Ld := [some (.ref 33), some (.ref 4)]) (pc' := 29) (st' := []) (r := none) (h1 := zH (g_M_copy 33 34 35 36 4 5 6 7 (zui I 19 1 3)) (zPr 0)) rfl rfl rfl rfl rfl rfl rfl rfl rfl (xp_M_copy_33_4 _ _ (0, (g_M_copy 33 34 35 36 4 5 6 7 (zui I 19 1 3))) rfl) ?_
  refine wp_blk (pc' := 30) (L' := [some (.ref 19), some (.ref 4), some (.ref 33)]) (st' := [.ref 19]) (h' := zH (g_M_copy 33 34 35 36 4 5 6 7 (zui I 19 1 3)) (zPr 0)) 1 rfl ?_
  refine wp_blk (pc' := 31) (L' := [some (.ref 19), some (.ref 4), some (.ref 33)]) (st' := [.ref 19, .ref 19]) (h' := zH (g_M_copy 33 34 35 36 4 5 6 7 (zui I 19 1 3)) (zPr 0)) 1 rfl ?_
  refine wp_blk (pc' := 34) (L' := [some (.ref 19), some (.ref 4), some (.ref 33)]) (st' := [.int ((g_M_copy 33 34 35 36 4 5 6 7 (zui I 19 1 3)) 19 1), .ref 19]) (h' := zH (g_M_copy 33 34 35 36 4 5 6 7 (zui I 19 1 3)) (zPr 0)) 1 rfl ?_
  refine wp_blk (pc' := 35) (L' := [some (.ref 19), some (.ref 4), some (.ref 33)]) (st' := [.int 1, .int ((g_M_copy 33 34 35 36 4 5 6 7 (zui I 19 1 3)) 19 1), .ref 19]) (h' := zH (g_M_copy 33 34 35 36 4 5 6 7 (zui I 19 1 3)) (zPr 0)) 1 rfl ?_
  refine wp_blk (pc' := 36) (L' := [some (.ref 19), some (.ref 4), some (.ref 33)]) (st' := [.int (((g_M_copy 33 34 35 36 4 5 6 7 (zui I 19 1 3)) 19 1) + 1), .ref 19]) (h' := zH (g_M_copy 33 34 35 36 4 5 6 7 (zui I 19 1 3)) (zPr 0)) 1 rfl ?_
  refine wp_blk (pc' := 39) (L' := [some (.ref 19), some (.ref 4), some (.ref 33)]) (st' := []) (h' := zH (zui (g_M_copy 33 34 35 36 4 5 6 7 (zui I 19 1 3)) 19 1 (((g_M_copy 33 34 35 36 4 5 6 7 (zui I 19 1 3)) 19 1) + 1)) (zPr 0)) 1 rfl ?_
  exact wp_end rfl rfl ⟨rfl, rfl⟩
set_option maxRecDepth 100000 in
theorem sp_take19_0_3 {X : Nat × (Nat → Int32)} (I : Nat → Nat → Int32) : Wf X 79 [some (.ref 19), some (.ref 4), none] (zH (zui I 19 1 3) (zPr 0)) (some (.int 1)) (zH (zui (g_M_copy 4 5 6 7 29 30 31 32 (zui I 19 1 3)) 19 1 (((g_M_copy 4 5 6 7 29 30 31 32 (zui I 19 1 3)) 19 1) - 1)) (zPr 0)) := by
  unfold Wf
  refine wp_blk (pc' := 1) (L' := [some (.ref 19), some (.ref 4), none]) (st' := [.ref 19]) (h' := zH (zui I 19 1 3) (zPr 0)) 1 rfl ?_
  refine wp_blk (pc' := 2) (L' := [some (.ref 19), some (.ref 4), none]) (st' := [.ref 19, .ref 19]) (h' := zH (zui I 19 1 3) (zPr 0)) 1 rfl ?_
  refine wp_blk (pc' := 5) (L' := [some (.ref 19), some (.ref 4), none]) (st' := [.int 3, .ref 19]) (h' := zH (zui I 19 1 3) (zPr 0)) 1 rfl ?_
  refine wp_blk (pc' := 6) (L' := [some (.ref 19), some (.ref 4), none]) (st' := [.int 1, .int 3, .ref 19]) (h' := zH (zui I 19 1 3) (zPr 0)) 1 rfl ?_
  refine wp_blk (pc' := 7) (L' := [some (.ref 19), some (.ref 4), none]) (st' := [.int 2, .ref 19]) (h' := zH (zui I 19 1 3) (zPr 0)) 1 rfl ?_
  refine wp_callf (d := 68) (as := [.ref 19, .int 2]) (rest := []) (Ld := [some (.ref 19), some (.int 2)]) (pc' := 10) (st' := [.ref 29]) (r := some (.ref 29)) (h1 := zH (zui I 19 1 3) (zPr 0)) rfl rfl rfl rfl rfl rfl rfl rfl rfl (sp_at19_0_2 (X := X) (zui I 19 1 3)) ?_
  refine wp_blk (pc' := 11) (L' := [some (.ref 19), some (.ref 4), some (.ref 29)]) (st' := []) (h' := zH (zui I 19 1 3) (zPr 0)) 1 rfl ?_
  refine wp_blk (pc' := 12) (L' := [some (.ref 19), some (.ref 4), some (.ref 29)]) (st' := [.ref 29]) (h' := zH (zui I 19 1 3) (zPr 0)) 1 rfl ?_
  refine wp_blk (pc' := 17) (L' := [some (.ref 19), some (.ref 4), some (.ref 29)]) (st' := []) (h' := zH (zui I 19 1 3) (zPr 0)) 1 rfl ?_
  refine wp_blk (pc' := 18) (L' := [some (.ref 19), some (.ref 4), some (.ref 29)]) (st' := [.ref 4]) (h' := zH (zui I 19 1 3) (zPr 0)) 1 rfl ?_
  refine wp_blk (pc' := 19) (L' := [some (.ref 19), some (.ref 4), some (.ref 29)]) (st' := [.ref 29, .ref 4]) (h' := zH (zui I 19 1 3) (zPr 0)) 1 rfl ?_
  refine wp_callf (d := 37) (as := [.ref 4, .ref 29]) (rest := []) (Ld := [some (.ref 4), some (.ref 29)]) (pc' := 22) (st' := []) (r := none) (h1 := zH (g_M_copy 4 5 6 7 29 30 31 32 (zui I 19 1 3)) (zPr 0)) rfl rfl rfl rfl rfl rfl rfl rfl rfl (xp_M_copy_4_29 _ _ (0, (g_M_copy 4 5 6 7 29 30 31 32 (zui I 19 1 3))) rfl) ?_
  refine wp_blk (pc' := 23) (L' := [some (.ref 19), some (.ref 4), some (.ref 29)]) (st' := [.ref 19]) (h' := zH (g_M_copy 4 5 6 7 29 30 31 32 (zui I 19 1 3)) (zPr 0)) 1 rfl ?_
  refine wp_blk (pc' := 24) (L' := [some (.ref 19), some (.ref 4), some (.ref 29)]) (st' := [.ref 19, .ref 19]) (h' := zH (g_M_copy 4 5 6 7 29 30 31 32 (zui I 19 1 3)) (zPr 0)) 1 rfl ?_
  refine wp_blk (pc' := 27) (L' := [some (.ref 19), some (.ref 4), some (.ref 29)]) (st' := [.int ((g_M_copy 4 5 6 7 29 30 31 32 (zui I 19 1 3)) 19 1), .ref 19]) (h' := zH (g_M_copy 4 5 6 7 29 30 31 32 (zui I 19 1 3)) (zPr 0)) 1 rfl ?_
  refine wp_blk (pc' := 28) (L' := [some (.ref 19), some (.ref 4), some (.ref 29)]) (st' := [.int 1, .int ((g_M_copy 4 5 6 7 29 30 31 32 (zui I 19 1 3)) 19 1), .ref 19]) (h' := zH (g_M_copy 4 5 6 7 29 30 31 32 (zui I 19 1 3)) (zPr 0)) 1 rfl ?_
  refine wp_blk (pc' := 29) (L' := [some (.ref 19), some (.ref 4), some (.ref 29)]) (st' := [.int (((g_M_copy 4 5 6 7 29 30 31 32 (zui I 19 1 3)) 19 1) - 1), .ref 19]) (h' := zH (g_M_copy 4 5 6 7 29 30 31 32 (zui I 19 1 3)) (zPr 0)) 1 rfl ?_
  refine wp_blk (pc' := 32) (L' := [some (.ref 19), some (.ref 4), some (.ref 29)]) (st' := []) (h' := zH (zui (g_M_copy 4 5 6 7 29 30 31 32 (zui I 19 1 3)) 19 1 (((g_M_copy 4 5 6 7 29 30 31 32 (zui I 19 1 3)) 19 1) - 1)) (zPr 0)) 1 rfl ?_
  refine wp_blk (pc' := 33) (L' := [some (.ref 19), some (.ref 4), some (.ref 29)]) (st' := [.int 1]) (h' := zH (zui (g_M_copy 4 5 6 7 29 30 31 32 (zui I 19 1 3)) 19 1 (((g_M_copy 4 5 6 7 29 30 31 32 (zui I 19 1 3)) 19 1) - 1)) (zPr 0)) 1 rfl ?_
  exact wp_end rfl rfl ⟨rfl, rfl⟩
set_option maxRecDepth 100000 in
theorem sp_put19_0_4 {X : Nat × (Nat → Int32)} (I : Nat → Nat → Int32) : Wf X 65 [some (.ref 19), some (.ref 4), none] (zH (zui I 19 1 4) (zPr 0)) none (zH (zui (g_M_copy 37 38 39 40 4 5 6 7 (zui I 19 1 4)) 19 1 (((g_M_copy 37 38 39 40 4 5 6 7 (zui I 19 1 4)) 19 1) + 1)) (zPr 0)) := by
  unfold Wf
  refine wp_blk (pc' := 1) (L' := [some (.ref 19), some (.ref 4), none]) (st' := [.ref 19]) (h' := zH (zui I 19 1 4) (zPr 0)) 1 rfl ?_
  refine wp_callf (d := 66) (as := [.ref 19]) (rest := []) (Ld := [some (.ref 19)]) (pc' := 4) (st' := [.int 0]) (r := some (.int 0)) (h1 := zH (zui I 19 1 4) (zPr 0)) rfl rfl rfl rfl rfl rfl rfl rfl rfl (sp_H1_isFull (X := X) (zui I 19 1 4) (zPr 0)) ?_
  refine wp_blk (pc' := 11) (L' := [some (.ref 19), some (.ref 4), none]) (st' := []) (h' := zH (zui I 19 1 4) (zPr 0)) 1 rfl ?_
  refine wp_blk (pc' := 12) (L' := [some (.ref 19), some (.ref 4), none]) (st' := [.ref 19]) (h' := zH (zui I 19 1 4) (zPr 0)) 1 rfl ?_
  refine wp_blk (pc' := 13) (L' := [some (.ref 19), some (.ref 4), none]) (st' := [.ref 19, .ref 19]) (h' := zH (zui I 19 1 4) (zPr 0)) 1 rfl ?_
  refine wp_blk (pc' := 16) (L' := [some (.ref 19), some (.ref 4), none]) (st' := [.int 4, .ref 19]) (h' := zH (zui I 19 1 4) (zPr 0)) 1 rfl ?_
  refine wp_callf (d := 68) (as := [.ref 19, .int 4]) (rest := []) (Ld := [some (.ref 19), some (.int 4)]) (pc' := 19) (st' := [.ref 37]) (r := some (.ref 37)) (h1 := zH (zui I 19 1 4) (zPr 0)) rfl rfl rfl rfl rfl rfl rfl rfl rfl (sp_at19_0_4 (X := X) (zui I 19 1 4)) ?_
  refine wp_blk (pc' := 20) (L' := [some (.ref 19), some (.ref 4), some (.ref 37)]) (st' := []) (h' := zH (zui I 19 1 4) (zPr 0)) 1 rfl ?_
  refine wp_blk (pc' := 21) (L' := [some (.ref 19), some (.ref 4), some (.ref 37)]) (st' := [.ref 37]) (h' := zH (zui I 19 1 4) (zPr 0)) 1 rfl ?_
  refine wp_blk (pc' := 24) (L' := [some (.ref 19), some (.ref 4), some (.ref 37)]) (st' := []) (h' := zH (zui I 19 1 4) (zPr 0)) 1 rfl ?_
  refine wp_blk (pc' := 25) (L' := [some (.ref 19), some (.ref 4), some (.ref 37)]) (st' := [.ref 37]) (h' := zH (zui I 19 1 4) (zPr 0)) 1 rfl ?_
  refine wp_blk (pc' := 26) (L' := [some (.ref 19), some (.ref 4), some (.ref 37)]) (st' := [.ref 4, .ref 37]) (h' := zH (zui I 19 1 4) (zPr 0)) 1 rfl ?_
  refine wp_callf (d := 37) (as := [.ref 37, .ref 4]) (rest := []) (Ld := [some (.ref 37), some (.ref 4)]) (pc' := 29) (st' := []) (r := none) (h1 := zH (g_M_copy 37 38 39 40 4 5 6 7 (zui I 19 1 4)) (zPr 0)) rfl rfl rfl rfl rfl rfl rfl rfl rfl (xp_M_copy_37_4 _ _ (0, (g_M_copy 37 38 39 40 4 5 6 7 (zui I 19 1 4))) rfl) ?_
  refine wp_blk (pc' := 30) (L' := [some (.ref 19), some (.ref 4), some (.ref 37)]) (st' := [.ref 19]) (h' := zH (g_M_copy 37 38 39 40 4 5 6 7 (zui I 19 1 4)) (zPr 0)) 1 rfl ?_
  refine wp_blk (pc' := 31) (L' := [some (.ref 19), some (.ref 4), some (.ref 37)]) (st' := [.ref 19, .ref 19]) (h' := zH (g_M_copy 37 38 39 40 4 5 6 7 (zui I 19 1 4)) (zPr 0)) 1 rfl ?_
  refine wp_blk (pc' := 34) (L' := [some (.ref 19), some (.ref 4), some (.ref 37)]) (st' := [.int ((g_M_copy 37 38 39 40 4 5 6 7 (zui I 19 1 4)) 19 1), .ref 19]) (h' := zH (g_M_copy 37 38 39 40 4 5 6 7 (zui I 19 1 4)) (zPr 0)) 1 rfl ?_
  refine wp_blk (pc' := 35) (L' := [some (.ref 19), some (.ref 4), some (.ref 37)]) (st' := [.int 1, .int ((g_M_copy 37 38 39 40 4 5 6 7 (zui I 19 1 4)) 19 1), .ref 19]) (h' := zH (g_M_copy 37 38 39 40 4 5 6 7 (zui I 19 1 4)) (zPr 0)) 1 rfl ?_
  refine wp_blk (pc' := 36) (L' := [some (.ref 19), some (.ref 4), some (.ref 37)]) (st' := [.int (((g_M_copy 37 38 39 40 4 5 6 7 (zui I 19 1 4)) 19 1) + 1), .ref 19]) (h' := zH (g_M_copy 37 38 39 40 4 5 6 7 (zui I 19 1 4)) (zPr 0)) 1 rfl ?_
  refine wp_blk (pc' := 39) (L' := [some (.ref 19), some (.ref 4), some (.ref 37)]) (st' := []) (h' := zH (zui (g_M_copy 37 38 39 40 4 5 6 7 (zui I 19 1 4)) 19 1 (((g_M_copy 37 38 39 40 4 5 6 7 (zui I 19 1 4)) 19 1) + 1)) (zPr 0)) 1 rfl ?_
  exact wp_end rfl rfl ⟨rfl, rfl⟩
set_option maxRecDepth 100000 in
theorem sp_take19_0_4 {X : Nat × (Nat → Int32)} (I : Nat → Nat → Int32) : Wf X 79 [some (.ref 19), some (.ref 4), none] (zH (zui I 19 1 4) (zPr 0)) (some (.int 1)) (zH (zui (g_M_copy 4 5 6 7 33 34 35 36 (zui I 19 1 4)) 19 1 (((g_M_copy 4 5 6 7 33 34 35 36 (zui I 19 1 4)) 19 1) - 1)) (zPr 0)) := by
  unfold Wf
  refine wp_blk (pc' := 1) (L' := [some (.ref 19), some (.ref 4), none]) (st' := [.ref 19]) (h' := zH (zui I 19 1 4) (zPr 0)) 1 rfl ?_
  refine wp_blk (pc' := 2) (L' := [some (.ref 19), some (.ref 4), none]) (st' := [.ref 19, .ref 19]) (h' := zH (zui I 19 1 4) (zPr 0)) 1 rfl ?_
  refine wp_blk (pc' := 5) (L' := [some (.ref 19), some (.ref 4), none]) (st' := [.int 4, .ref 19]) (h' := zH (zui I 19 1 4) (zPr 0)) 1 rfl ?_
  refine wp_blk (pc' := 6) (L' := [some (.ref 19), some (.ref 4), none]) (st' := [.int 1, .int 4, .ref 19]) (h' := zH (zui I 19 1 4) (zPr 0)) 1 rfl ?_
  refine wp_blk (pc' := 7) (L' := [some (.ref 19), some (.ref 4), none]) (st' := [.int 3, .ref 19]) (h' := zH (zui I 19 1 4) (zPr 0)) 1 rfl ?_
  refine wp_callf (d := 68) (as := [.ref 19, .int 3]) (rest := []) (Ld := [some (.ref 19), some (.int 3)]) (pc' := 10) (st' := [.ref 33]) (r := some (.ref 33)) (h1 := zH (zui I 19 1 4) (zPr 0)) rfl rfl rfl rfl rfl rfl rfl rfl rfl (sp_at19_0_3 (X := X) (zui I 19 1 4)) ?_
  refine wp_blk (pc' := 11) (L' := [some (.ref 19), some (.ref 4), some (.ref 33)]) (st' := []) (h' := zH (zui I 19 1 4) (zPr 0)) 1 rfl ?_
  refine wp_blk (pc' := 12) (L' := [some (.ref 19), some (.ref 4), some (.ref 33)]) (st' := [.ref 33]) (h' := zH (zui I 19 1 4) (zPr 0)) 1 rfl ?_
  refine wp_blk (pc' := 17) (L' := [some (.ref 19), some (.ref 4), some (.ref 33)]) (st' := []) (h' := zH (zui I 19 1 4) (zPr 0)) 1 rfl ?_
  refine wp_blk (pc' := 18) (L' := [some (.ref 19), some (.ref 4), some (.ref 33)]) (st' := [.ref 4]) (h' := zH (zui I 19 1 4) (zPr 0)) 1 rfl ?_
  refine wp_blk (pc' := 19) (L' := [some (.ref 19), some (.ref 4), some (.ref 33)]) (st' := [.ref 33, .ref 4]) (h' := zH (zui I 19 1 4) (zPr 0)) 1 rfl ?_
  refine wp_callf (d := 37) (as := [.ref 4, .ref 33]) (rest := []) (Ld := [some (.ref 4), some (.ref 33)]) (pc' := 22) (st' := []) (r := none) (h1 := zH (g_M_copy 4 5 6 7 33 34 35 36 (zui I 19 1 4)) (zPr 0)) rfl rfl rfl rfl rfl rfl rfl rfl rfl (xp_M_copy_4_33 _ _ (0, (g_M_copy 4 5 6 7 33 34 35 36 (zui I 19 1 4))) rfl) ?_
  refine wp_blk (pc' := 23) (L' := [some (.ref 19), some (.ref 4), some (.ref 33)]) (st' := [.ref 19]) (h' := zH (g_M_copy 4 5 6 7 33 34 35 36 (zui I 19 1 4)) (zPr 0)) 1 rfl ?_
  refine wp_blk (pc' := 24) (L' := [some (.ref 19), some (.ref 4), some (.ref 33)]) (st' := [.ref 19, .ref 19]) (h' := zH (g_M_copy 4 5 6 7 33 34 35 36 (zui I 19 1 4)) (zPr 0)) 1 rfl ?_
  refine wp_blk (pc' := 27) (L' := [some (.ref 19), some (.ref 4), some (.ref 33)]) (st' := [.int ((g_M_copy 4 5 6 7 33 34 35 36 (zui I 19 1 4)) 19 1), .ref 19]) (h' := zH (g_M_copy 4 5 6 7 33 34 35 36 (zui I 19 1 4)) (zPr 0)) 1 rfl ?_
  refine wp_blk (pc' := 28) (L' := [some (.ref 19), some (.ref 4), some (.ref 33)]) (st' := [.int 1, .int ((g_M_copy 4 5 6 7 33 34 35 36 (zui I 19 1 4)) 19 1), .ref 19]) (h' := zH (g_M_copy 4 5 6 7 33 34 35 36 (zui I 19 1 4)) (zPr 0)) 1 rfl ?_
  refine wp_blk (pc' := 29) (L' := [some (.ref 19), some (.ref 4), some (.ref 33)]) (st' := [.int (((g_M_copy 4 5 6 7 33 34 35 36 (zui I 19 1 4)) 19 1) - 1), .ref 19]) (h' := zH (g_M_copy 4 5 6 7 33 34 35 36 (zui I 19 1 4)) (zPr 0)) 1 rfl ?_
  refine wp_blk (pc' := 32) (L' := [some (.ref 19), some (.ref 4), some (.ref 33)]) (st' := []) (h' := zH (zui (g_M_copy 4 5 6 7 33 34 35 36 (zui I 19 1 4)) 19 1 (((g_M_copy 4 5 6 7 33 34 35 36 (zui I 19 1 4)) 19 1) - 1)) (zPr 0)) 1 rfl ?_
  refine wp_blk (pc' := 33) (L' := [some (.ref 19), some (.ref 4), some (.ref 33)]) (st' := [.int 1]) (h' := zH (zui (g_M_copy 4 5 6 7 33 34 35 36 (zui I 19 1 4)) 19 1 (((g_M_copy 4 5 6 7 33 34 35 36 (zui I 19 1 4)) 19 1) - 1)) (zPr 0)) 1 rfl ?_
  exact wp_end rfl rfl ⟨rfl, rfl⟩
set_option maxRecDepth 100000 in
theorem sp_put19_0_5 {X : Nat × (Nat → Int32)} (I : Nat → Nat → Int32) : Wf X 65 [some (.ref 19), some (.ref 4), none] (zH (zui I 19 1 5) (zPr 0)) none (zH (zui (g_M_copy 41 42 43 44 4 5 6 7 (zui I 19 1 5)) 19 1 (((g_M_copy 41 42 43 44 4 5 6 7 (zui I 19 1 5)) 19 1) + 1)) (zPr 0)) := by
  unfold Wf
  refine wp_blk (pc' := 1) (L' := [some (.ref 19), some (.ref 4), none]) (st' := [.ref 19]) (h' := zH (zui I 19 1 5) (zPr 0)) 1 rfl ?_
  refine wp_callf (d := 66) (as := [.ref 19]) (rest := []) (Ld := [some (.ref 19)]) (pc' := 4) (st' := [.int 0]) (r := some (.int 0)) (h1 := zH (zui I 19 1 5) (zPr 0)) rfl rfl rfl rfl rfl rfl rfl rfl rfl (sp_H1_isFull (X := X) (zui I 19 1 5) (zPr 0)) ?_
  refine wp_blk (pc' := 11) (L' := [some (.ref 19), some (.ref 4), none]) (st' := []) (h' := zH (zui I 19 1 5) (zPr 0)) 1 rfl ?_
  refine wp_blk (pc' := 12) (L' := [some (.ref 19), some (.ref 4), none]) (st' := [.ref 19]) (h' := zH (zui I 19 1 5) (zPr 0)) 1 rfl ?_
  refine wp_blk (pc' := 13) (L' := [some (.ref 19), some (.ref 4), none]) (st' := [.ref 19, .ref 19]) (h' := zH (zui I 19 1 5) (zPr 0)) 1 rfl ?_
  refine wp_blk (pc' := 16) (L' := [some (.ref 19), some (.ref 4), none]) (st' := [.int 5, .ref 19]) (h' := zH (zui I 19 1 5) (zPr 0)) 1 rfl ?_
  refine wp_callf (d := 68) (as := [.ref 19, .int 5]) (rest := []) (Ld := [some (.ref 19), some (.int 5)]) (pc' := 19) (st' := [.ref 41]) (r := some (.ref 41)) (h1 := zH (zui I 19 1 5) (zPr 0)) rfl rfl rfl rfl rfl rfl rfl rfl rfl (sp_at19_0_5 (X := X) (zui I 19 1 5)) ?_
  refine wp_blk (pc' := 20) (L' := [some (.ref 19), some (.ref 4), some (.ref 41)]) (st' := []) (h' := zH (zui I 19 1 5) (zPr 0)) 1 rfl ?_
  refine wp_blk (pc' := 21) (L' := [some (.ref 19), some (.ref 4), some (.ref 41)]) (st' := [.ref 41]) (h' := zH (zui I 19 1 5) (zPr 0)) 1 rfl ?_
  refine wp_blk (pc' := 24) (L' := [some (.ref 19), some (.ref 4), some (.ref 41)]) (st' := []) (h' := zH (zui I 19 1 5) (zPr 0)) 1 rfl ?_
  refine wp_blk (pc' := 25) (L' := [some (.ref 19), some (.ref 4), some (.ref 41)]) (st' := [.ref 41]) (h' := zH (zui I 19 1 5) (zPr 0)) 1 rfl ?_
  refine wp_blk (pc' := 26) (L' := [some (.ref 19), some (.ref 4), some (.ref 41)]) (st' := [.ref 4, .ref 41]) (h' := zH (zui I 19 1 5) (zPr 0)) 1 rfl ?_
  refine wp_callf (d := 37) (as := [.ref 41, .ref 4]) (rest := []) (Ld := [some (.ref 41), some (.ref 4)]) (pc' := 29) (st' := []) (r := none) (h1 := zH (g_M_copy 41 42 43 44 4 5 6 7 (zui I 19 1 5)) (zPr 0)) rfl rfl rfl rfl rfl rfl rfl rfl rfl (xp_M_copy_41_4 _ _ (0, (g_M_copy 41 42 43 44 4 5 6 7 (zui I 19 1 5))) rfl) ?_
  refine wp_blk (pc' := 30) (L' := [some (.ref 19), some (.ref 4), some (.ref 41)]) (st' := [.ref 19]) (h' := zH (g_M_copy 41 42 43 44 4 5 6 7 (zui I 19 1 5)) (zPr 0)) 1 rfl ?_
  refine wp_blk (pc' := 31) (L' := [some (.ref 19), some (.ref 4), some (.ref 41)]) (st' := [.ref 19, .ref 19]) (h' := zH (g_M_copy 41 42 43 44 4 5 6 7 (zui I 19 1 5)) (zPr 0)) 1 rfl ?_
  refine wp_blk (pc' := 34) (L' := [some (.ref 19), some (.ref 4), some (.ref 41)]) (st' := [.int ((g_M_copy 41 42 43 44 4 5 6 7 (zui I 19 1 5)) 19 1), .ref 19]) (h' := zH (g_M_copy 41 42 43 44 4 5 6 7 (zui I 19 1 5)) (zPr 0)) 1 rfl ?_
  refine wp_blk (pc' := 35) (L' := [some (.ref 19), some (.ref 4), some (.ref 41)]) (st' := [.int 1, .int ((g_M_copy 41 42 43 44 4 5 6 7 (zui I 19 1 5)) 19 1), .ref 19]) (h' := zH (g_M_copy 41 42 43 44 4 5 6 7 (zui I 19 1 5)) (zPr 0)) 1 rfl ?_
  refine wp_blk (pc' := 36) (L' := [some (.ref 19), some (.ref 4), some (.ref 41)]) (st' := [.int (((g_M_copy 41 42 43 44 4 5 6 7 (zui I 19 1 5)) 19 1) + 1), .ref 19]) (h' := zH (g_M_copy 41 42 43 44 4 5 6 7 (zui I 19 1 5)) (zPr 0)) 1 rfl ?_
  refine wp_blk (pc' := 39) (L' := [some (.ref 19), some (.ref 4), some (.ref 41)]) (st' := []) (h' := zH (zui (g_M_copy 41 42 43 44 4 5 6 7 (zui I 19 1 5)) 19 1 (((g_M_copy 41 42 43 44 4 5 6 7 (zui I 19 1 5)) 19 1) + 1)) (zPr 0)) 1 rfl ?_
  exact wp_end rfl rfl ⟨rfl, rfl⟩
set_option maxRecDepth 100000 in
theorem sp_take19_0_5 {X : Nat × (Nat → Int32)} (I : Nat → Nat → Int32) : Wf X 79 [some (.ref 19), some (.ref 4), none] (zH (zui I 19 1 5) (zPr 0)) (some (.int 1)) (zH (zui (g_M_copy 4 5 6 7 37 38 39 40 (zui I 19 1 5)) 19 1 (((g_M_copy 4 5 6 7 37 38 39 40 (zui I 19 1 5)) 19 1) - 1)) (zPr 0)) := by
  unfold Wf
  refine wp_blk (pc' := 1) (L' := [some (.ref 19), some (.ref 4), none]) (st' := [.ref 19]) (h' := zH (zui I 19 1 5) (zPr 0)) 1 rfl ?_
  refine wp_blk (pc' := 2) (L' := [some (.ref 19), some (.ref 4), none]) (st' := [.ref 19, .ref 19]) (h' := zH (zui I 19 1 5) (zPr 0)) 1 rfl ?_
  refine wp_blk (pc' := 5) (L' := [some (.ref 19), some (.ref 4), none]) (st' := [.int 5, .ref 19]) (h' := zH (zui I 19 1 5) (zPr 0)) 1 rfl ?_
  refine wp_blk (pc' := 6) (L' := [some (.ref 19), some (.ref 4), none]) (st' := [.int 1, .int 5, .ref 19]) (h' := zH (zui I 19 1 5) (zPr 0)) 1 rfl ?_
  refine wp_blk (pc' := 7) (L' := [some (.ref 19), some (.ref 4), none]) (st' := [.int 4, .ref 19]) (h' := zH (zui I 19 1 5) (zPr 0)) 1 rfl ?_
  refine wp_callf (d := 68) (as := [.ref 19, .int 4]) (rest := []) (Ld := [some (.ref 19), some (.int 4)]) (pc' := 10) (st' := [.ref 37]) (r := some (.ref 37)) (h1 := zH (zui I 19 1 5) (zPr 0)) rfl rfl rfl rfl rfl rfl rfl rfl rfl (sp_at19_0_4 (X := X) (zui I 19 1 5)) ?_
  refine wp_blk (pc' := 11) (L' := [some (.ref 19), some (.ref 4), some (.ref 37)]) (st' := []) (h' := zH (zui I 19 1 5) (zPr 0)) 1 rfl ?_
  refine wp_blk (pc' := 12) (L' := [some (.ref 19), some (.ref 4), some (.ref 37)]) (st' := [.ref 37]) (h' := zH (zui I 19 1 5) (zPr 0)) 1 rfl ?_
  refine wp_blk (pc' := 17) (L' := [some (.ref 19), some (.ref 4), some (.ref 37)]) (st' := []) (h' := zH (zui I 19 1 5) (zPr 0)) 1 rfl ?_
  refine wp_blk (pc' := 18) (L' := [some (.ref 19), some (.ref 4), some (.ref 37)]) (st' := [.ref 4]) (h' := zH (zui I 19 1 5) (zPr 0)) 1 rfl ?_
  refine wp_blk (pc' := 19) (L' := [some (.ref 19), some (.ref 4), some (.ref 37)]) (st' := [.ref 37, .ref 4]) (h' := zH (zui I 19 1 5) (zPr 0)) 1 rfl ?_
  refine wp_callf (d := 37) (as := [.ref 4, .ref 37]) (rest := []) (Ld := [some (.ref 4), some (.ref 37)]) (pc' := 22) (st' := []) (r := none) (h1 := zH (g_M_copy 4 5 6 7 37 38 39 40 (zui I 19 1 5)) (zPr 0)) rfl rfl rfl rfl rfl rfl rfl rfl rfl (xp_M_copy_4_37 _ _ (0, (g_M_copy 4 5 6 7 37 38 39 40 (zui I 19 1 5))) rfl) ?_
  refine wp_blk (pc' := 23) (L' := [some (.ref 19), some (.ref 4), some (.ref 37)]) (st' := [.ref 19]) (h' := zH (g_M_copy 4 5 6 7 37 38 39 40 (zui I 19 1 5)) (zPr 0)) 1 rfl ?_
  refine wp_blk (pc' := 24) (L' := [some (.ref 19), some (.ref 4), some (.ref 37)]) (st' := [.ref 19, .ref 19]) (h' := zH (g_M_copy 4 5 6 7 37 38 39 40 (zui I 19 1 5)) (zPr 0)) 1 rfl ?_
  refine wp_blk (pc' := 27) (L' := [some (.ref 19), some (.ref 4), some (.ref 37)]) (st' := [.int ((g_M_copy 4 5 6 7 37 38 39 40 (zui I 19 1 5)) 19 1), .ref 19]) (h' := zH (g_M_copy 4 5 6 7 37 38 39 40 (zui I 19 1 5)) (zPr 0)) 1 rfl ?_
  refine wp_blk (pc' := 28) (L' := [some (.ref 19), some (.ref 4), some (.ref 37)]) (st' := [.int 1, .int ((g_M_copy 4 5 6 7 37 38 39 40 (zui I 19 1 5)) 19 1), .ref 19]) (h' := zH (g_M_copy 4 5 6 7 37 38 39 40 (zui I 19 1 5)) (zPr 0)) 1 rfl ?_
  refine wp_blk (pc' := 29) (L' := [some (.ref 19), some (.ref 4), some (.ref 37)]) (st' := [.int (((g_M_copy 4 5 6 7 37 38 39 40 (zui I 19 1 5)) 19 1) - 1), .ref 19]) (h' := zH (g_M_copy 4 5 6 7 37 38 39 40 (zui I 19 1 5)) (zPr 0)) 1 rfl ?_
  refine wp_blk (pc' := 32) (L' := [some (.ref 19), some (.ref 4), some (.ref 37)]) (st' := []) (h' := zH (zui (g_M_copy 4 5 6 7 37 38 39 40 (zui I 19 1 5)) 19 1 (((g_M_copy 4 5 6 7 37 38 39 40 (zui I 19 1 5)) 19 1) - 1)) (zPr 0)) 1 rfl ?_
  refine wp_blk (pc' := 33) (L' := [some (.ref 19), some (.ref 4), some (.ref 37)]) (st' := [.int 1]) (h' := zH (zui (g_M_copy 4 5 6 7 37 38 39 40 (zui I 19 1 5)) 19 1 (((g_M_copy 4 5 6 7 37 38 39 40 (zui I 19 1 5)) 19 1) - 1)) (zPr 0)) 1 rfl ?_
  exact wp_end rfl rfl ⟨rfl, rfl⟩
set_option maxRecDepth 100000 in
theorem sp_put19_0_6 {X : Nat × (Nat → Int32)} (I : Nat → Nat → Int32) : Wf X 65 [some (.ref 19), some (.ref 4), none] (zH (zui I 19 1 6) (zPr 0)) none (zH (zui (g_M_copy 45 46 47 48 4 5 6 7 (zui I 19 1 6)) 19 1 (((g_M_copy 45 46 47 48 4 5 6 7 (zui I 19 1 6)) 19 1) + 1)) (zPr 0)) := by
  unfold Wf
  refine wp_blk (pc' := 1) (L' := [some (.ref 19), some (.ref 4), none]) (st' := [.ref 19]) (h' := zH (zui I 19 1 6) (zPr 0)) 1 rfl ?_
  refine wp_callf (d := 66) (as := [.ref 19]) (rest := []) (Ld := [some (.ref 19)]) (pc' := 4) (st' := [.int 0]) (r := some (.int 0)) (h1 := zH (zui I 19 1 6) (zPr 0)) rfl rfl rfl rfl rfl rfl rfl rfl rfl (sp_H1_isFull (X := X) (zui I 19 1 6) (zPr 0)) ?_
  refine wp_blk (pc' := 11) (L' := [some (.ref 19), some (.ref 4), none]) (st' := []) (h' := zH (zui I 19 1 6) (zPr 0)) 1 rfl ?_
  refine wp_blk (pc' := 12) (L' := [some (.ref 19), some (.ref 4), none]) (st' := [.ref 19]) (h' := zH (zui I 19 1 6) (zPr 0)) 1 rfl ?_
  refine wp_blk (pc' := 13) (L' := [some (.ref 19), some (.ref 4), none]) (st' := [.ref 19, .ref 19]) (h' := zH (zui I 19 1 6) (zPr 0)) 1 rfl ?_
  refine wp_blk (pc' := 16) (L' := [some (.ref 19), some (.ref 4), none]) (st' := [.int 6, .ref 19]) (h' := zH (zui I 19 1 6) (zPr 0)) 1 rfl ?_
  refine wp_callf (d := 68) (as := [.ref 19, .int 6]) (rest := []) (Ld := [some (.ref 19), some (.int 6)]) (pc' := 19) (st' := [.ref 45]) (r := some (.ref 45)) (h1 := zH (zui I 19 1 6) (zPr 0)) rfl rfl rfl rfl rfl rfl rfl rfl rfl (sp_at19_0_6 (X := X) (zui I 19 1 6)) ?_
  refine wp_blk (pc' := 20) (L' := [some (.ref 19), some (.ref 4), some (.ref 45)]) (st' := []) (h' := zH (zui I 19 1 6) (zPr 0)) 1 rfl ?_
  refine wp_blk (pc' := 21) (L' := [some (.ref 19), some (.ref 4), some (.ref 45)]) (st' := [.ref 45]) (h' := zH (zui I 19 1 6) (zPr 0)) 1 rfl ?_
  refine wp_blk (pc' := 24) (L' := [some (.ref 19), some (.ref 4), some (.ref 45)]) (st' := []) (h' := zH (zui I 19 1 6) (zPr 0)) 1 rfl ?_
  refine wp_blk (pc' := 25) (L' := [some (.ref 19), some (.ref 4), some (.ref 45)]) (st' := [.ref 45]) (h' := zH (zui I 19 1 6) (zPr 0)) 1 rfl ?_
  refine wp_blk (pc' := 26) (L' := [some (.ref 19), some (.ref 4), some (.ref 45)]) (st' := [.ref 4, .ref 45]) (h' := zH (zui I 19 1 6) (zPr 0)) 1 rfl ?_
  refine wp_callf (d := 37) (as := [.ref 45, .ref 4]) (rest := []) (Ld := [some (.ref 45), some (.ref 4)]) (pc' := 29) (st' := []) (r := none) (h1 := zH (g_M_copy 45 46 47 48 4 5 6 7 (zui I 19 1 6)) (zPr 0)) rfl rfl rfl rfl rfl rfl rfl rfl rfl (xp_M_copy_45_4 _ _ (0, (g_M_copy 45 46 47 48 4 5 6 7 (zui I 19 1 6))) rfl) ?_
  refine wp_blk (pc' := 30) (L' := [some (.ref 19), some (.ref 4), some (.ref 45)]) (st' := [.ref 19]) (h' := zH (g_M_copy 45 46 47 48 4 5 6 7 (zui I 19 1 6)) (zPr 0)) 1 rfl ?_
  refine wp_blk (pc' := 31) (L' := [some (.ref 19), some (.ref 4), some (.ref 45)]) (st' := [.ref 19, .ref 19]) (h' := zH (g_M_copy 45 46 47 48 4 5 6 7 (zui I 19 1 6)) (zPr 0)) 1 rfl ?_
  refine wp_blk (pc' := 34) (L' := [some (.ref 19), some (.ref 4), some (.ref 45)]) (st' := [.int ((g_M_copy 45 46 47 48 4 5 6 7 (zui I 19 1 6)) 19 1), .ref 19]) (h' := zH (g_M_copy 45 46 47 48 4 5 6 7 (zui I 19 1 6)) (zPr 0)) 1 rfl ?_
  refine wp_blk (pc' := 35) (L' := [some (.ref 19), some (.ref 4), some (.ref 45)]) (st' := [.int 1, .int ((g_M_copy 45 46 47 48 4 5 6 7 (zui I 19 1 6)) 19 1), .ref 19]) (h' := zH (g_M_copy 45 46 47 48 4 5 6 7 (zui I 19 1 6)) (zPr 0)) 1 rfl ?_
  refine wp_blk (pc' := 36) (L' := [some (.ref 19), some (.ref 4), some (.ref 45)]) (st' := [.int (((g_M_copy 45 46 47 48 4 5 6 7 (zui I 19 1 6)) 19 1) + 1), .ref 19]) (h' := zH (g_M_copy 45 46 47 48 4 5 6 7 (zui I 19 1 6)) (zPr 0)) 1 rfl ?_
  refine wp_blk (pc' := 39) (L' := [some (.ref 19), some (.ref 4), some (.ref 45)]) (st' := []) (h' := zH (zui (g_M_copy 45 46 47 48 4 5 6 7 (zui I 19 1 6)) 19 1 (((g_M_copy 45 46 47 48 4 5 6 7 (zui I 19 1 6)) 19 1) + 1)) (zPr 0)) 1 rfl ?_
  exact wp_end rfl rfl ⟨rfl, rfl⟩
set_option maxRecDepth 100000 in
theorem sp_take19_0_6 {X : Nat × (Nat → Int32)} (I : Nat → Nat → Int32) : Wf X 79 [some (.ref 19), some (.ref 4), none] (zH (zui I 19 1 6) (zPr 0)) (some (.int 1)) (zH (zui (g_M_copy 4 5 6 7 41 42 43 44 (zui I 19 1 6)) 19 1 (((g_M_copy 4 5 6 7 41 42 43 44 (zui I 19 1 6)) 19 1) - 1)) (zPr 0)) := by
  unfold Wf
  refine wp_blk (pc' := 1) (L' := [some (.ref 19), some (.ref 4), none]) (st' := [.ref 19]) (h' := zH (zui I 19 1 6) (zPr 0)) 1 rfl ?_
  refine wp_blk (pc' := 2) (L' := [some (.ref 19), some (.ref 4), none]) (st' := [.ref 19, .ref 19]) (h' := zH (zui I 19 1 6) (zPr 0)) 1 rfl ?_
  refine wp_blk (pc' := 5) (L' := [some (.ref 19), some (.ref 4), none]) (st' := [.int 6, .ref 19]) (h' := zH (zui I 19 1 6) (zPr 0)) 1 rfl ?_
  refine wp_blk (pc' := 6) (L' := [some (.ref 19), some (.ref 4), none]) (st' := [.int 1, .int 6, .ref 19]) (h' := zH (zui I 19 1 6) (zPr 0)) 1 rfl ?_
  refine wp_blk (pc' := 7) (L' := [some (.ref 19), some (.ref 4), none]) (st' := [.int 5, .ref 19]) (h' := zH (zui I 19 1 6) (zPr 0)) 1 rfl ?_
  refine wp_callf (d := 68) (as := [.ref 19, .int 5]) (rest := []) (Ld := [some (.ref 19), some (.int 5)]) (pc' := 10) (st' := [.ref 41]) (r := some (.ref 41)) (h1 := zH (zui I 19 1 6) (zPr 0)) rfl rfl rfl rfl rfl rfl rfl rfl rfl (sp_at19_0_5 (X := X) (zui I 19 1 6)) ?_
  refine wp_blk (pc' := 11) (L' := [some (.ref 19), some (.ref 4), some (.ref 41)]) (st' := []) (h' := zH (zui I 19 1 6) (zPr 0)) 1 rfl ?_
  refine wp_blk (pc' := 12) (L' := [some (.ref 19), some (.ref 4), some (.ref 41)]) (st' := [.ref 41]) (h' := zH (zui I 19 1 6) (zPr 0)) 1 rfl ?_
  refine wp_blk (pc' := 17) (L' := [some (.ref 19), some (.ref 4), some (.ref 41)]) (st' := []) (h' := zH (zui I 19 1 6) (zPr 0)) 1 rfl ?_
  refine wp_blk (pc' := 18) (L' := [some (.ref 19), some (.ref 4), some (.ref 41)]) (st' := [.ref 4]) (h' := zH (zui I 19 1 6) (zPr 0)) 1 rfl ?_
  refine wp_blk (pc' := 19) (L' := [some (.ref 19), some (.ref 4), some (.ref 41)]) (st' := [.ref 41, .ref 4]) (h' := zH (zui I 19 1 6) (zPr 0)) 1 rfl ?_
  refine wp_callf (d := 37) (as := [.ref 4, .ref 41]) (rest := []) (Ld := [some (.ref 4), some (.ref 41)]) (pc' := 22) (st' := []) (r := none) (h1 := zH (g_M_copy 4 5 6 7 41 42 43 44 (zui I 19 1 6)) (zPr 0)) rfl rfl rfl rfl rfl rfl rfl rfl rfl (xp_M_copy_4_41 _ _ (0, (g_M_copy 4 5 6 7 41 42 43 44 (zui I 19 1 6))) rfl) ?_
  refine wp_blk (pc' := 23) (L' := [some (.ref 19), some (.ref 4), some (.ref 41)]) (st' := [.ref 19]) (h' := zH (g_M_copy 4 5 6 7 41 42 43 44 (zui I 19 1 6)) (zPr 0)) 1 rfl ?_
  refine wp_blk (pc' := 24) (L' := [some (.ref 19), some (.ref 4), some (.ref 41)]) (st' := [.ref 19, .ref 19]) (h' := zH (g_M_copy 4 5 6 7 41 42 43 44 (zui I 19 1 6)) (zPr 0)) 1 rfl ?_
  refine wp_blk (pc' := 27) (L' := [some (.ref 19), some (.ref 4), some (.ref 41)]) (st' := [.int ((g_M_copy 4 5 6 7 41 42 43 44 (zui I 19 1 6)) 19 1), .ref 19]) (h' := zH (g_M_copy 4 5 6 7 41 42 43 44 (zui I 19 1 6)) (zPr 0)) 1 rfl ?_
  refine wp_blk (pc' := 28) (L' := [some (.ref 19), some (.ref 4), some (.ref 41)]) (st' := [.int 1, .int ((g_M_copy 4 5 6 7 41 42 43 44 (zui I 19 1 6)) 19 1), .ref 19]) (h' := zH (g_M_copy 4 5 6 7 41 42 43 44 (zui I 19 1 6)) (zPr 0)) 1 rfl ?_
  refine wp_blk (pc' := 29) (L' := [some (.ref 19), some (.ref 4), some (.ref 41)]) (st' := [.int (((g_M_copy 4 5 6 7 41 42 43 44 (zui I 19 1 6)) 19 1) - 1), .ref 19]) (h' := zH (g_M_copy 4 5 6 7 41 42 43 44 (zui I 19 1 6)) (zPr 0)) 1 rfl ?_
  refine wp_blk (pc' := 32) (L' := [some (.ref 19), some (.ref 4), some (.ref 41)]) (st' := []) (h' := zH (zui (g_M_copy 4 5 6 7 41 42 43 44 (zui I 19 1 6)) 19 1 (((g_M_copy 4 5 6 7 41 42 43 44 (zui I 19 1 6)) 19 1) - 1)) (zPr 0)) 1 rfl ?_
  refine wp_blk (pc' := 33) (L' := [some (.ref 19), some (.ref 4), some (.ref 41)]) (st' := [.int 1]) (h' := zH (zui (g_M_copy 4 5 6 7 41 42 43 44 (zui I 19 1 6)) 19 1 (((g_M_copy 4 5 6 7 41 42 43 44 (zui I 19 1 6)) 19 1) - 1)) (zPr 0)) 1 rfl ?_
  exact wp_end rfl rfl ⟨rfl, rfl⟩
set_option maxRecDepth 100000 in
theorem sp_put19_0_7 {X : Nat × (Nat → Int32)} (I : Nat → Nat → Int32) : Wf X 65 [some (.ref 19), some (.ref 4), none] (zH (zui I 19 1 7) (zPr 0)) none (zH (zui (g_M_copy 49 50 51 52 4 5 6 7 (zui I 19 1 7)) 19 1 (((g_M_copy 49 50 51 52 4 5 6 7 (zui I 19 1 7)) 19 1) + 1)) (zPr 0)) := by
  unfold Wf
  refine wp_blk (pc' := 1) (L' := [some (.ref 19), some (.ref 4), none]) (st' := [.ref 19]) (h' := zH (zui I 19 1 7) (zPr 0)) 1 rfl ?_
  refine wp_callf (d := 66) (as := [.ref 19]) (rest := []) (Ld := [some (.ref 19)]) (pc' := 4) (st' := [.int 0]) (r := some (.int 0)) (h1 := zH (zui I 19 1 7) (zPr 0)) rfl rfl rfl rfl rfl rfl rfl rfl rfl (sp_H1_isFull (X := X) (zui I 19 1 7) (zPr 0)) ?_
  refine wp_blk (pc' := 11) (L' := [some (.ref 19), some (.ref 4), none]) (st' := []) (h' := zH (zui I 19 1 7) (zPr 0)) 1 rfl ?_
  refine wp_blk (pc' := 12) (L' := [some (.ref 19), some (.ref 4), none]) (st' := [.ref 19]) (h' := zH (zui I 19 1 7) (zPr 0)) 1 rfl ?_
  refine wp_blk (pc' := 13) (L' := [some (.ref 19), some (.ref 4), none]) (st' := [.ref 19, .ref 19]) (h' := zH (zui I 19 1 7) (zPr 0)) 1 rfl ?_
  refine wp_blk (pc' := 16) (L' := [some (.ref 19), some (.ref 4), none]) (st' := [.int 7, .ref 19]) (h' := zH (zui I 19 1 7) (zPr 0)) 1 rfl ?_
  refine wp_callf (d := 68) (as := [.ref 19, .int 7]) (rest := []) (Ld := [some (.ref 19), some (.int 7)]) (pc' := 19) (st' := [.ref 49]) (r := some (.ref 49)) (h1 := zH (zui I 19 1 7) (zPr 0)) rfl rfl rfl rfl rfl rfl rfl rfl rfl (sp_at19_0_7 (X := X) (zui I 19 1 7)) ?_
  refine wp_blk (pc' := 20) (L' := [some (.ref 19), some (.ref 4), some (.ref 49)]) (st' := []) (h' := zH (zui I 19 1 7) (zPr 0)) 1 rfl ?_
  refine wp_blk (pc' := 21) (L' := [some (.ref 19), some (.ref 4), some (.ref 49)]) (st' := [.ref 49]) (h' := zH (zui I 19 1 7) (zPr 0)) 1 rfl ?_
  refine wp_blk (pc' := 24) (L' := [some (.ref 19), some (.ref 4), some (.ref 49)]) (st' := []) (h' := zH (zui I 19 1 7) (zPr 0)) 1 rfl ?_
  refine wp_blk (pc' := 25) (L' := [some (.ref 19), some (.ref 4), some (.ref 49)]) (st' := [.ref 49]) (h' := zH (zui I 19 1 7) (zPr 0)) 1 rfl ?_
  refine wp_blk (pc' := 26) (L' := [some (.ref 19), some (.ref 4), some (.ref 49)]) (st' := [.ref 4, .ref 49]) (h' := zH (zui I 19 1 7) (zPr 0)) 1 rfl ?_
  refine wp_callf (d := 37) (as := [.ref 49, .ref 4]) (rest := []) (Ld := [some (.ref 49), some (.ref 4)]) (pc' := 29) (st' := []) (r := none) (h1 := zH (g_M_copy 49 50 51 52 4 5 6 7 (zui I 19 1 7)) (zPr 0)) rfl rfl rfl rfl rfl rfl rfl rfl rfl (xp_M_copy_49_4 _ _ (0, (g_M_copy 49 50 51 52 4 5 6 7 (zui I 19 1 7))) rfl) ?_
  refine wp_blk (pc' := 30) (L' := [some (.ref 19), some (.ref 4), some (.ref 49)]) (st' := [.ref 19]) (h' := zH (g_M_copy 49 50 51 52 4 5 6 7 (zui I 19 1 7)) (zPr 0)) 1 rfl ?_
  refine wp_blk (pc' := 31) (L' := [some (.ref 19), some (.ref 4), some (.ref 49)]) (st' := [.ref 19, .ref 19]) (h' := zH (g_M_copy 49 50 51 52 4 5 6 7 (zui I 19 1 7)) (zPr 0)) 1 rfl ?_
  refine wp_blk (pc' := 34) (L' := [some (.ref 19), some (.ref 4), some (.ref 49)]) (st' := [.int ((g_M_copy 49 50 51 52 4 5 6 7 (zui I 19 1 7)) 19 1), .ref 19]) (h' := zH (g_M_copy 49 50 51 52 4 5 6 7 (zui I 19 1 7)) (zPr 0)) 1 rfl ?_
  refine wp_blk (pc' := 35) (L' := [some (.ref 19), some (.ref 4), some (.ref 49)]) (st' := [.int 1, .int ((g_M_copy 49 50 51 52 4 5 6 7 (zui I 19 1 7)) 19 1), .ref 19]) (h' := zH (g_M_copy 49 50 51 52 4 5 6 7 (zui I 19 1 7)) (zPr 0)) 1 rfl ?_
  refine wp_blk (pc' := 36) (L' := [some (.ref 19), some (.ref 4), some (.ref 49)]) (st' := [.int (((g_M_copy 49 50 51 52 4 5 6 7 (zui I 19 1 7)) 19 1) + 1), .ref 19]) (h' := zH (g_M_copy 49 50 51 52 4 5 6 7 (zui I 19 1 7)) (zPr 0)) 1 rfl ?_
  refine wp_blk (pc' := 39) (L' := [some (.ref 19), some (.ref 4), some (.ref 49)]) (st' := []) (h' := zH (zui (g_M_copy 49 50 51 52 4 5 6 7 (zui I 19 1 7)) 19 1 (((g_M_copy 49 50 51 52 4 5 6 7 (zui I 19 1 7)) 19 1) + 1)) (zPr 0)) 1 rfl ?_
  exact wp_end rfl rfl ⟨rfl, rfl⟩
set_option maxRecDepth 100000 in
theorem sp_take19_0_7 {X : Nat × (Nat → Int32)} (I : Nat → Nat → Int32) : Wf X 79 [some (.ref 19), some (.ref 4), none] (zH (zui I 19 1 7) (zPr 0)) (some (.int 1)) (zH (zui (g_M_copy 4 5 6 7 45 46 47 48 (zui I 19 1 7)) 19 1 (((g_M_copy 4 5 6 7 45 46 47 48 (zui I 19 1 7)) 19 1) - 1)) (zPr 0)) := by
  unfold Wf
  refine wp_blk (pc' := 1) (L' := [some (.ref 19), some (.ref 4), none]) (st' := [.ref 19]) (h' := zH (zui I 19 1 7) (zPr 0)) 1 rfl ?_
  refine wp_blk (pc' := 2) (L' := [some (.ref 19), some (.ref 4), none]) (st' := [.ref 19, .ref 19]) (h' := zH (zui I 19 1 7) (zPr 0)) 1 rfl ?_
  refine wp_blk (pc' := 5) (L' := [some (.ref 19), some (.ref 4), none]) (st' := [.int 7, .ref 19]) (h' := zH (zui I 19 1 7) (zPr 0)) 1 rfl ?_
  refine wp_blk (pc' := 6) (L' := [some (.ref 19), some (.ref 4), none]) (st' := [.int 1, .int 7, .ref 19]) (h' := zH (zui I 19 1 7) (zPr 0)) 1 rfl ?_
  refine wp_blk (pc' := 7) (L' := [some (.ref 19), some (.ref 4), none]) (st' := [.int 6, .ref 19]) (h' := zH (zui I 19 1 7) (zPr 0)) 1 rfl ?_
  refine wp_callf (d := 68) (as := [.ref 19, .int 6]) (rest := []) (Ld := [some (.ref 19), some (.int 6)]) (pc' := 10) (st' := [.ref 45]) (r := some (.ref 45)) (h1 := zH (zui I 19 1 7) (zPr 0)) rfl rfl rfl rfl rfl rfl rfl rfl rfl (sp_at19_0_6 (X := X) (zui I 19 1 7)) ?_
  refine wp_blk (pc' := 11) (L' := [some (.ref 19), some (.ref 4), some (.ref 45)]) (st' := []) (h' := zH (zui I 19 1 7) (zPr 0)) 1 rfl ?_
  refine wp_blk (pc' := 12) (L' := [some (.ref 19), some (.ref 4), some (.ref 45)]) (st' := [.ref 45]) (h' := zH (zui I 19 1 7) (zPr 0)) 1 rfl ?_
  refine wp_blk (pc' := 17) (L' := [some (.ref 19), some (.ref 4), some (.ref 45)]) (st' := []) (h' := zH (zui I 19 1 7) (zPr 0)) 1 rfl ?_
  refine wp_blk (pc' := 18) (L' := [some (.ref 19), some (.ref 4), some (.ref 45)]) (st' := [.ref 4]) (h' := zH (zui I 19 1 7) (zPr 0)) 1 rfl ?_
  refine wp_blk (pc' := 19) (L' := [some (.ref 19), some (.ref 4), some (.ref 45)]) (st' := [.ref 45, .ref 4]) (h' := zH (zui I 19 1 7) (zPr 0)) 1 rfl ?_
  refine wp_callf (d := 37) (as := [.ref 4, .ref 45]) (rest := []) (Ld := [some (.ref 4), some (.ref 45)]) (pc' := 22) (st' := []) (r := none) (h1 := zH (g_M_copy 4 5 6 7 45 46 47 48 (zui I 19 1 7)) (zPr 0)) rfl rfl rfl rfl rfl rfl rfl rfl rfl (xp_M_copy_4_45 _ _ (0, (g_M_copy 4 5 6 7 45 46 47 48 (zui I 19 1 7))) rfl) ?_
  refine wp_blk (pc' := 23) (L' := [some (.ref 19), some (.ref 4), some (.ref 45)]) (st' := [.ref 19]) (h' := zH (g_M_copy 4 5 6 7 45 46 47 48 (zui I 19 1 7)) (zPr 0)) 1 rfl ?_
  refine wp_blk (pc' := 24) (L' := [some (.ref 19), some (.ref 4), some (.ref 45)]) (st' := [.ref 19, .ref 19]) (h' := zH (g_M_copy 4 5 6 7 45 46 47 48 (zui I 19 1 7)) (zPr 0)) 1 rfl ?_
  refine wp_blk (pc' := 27) (L' := [some (.ref 19), some (.ref 4), some (.ref 45)]) (st' := [.int ((g_M_copy 4 5 6 7 45 46 47 48 (zui I 19 1 7)) 19 1), .ref 19]) (h' := zH (g_M_copy 4 5 6 7 45 46 47 48 (zui I 19 1 7)) (zPr 0)) 1 rfl ?_
  refine wp_blk (pc' := 28) (L' := [some (.ref 19), some (.ref 4), some (.ref 45)]) (st' := [.int 1, .int ((g_M_copy 4 5 6 7 45 46 47 48 (zui I 19 1 7)) 19 1), .ref 19]) (h' := zH (g_M_copy 4 5 6 7 45 46 47 48 (zui I 19 1 7)) (zPr 0)) 1 rfl ?_
  refine wp_blk (pc' := 29) (L' := [some (.ref 19), some (.ref 4), some (.ref 45)]) (st' := [.int (((g_M_copy 4 5 6 7 45 46 47 48 (zui I 19 1 7)) 19 1) - 1), .ref 19]) (h' := zH (g_M_copy 4 5 6 7 45 46 47 48 (zui I 19 1 7)) (zPr 0)) 1 rfl ?_
  refine wp_blk (pc' := 32) (L' := [some (.ref 19), some (.ref 4), some (.ref 45)]) (st' := []) (h' := zH (zui (g_M_copy 4 5 6 7 45 46 47 48 (zui I 19 1 7)) 19 1 (((g_M_copy 4 5 6 7 45 46 47 48 (zui I 19 1 7)) 19 1) - 1)) (zPr 0)) 1 rfl ?_
  refine wp_blk (pc' := 33) (L' := [some (.ref 19), some (.ref 4), some (.ref 45)]) (st' := [.int 1]) (h' := zH (zui (g_M_copy 4 5 6 7 45 46 47 48 (zui I 19 1 7)) 19 1 (((g_M_copy 4 5 6 7 45 46 47 48 (zui I 19 1 7)) 19 1) - 1)) (zPr 0)) 1 rfl ?_
  exact wp_end rfl rfl ⟨rfl, rfl⟩
set_option maxRecDepth 100000 in
theorem sp_put19_0_8 {X : Nat × (Nat → Int32)} (I : Nat → Nat → Int32) : Wf X 65 [some (.ref 19), some (.ref 4), none] (zH (zui I 19 1 8) (zPr 0)) none (zH (zui (g_M_copy 21 22 23 24 4 5 6 7 (zui (zui I 19 1 8) 19 1 7)) 19 1 (((g_M_copy 21 22 23 24 4 5 6 7 (zui (zui I 19 1 8) 19 1 7)) 19 1) + 1)) (zPr 1)) := by
  unfold Wf
  refine wp_blk (pc' := 1) (L' := [some (.ref 19), some (.ref 4), none]) (st' := [.ref 19]) (h' := zH (zui I 19 1 8) (zPr 0)) 1 rfl ?_
  refine wp_callf (d := 66) (as := [.ref 19]) (rest := []) (Ld := [some (.ref 19)]) (pc' := 4) (st' := [.int 1]) (r := some (.int 1)) (h1 := zH (zui I 19 1 8) (zPr 0)) rfl rfl rfl rfl rfl rfl rfl rfl rfl (sp_H1_isFull (X := X) (zui I 19 1 8) (zPr 0)) ?_
  refine wp_blk (pc' := 7) (L' := [some (.ref 19), some (.ref 4), none]) (st' := []) (h' := zH (zui I 19 1 8) (zPr 0)) 1 rfl ?_
  refine wp_blk (pc' := 8) (L' := [some (.ref 19), some (.ref 4), none]) (st' := [.ref 19]) (h' := zH (zui I 19 1 8) (zPr 0)) 1 rfl ?_
  refine wp_callf (d := 67) (as := [.ref 19]) (rest := []) (Ld := [some (.ref 19), none, none]) (pc' := 11) (st' := []) (r := none) (h1 := zH (zui (zui I 19 1 8) 19 1 7) (zPr 1)) rfl rfl rfl rfl rfl rfl rfl rfl rfl (sp_drop_0 (X := X) (zui I 19 1 8)) ?_
  refine wp_blk (pc' := 12) (L' := [some (.ref 19), some (.ref 4), none]) (st' := [.ref 19]) (h' := zH (zui (zui I 19 1 8) 19 1 7) (zPr 1)) 1 rfl ?_
  refine wp_blk (pc' := 13) (L' := [some (.ref 19), some (.ref 4), none]) (st' := [.ref 19, .ref 19]) (h' := zH (zui (zui I 19 1 8) 19 1 7) (zPr 1)) 1 rfl ?_
  refine wp_blk (pc' := 16) (L' := [some (.ref 19), some (.ref 4), none]) (st' := [.int 7, .ref 19]) (h' := zH (zui (zui I 19 1 8) 19 1 7) (zPr 1)) 1 rfl ?_
  refine wp_callf (d := 68) (as := [.ref 19, .int 7]) (rest := []) (Ld := [some (.ref 19), some (.int 7)]) (pc' := 19) (st' := [.ref 21]) (r := some (.ref 21)) (h1 := zH (zui (zui I 19 1 8) 19 1 7) (zPr 1)) rfl rfl rfl rfl rfl rfl rfl rfl rfl (sp_at19_1_7 (X := X) (zui (zui I 19 1 8) 19 1 7)) ?_
  refine wp_blk (pc' := 20) (L' := [some (.ref 19), some (.ref 4), some (.ref 21)]) (st' := []) (h' := zH (zui (zui I 19 1 8) 19 1 7) (zPr 1)) 1 rfl ?_
  refine wp_blk (pc' := 21) (L' := [some (.ref 19), some (.ref 4), some (.ref 21)]) (st' := [.ref 21]) (h' := zH (zui (zui I 19 1 8) 19 1 7) (zPr 1)) 1 rfl ?_
  refine wp_blk (pc' := 24) (L' := [some (.ref 19), some (.ref 4), some (.ref 21)]) (st' := []) (h' := zH (zui (zui I 19 1 8) 19 1 7) (zPr 1)) 1 rfl ?_
  refine wp_blk (pc' := 25) (L' := [some (.ref 19), some (.ref 4), some (.ref 21)]) (st' := [.ref 21]) (h' := zH (zui (zui I 19 1 8) 19 1 7) (zPr 1)) 1 rfl ?_
  refine wp_blk (pc' := 26) (L' := [some (.ref 19), some (.ref 4), some (.ref 21)]) (st' := [.ref 4, .ref 21]) (h' := zH (zui (zui I 19 1 8) 19 1 7) (zPr 1)) 1 rfl ?_
  refine wp_callf (d := 37) (as := [.ref 21, .ref 4]) (rest := []) (Ld := [some (.ref 21), some (.ref 4)]) (pc' := 29) (st' := []) (r := none) (h1 := zH (g_M_copy 21 22 23 24 4 5 6 7 (zui (zui I 19 1 8) 19 1 7)) (zPr 1)) rfl rfl rfl rfl rfl rfl rfl rfl rfl (xp_M_copy_21_4 _ _ (0, (g_M_copy 21 22 23 24 4 5 6 7 (zui (zui I 19 1 8) 19 1 7))) rfl) ?_
  refine wp_blk (pc' := 30) (L' := [some (.ref 19), some (.ref 4), some (.ref 21)]) (st' := [.ref 19]) (h' := zH (g_M_copy 21 22 23 24 4 5 6 7 (zui (zui I 19 1 8) 19 1 7)) (zPr 1)) 1 rfl ?_
  refine wp_blk (pc' := 31) (L' := [some (.ref 19), some (.ref 4), some (.ref 21)]) (st' := [.ref 19, .ref 19]) (h' := zH (g_M_copy 21 22 23 24 4 5 6 7 (zui (zui I 19 1 8) 19 1 7)) (zPr 1)) 1 rfl ?_
  refine wp_blk (pc' := 34) (L' := [some (.ref 19), some (.ref 4), some (.ref 21)]) (st' := [.int ((g_M_copy 21 22 23 24 4 5 6 7 (zui (zui I 19 1 8) 19 1 7)) 19 1), .ref 19]) (h' := zH (g_M_copy 21 22 23 24 4 5 6 7 (zui (zui I 19 1 8) 19 1 7)) (zPr 1)) 1 rfl ?_
  refine wp_blk (pc' := 35) (L' := [some (.ref 19), some (.ref 4), some (.ref 21)]) (st' := [.int 1, .int ((g_M_copy 21 22 23 24 4 5 6 7 (zui (zui I 19 1 8) 19 1 7)) 19 1), .ref 19]) (h' := zH (g_M_copy 21 22 23 24 4 5 6 7 (zui (zui I 19 1 8) 19 1 7)) (zPr 1)) 1 rfl ?_
  refine wp_blk (pc' := 36) (L' := [some (.ref 19), some (.ref 4), some (.ref 21)]) (st' := [.int (((g_M_copy 21 22 23 24 4 5 6 7 (zui (zui I 19 1 8) 19 1 7)) 19 1) + 1), .ref 19]) (h' := zH (g_M_copy 21 22 23 24 4 5 6 7 (zui (zui I 19 1 8) 19 1 7)) (zPr 1)) 1 rfl ?_
  refine wp_blk (pc' := 39) (L' := [some (.ref 19), some (.ref 4), some (.ref 21)]) (st' := []) (h' := zH (zui (g_M_copy 21 22 23 24 4 5 6 7 (zui (zui I 19 1 8) 19 1 7)) 19 1 (((g_M_copy 21 22 23 24 4 5 6 7 (zui (zui I 19 1 8) 19 1 7)) 19 1) + 1)) (zPr 1)) 1 rfl ?_
  exact wp_end rfl rfl ⟨rfl, rfl⟩
set_option maxRecDepth 100000 in
theorem sp_take19_0_8 {X : Nat × (Nat → Int32)} (I : Nat → Nat → Int32) : Wf X 79 [some (.ref 19), some (.ref 4), none] (zH (zui I 19 1 8) (zPr 0)) (some (.int 1)) (zH (zui (g_M_copy 4 5 6 7 49 50 51 52 (zui I 19 1 8)) 19 1 (((g_M_copy 4 5 6 7 49 50 51 52 (zui I 19 1 8)) 19 1) - 1)) (zPr 0)) := by
  unfold Wf
  refine wp_blk (pc' := 1) (L' := [some (.ref 19), some (.ref 4), none]) (st' := [.ref 19]) (h' := zH (zui I 19 1 8) (zPr 0)) 1 rfl ?_
  refine wp_blk (pc' := 2) (L' := [some (.ref 19), some (.ref 4), none]) (st' := [.ref 19, .ref 19]) (h' := zH (zui I 19 1 8) (zPr 0)) 1 rfl ?_
  refine wp_blk (pc' := 5) (L' := [some (.ref 19), some (.ref 4), none]) (st' := [.int 8, .ref 19]) (h' := zH (zui I 19 1 8) (zPr 0)) 1 rfl ?_
  refine wp_blk (pc' := 6) (L' := [some (.ref 19), some (.ref 4), none]) (st' := [.int 1, .int 8, .ref 19]) (h' := zH (zui I 19 1 8) (zPr 0)) 1 rfl ?_
  refine wp_blk (pc' := 7) (L' := [some (.ref 19), some (.ref 4), none]) (st' := [.int 7, .ref 19]) (h' := zH (zui I 19 1 8) (zPr 0)) 1 rfl ?_
  refine wp_callf (d := 68) (as := [.ref 19, .int 7]) (rest := []) (Ld := [some (.ref 19), some (.int 7)]) (pc' := 10) (st' := [.ref 49]) (r := some (.ref 49)) (h1 := zH (zui I 19 1 8) (zPr 0)) rfl rfl rfl rfl rfl rfl rfl rfl rfl (sp_at19_0_7 (X := X) (zui I 19 1 8)) ?_
  refine wp_blk (pc' := 11) (L' := [some (.ref 19), some (.ref 4), some (.ref 49)]) (st' := []) (h' := zH (zui I 19 1 8) (zPr 0)) 1 rfl ?_
  refine wp_blk (pc' := 12) (L' := [some (.ref 19), some (.ref 4), some (.ref 49)]) (st' := [.ref 49]) (h' := zH (zui I 19 1 8) (zPr 0)) 1 rfl ?_
  refine wp_blk (pc' := 17) (L' := [some (.ref 19), some (.ref 4), some (.ref 49)]) (st' := []) (h' := zH (zui I 19 1 8) (zPr 0)) 1 rfl ?_
  refine wp_blk (pc' := 18) (L' := [some (.ref 19), some (.ref 4), some (.ref 49)]) (st' := [.ref 4]) (h' := zH (zui I 19 1 8) (zPr 0)) 1 rfl ?_
  refine wp_blk (pc' := 19) (L' := [some (.ref 19), some (.ref 4), some (.ref 49)]) (st' := [.ref 49, .ref 4]) (h' := zH (zui I 19 1 8) (zPr 0)) 1 rfl ?_
  refine wp_callf (d := 37) (as := [.ref 4, .ref 49]) (rest := []) (Ld := [some (.ref 4), some (.ref 49)]) (pc' := 22) (st' := []) (r := none) (h1 := zH (g_M_copy 4 5 6 7 49 50 51 52 (zui I 19 1 8)) (zPr 0)) rfl rfl rfl rfl rfl rfl rfl rfl rfl (xp_M_copy_4_49 _ _ (0, (g_M_copy 4 5 6 7 49 50 51 52 (zui I 19 1 8))) rfl) ?_
  refine wp_blk (pc' := 23) (L' := [some (.ref 19), some (.ref 4), some (.ref 49)]) (st' := [.ref 19]) (h' := zH (g_M_copy 4 5 6 7 49 50 51 52 (zui I 19 1 8)) (zPr 0)) 1 rfl ?_
  refine wp_blk (pc' := 24) (L' := [some (.ref 19), some (.ref 4), some (.ref 49)]) (st' := [.ref 19, .ref 19]) (h' := zH (g_M_copy 4 5 6 7 49 50 51 52 (zui I 19 1 8)) (zPr 0)) 1 rfl ?_
  refine wp_blk (pc' := 27) (L' := [some (.ref 19), some (.ref 4), some (.ref 49)]) (st' := [.int ((g_M_copy 4 5 6 7 49 50 51 52 (zui I 19 1 8)) 19 1), .ref 19]) (h' := zH (g_M_copy 4 5 6 7 49 50 51 52 (zui I 19 1 8)) (zPr 0)) 1 rfl ?_
  refine wp_blk (pc' := 28) (L' := [some (.ref 19), some (.ref 4), some (.ref 49)]) (st' := [.int 1, .int ((g_M_copy 4 5 6 7 49 50 51 52 (zui I 19 1 8)) 19 1), .ref 19]) (h' := zH (g_M_copy 4 5 6 7 49 50 51 52 (zui I 19 1 8)) (zPr 0)) 1 rfl ?_
  refine wp_blk (pc' := 29) (L' := [some (.ref 19), some (.ref 4), some (.ref 49)]) (st' := [.int (((g_M_copy 4 5 6 7 49 50 51 52 (zui I 19 1 8)) 19 1) - 1), .ref 19]) (h' := zH (g_M_copy 4 5 6 7 49 50 51 52 (zui I 19 1 8)) (zPr 0)) 1 rfl ?_
  refine wp_blk (pc' := 32) (L' := [some (.ref 19), some (.ref 4), some (.ref 49)]) (st' := []) (h' := zH (zui (g_M_copy 4 5 6 7 49 50 51 52 (zui I 19 1 8)) 19 1 (((g_M_copy 4 5 6 7 49 50 51 52 (zui I 19 1 8)) 19 1) - 1)) (zPr 0)) 1 rfl ?_
  refine wp_blk (pc' := 33) (L' := [some (.ref 19), some (.ref 4), some (.ref 49)]) (st' := [.int 1]) (h' := zH (zui (g_M_copy 4 5 6 7 49 50 51 52 (zui I 19 1 8)) 19 1 (((g_M_copy 4 5 6 7 49 50 51 52 (zui I 19 1 8)) 19 1) - 1)) (zPr 0)) 1 rfl ?_
  exact wp_end rfl rfl ⟨rfl, rfl⟩
set_option maxRecDepth 100000 in
theorem sp_put19_1_0 {X : Nat × (Nat → Int32)} (I : Nat → Nat → Int32) : Wf X 65 [some (.ref 19), some (.ref 4), none] (zH (zui I 19 1 0) (zPr 1)) none (zH (zui (g_M_copy 25 26 27 28 4 5 6 7 (zui I 19 1 0)) 19 1 (((g_M_copy 25 26 27 28 4 5 6 7 (zui I 19 1 0)) 19 1) + 1)) (zPr 1)) := by
  unfold Wf
  refine wp_blk (pc' := 1) (L' := [some (.ref 19), some (.ref 4), none]) (st' := [.ref 19]) (h' := zH (zui I 19 1 0) (zPr 1)) 1 rfl ?_
  refine wp_callf (d := 66) (as := [.ref 19]) (rest := []) (Ld := [some (.ref 19)]) (pc' := 4) (st' := [.int 0]) (r := some (.int 0)) (h1 := zH (zui I 19 1 0) (zPr 1)) rfl rfl rfl rfl rfl rfl rfl rfl rfl (sp_H1_isFull (X := X) (zui I 19 1 0) (zPr 1)) ?_
  refine wp_blk (pc' := 11) (L' := [some (.ref 19), some (.ref 4), none]) (st' := []) (h' := zH (zui I 19 1 0) (zPr 1)) 1 rfl ?_
  refine wp_blk (pc' := 12) (L' := [some (.ref 19), some (.ref 4), none]) (st' := [.ref 19]) (h' := zH (zui I 19 1 0) (zPr 1)) 1 rfl ?_
  refine wp_blk (pc' := 13) (L' := [some (.ref 19), some (.ref 4), none]) (st' := [.ref 19, .ref 19]) (h' := zH (zui I 19 1 0) (zPr 1)) 1 rfl ?_
  refine wp_blk (pc' := 16) (L' := [some (.ref 19), some (.ref 4), none]) (st' := [.int 0, .ref 19]) (h' := zH (zui I 19 1 0) (zPr 1)) 1 rfl ?_
  refine wp_callf (d := 68) (as := [.ref 19, .int 0]) (rest := []) (Ld := [some (.ref 19), some (.int 0)]) (pc' := 19) (st' := [.ref 25]) (r := some (.ref 25)) (h1 := zH (zui I 19 1 0) (zPr 1)) rfl rfl rfl rfl rfl rfl rfl rfl rfl (sp_at19_1_0 (X := X) (zui I 19 1 0)) ?_
  refine wp_blk (pc' := 20) (L' := [some (.ref 19), some (.ref 4), some (.ref 25)]) (st' := []) (h' := zH (zui I 19 1 0) (zPr 1)) 1 rfl ?_
  refine wp_blk (pc' := 21) (L' := [some (.ref 19), some (.ref 4), some (.ref 25)]) (st' := [.ref 25]) (h' := zH (zui I 19 1 0) (zPr 1)) 1 rfl ?_
  refine wp_blk (pc' := 24) (L' := [some (.ref 19), some (.ref 4), some (.ref 25)]) (st' := []) (h' := zH (zui I 19 1 0) (zPr 1)) 1 rfl ?_
  refine wp_blk (pc' := 25) (L' := [some (.ref 19), some (.ref 4), some (.ref 25)]) (st' := [.ref 25]) (h' := zH (zui I 19 1 0) (zPr 1)) 1 rfl ?_
  refine wp_blk (pc' := 26) (L' := [some (.ref 19), some (.ref 4), some (.ref 25)]) (st' := [.ref 4, .ref 25]) (h' := zH (zui I 19 1 0) (zPr 1)) 1 rfl ?_
  refine wp_callf (d := 37) (as := [.ref 25, .ref 4]) (rest := []) (Ld := [some (.ref 25), some (.ref 4)]) (pc' := 29) (st' := []) (r := none) (h1 := zH (g_M_copy 25 26 27 28 4 5 6 7 (zui I 19 1 0)) (zPr 1)) rfl rfl rfl rfl rfl rfl rfl rfl rfl (xp_M_copy_25_4 _ _ (0, (g_M_copy 25 26 27 28 4 5 6 7 (zui I 19 1 0))) rfl) ?_
  refine wp_blk (pc' := 30) (L' := [some (.ref 19), some (.ref 4), some (.ref 25)]) (st' := [.ref 19]) (h' := zH (g_M_copy 25 26 27 28 4 5 6 7 (zui I 19 1 0)) (zPr 1)) 1 rfl ?_
  refine wp_blk (pc' := 31) (L' := [some (.ref 19), some (.ref 4), some (.ref 25)]) (st' := [.ref 19, .ref 19]) (h' := zH (g_M_copy 25 26 27 28 4 5 6 7 (zui I 19 1 0)) (zPr 1)) 1 rfl ?_
  refine wp_blk (pc' := 34) (L' := [some (.ref 19), some (.ref 4), some (.ref 25)]) (st' := [.int ((g_M_copy 25 26 27 28 4 5 6 7 (zui I 19 1 0)) 19 1), .ref 19]) (h' := zH (g_M_copy 25 26 27 28 4 5 6 7 (zui I 19 1 0)) (zPr 1)) 1 rfl ?_
  refine wp_blk (pc' := 35) (L' := [some (.ref 19), some (.ref 4), some (.ref 25)]) (st' := [.int 1, .int ((g_M_copy 25 26 27 28 4 5 6 7 (zui I 19 1 0)) 19 1), .ref 19]) (h' := zH (g_M_copy 25 26 27 28 4 5 6 7 (zui I 19 1 0)) (zPr 1)) 1 rfl ?_
  refine wp_blk (pc' := 36) (L' := [some (.ref 19), some (.ref 4), some (.ref 25)]) (st' := [.int (((g_M_copy 25 26 27 28 4 5 6 7 (zui I 19 1 0)) 19 1) + 1), .ref 19]) (h' := zH (g_M_copy 25 26 27 28 4 5 6 7 (zui I 19 1 0)) (zPr 1)) 1 rfl ?_
  refine wp_blk (pc' := 39) (L' := [some (.ref 19), some (.ref 4), some (.ref 25)]) (st' := []) (h' := zH (zui (g_M_copy 25 26 27 28 4 5 6 7 (zui I 19 1 0)) 19 1 (((g_M_copy 25 26 27 28 4 5 6 7 (zui I 19 1 0)) 19 1) + 1)) (zPr 1)) 1 rfl ?_
  exact wp_end rfl rfl ⟨rfl, rfl⟩
set_option maxRecDepth 100000 in
theorem sp_take19_1_0 {X : Nat × (Nat → Int32)} (I : Nat → Nat → Int32) : Wf X 79 [some (.ref 19), some (.ref 4), none] (zH (zui I 19 1 0) (zPr 1)) (some (.int 0)) (zH (zui I 19 1 0) (zPr 1)) := by
  unfold Wf
  refine wp_blk (pc' := 1) (L' := [some (.ref 19), some (.ref 4), none]) (st' := [.ref 19]) (h' := zH (zui I 19 1 0) (zPr 1)) 1 rfl ?_
  refine wp_blk (pc' := 2) (L' := [some (.ref 19), some (.ref 4), none]) (st' := [.ref 19, .ref 19]) (h' := zH (zui I 19 1 0) (zPr 1)) 1 rfl ?_
  refine wp_blk (pc' := 5) (L' := [some (.ref 19), some (.ref 4), none]) (st' := [.int 0, .ref 19]) (h' := zH (zui I 19 1 0) (zPr 1)) 1 rfl ?_
  refine wp_blk (pc' := 6) (L' := [some (.ref 19), some (.ref 4), none]) (st' := [.int 1, .int 0, .ref 19]) (h' := zH (zui I 19 1 0) (zPr 1)) 1 rfl ?_
  refine wp_blk (pc' := 7) (L' := [some (.ref 19), some (.ref 4), none]) (st' := [.int (-1), .ref 19]) (h' := zH (zui I 19 1 0) (zPr 1)) 1 rfl ?_
  refine wp_callf (d := 68) (as := [.ref 19, .int (-1)]) (rest := []) (Ld := [some (.ref 19), some (.int (-1))]) (pc' := 10) (st' := [.null]) (r := some (.null)) (h1 := zH (zui I 19 1 0) (zPr 1)) rfl rfl rfl rfl rfl rfl rfl rfl rfl (sp_at19_1_m (X := X) (zui I 19 1 0)) ?_
  refine wp_blk (pc' := 11) (L' := [some (.ref 19), some (.ref 4), some (.null)]) (st' := []) (h' := zH (zui I 19 1 0) (zPr 1)) 1 rfl ?_
  refine wp_blk (pc' := 12) (L' := [some (.ref 19), some (.ref 4), some (.null)]) (st' := [.null]) (h' := zH (zui I 19 1 0) (zPr 1)) 1 rfl ?_
  refine wp_blk (pc' := 15) (L' := [some (.ref 19), some (.ref 4), some (.null)]) (st' := []) (h' := zH (zui I 19 1 0) (zPr 1)) 1 rfl ?_
  refine wp_blk (pc' := 16) (L' := [some (.ref 19), some (.ref 4), some (.null)]) (st' := [.int 0]) (h' := zH (zui I 19 1 0) (zPr 1)) 1 rfl ?_
  exact wp_end rfl rfl ⟨rfl, rfl⟩
set_option maxRecDepth 100000 in
theorem sp_put19_1_1 {X : Nat × (Nat → Int32)} (I : Nat → Nat → Int32) : Wf X 65 [some (.ref 19), some (.ref 4), none] (zH (zui I 19 1 1) (zPr 1)) none (zH (zui (g_M_copy 29 30 31 32 4 5 6 7 (zui I 19 1 1)) 19 1 (((g_M_copy 29 30 31 32 4 5 6 7 (zui I 19 1 1)) 19 1) + 1)) (zPr 1)) := by
  unfold Wf
  refine wp_blk (pc' := 1) (L' := [some (.ref 19), some (.ref 4), none]) (st' := [.ref 19]) (h' := zH (zui I 19 1 1) (zPr 1)) 1 rfl ?_
  refine wp_callf (d := 66) (as := [.ref 19]) (rest := []) (Ld := [some (.ref 19)]) (pc' := 4) (st' := [.int 0]) (r := some (.int 0)) (h1 := zH (zui I 19 1 1) (zPr 1)) rfl rfl rfl rfl rfl rfl rfl rfl rfl (sp_H1_isFull (X := X) (zui I 19 1 1) (zPr 1)) ?_
  refine wp_blk (pc' := 11) (L' := [some (.ref 19), some (.ref 4), none]) (st' := []) (h' := zH (zui I 19 1 1) (zPr 1)) 1 rfl ?_
  refine wp_blk (pc' := 12) (L' := [some (.ref 19), some (.ref 4), none]) (st' := [.ref 19]) (h' := zH (zui I 19 1 1) (zPr 1)) 1 rfl ?_
  refine wp_blk (pc' := 13) (L' := [some (.ref 19), some (.ref 4), none]) (st' := [.ref 19, .ref 19]) (h' := zH (zui I 19 1 1) (zPr 1)) 1 rfl ?_
  refine wp_blk (pc' := 16) (L' := [some (.ref 19), some (.ref 4), none]) (st' := [.int 1, .ref 19]) (h' := zH (zui I 19 1 1) (zPr 1)) 1 rfl ?_
  refine wp_callf (d := 68) (as := [.ref 19, .int 1]) (rest := []) (Ld := [some (.ref 19), some (.int 1)]) (pc' := 19) (st' := [.ref 29]) (r := some (.ref 29)) (h1 := zH (zui I 19 1 1) (zPr 1)) rfl rfl rfl rfl rfl rfl rfl rfl rfl (sp_at19_1_1 (X := X) (zui I 19 1 1)) ?_
  refine wp_blk (pc' := 20) (L' := [some (.ref 19), some (.ref 4), some (.ref 29)]) (st' := []) (h' := zH (zui I 19 1 1) (zPr 1)) 1 rfl ?_
  refine wp_blk (pc' := 21) (L' := [some (.ref 19), some (.ref 4), some (.ref 29)]) (st' := [.ref 29]) (h' := zH (zui I 19 1 1) (zPr 1)) 1 rfl ?_
  refine wp_blk (pc' := 24) (L' := [some (.ref 19), some (.ref 4), some (.ref 29)]) (st' := []) (h' := zH (zui I 19 1 1) (zPr 1)) 1 rfl ?_
  refine wp_blk (pc' := 25) (L' := [some (.ref 19), some (.ref 4), some (.ref 29)]) (st' := [.ref 29]) (h' := zH (zui I 19 1 1) (zPr 1)) 1 rfl ?_
  refine wp_blk (pc' := 26) (L' := [some (.ref 19), some (.ref 4), some (.ref 29)]) (st' := [.ref 4, .ref 29]) (h' := zH (zui I 19 1 1) (zPr 1)) 1 rfl ?_
  refine wp_callf (d := 37) (as := [.ref 29, .ref 4]) (rest := []) (Ld := [some (.ref 29), some (.ref 4)]) (pc' := 29) (st' := []) (r := none) (h1 := zH (g_M_copy 29 30 31 32 4 5 6 7 (zui I 19 1 1)) (zPr 1)) rfl rfl rfl rfl rfl rfl rfl rfl rfl (xp_M_copy_29_4 _ _ (0, (g_M_copy 29 30 31 32 4 5 6 7 (zui I 19 1 1))) rfl) ?_
  refine wp_blk (pc' := 30) (L' := [some (.ref 19), some (.ref 4), some (.ref 29)]) (st' := [.ref 19]) (h' := zH (g_M_copy 29 30 31 32 4 5 6 7 (zui I 19 1 1)) (zPr 1)) 1 rfl ?_
  refine wp_blk (pc' := 31) (L' := [some (.ref 19), some (.ref 4), some (.ref 29)]) (st' := [.ref 19, .ref 19]) (h' := zH (g_M_copy 29 30 31 32 4 5 6 7 (zui I 19 1 1)) (zPr 1)) 1 rfl ?_
  refine wp_blk (pc' := 34) (L' := [some (.ref 19), some (.ref 4), some (.ref 29)]) (st' := [.int ((g_M_copy 29 30 31 32 4 5 6 7 (zui I 19 1 1)) 19 1), .ref 19]) (h' := zH (g_M_copy 29 30 31 32 4 5 6 7 (zui I 19 1 1)) (zPr 1)) 1 rfl ?_
  refine wp_blk (pc' := 35) (L' := [some (.ref 19), some (.ref 4), some (.ref 29)]) (st' := [.int 1, .int ((g_M_copy 29 30 31 32 4 5 6 7 (zui I 19 1 1)) 19 1), .ref 19]) (h' := zH (g_M_copy 29 30 31 32 4 5 6 7 (zui I 19 1 1)) (zPr 1)) 1 rfl ?_
  refine wp_blk (pc' := 36) (L' := [some (.ref 19), some (.ref 4), some (.ref 29)]) (st' := [.int (((g_M_copy 29 30 31 32 4 5 6 7 (zui I 19 1 1)) 19 1) + 1), .ref 19]) (h' := zH (g_M_copy 29 30 31 32 4 5 6 7 (zui I 19 1 1)) (zPr 1)) 1 rfl ?_
  refine wp_blk (pc' := 39) (L' := [some (.ref 19), some (.ref 4), some (.ref 29)]) (st' := []) (h' := zH (zui (g_M_copy 29 30 31 32 4 5 6 7 (zui I 19 1 1)) 19 1 (((g_M_copy 29 30 31 32 4 5 6 7 (zui I 19 1 1)) 19 1) + 1)) (zPr 1)) 1 rfl ?_
  exact wp_end rfl rfl ⟨rfl, rfl⟩
set_option maxRecDepth 100000 in
theorem sp_take19_1_1 {X : Nat × (Nat → Int32)} (I : Nat → Nat → Int32) : Wf X 79 [some (.ref 19), some (.ref 4), none] (zH (zui I 19 1 1) (zPr 1)) (some (.int 1)) (zH (zui (g_M_copy 4 5 6 7 25 26 27 28 (zui I 19 1 1)) 19 1 (((g_M_copy 4 5 6 7 25 26 27 28 (zui I 19 1 1)) 19 1) - 1)) (zPr 1)) := by
  unfold Wf
  refine wp_blk (pc' := 1) (L' := [some (.ref 19), some (.ref 4), none]) (st' := [.ref 19]) (h' := zH (zui I 19 1 1) (zPr 1)) 1 rfl ?_
  refine wp_blk (pc' := 2) (L' := [some (.ref 19), some (.ref 4), none]) (st' := [.ref 19, .ref 19]) (h' := zH (zui I 19 1 1) (zPr 1)) 1 rfl ?_
  refine wp_blk (pc' := 5) (L' := [some (.ref 19), some (.ref 4), none]) (st' := [.int 1, .ref 19]) (h' := zH (zui I 19 1 1) (zPr 1)) 1 rfl ?_
  refine wp_blk (pc' := 6) (L' := [some (.ref 19), some (.ref 4), none]) (st' := [.int 1, .int 1, .ref 19]) (h' := zH (zui I 19 1 1) (zPr 1)) 1 rfl ?_
  refine wp_blk (pc' := 7) (L' := [some (.ref 19), some (.ref 4), none]) (st' := [.int 0, .ref 19]) (h' := zH (zui I 19 1 1) (zPr 1)) 1 rfl ?_
  refine wp_callf (d := 68) (as := [.ref 19, .int 0]) (rest := []) (Ld := [some (.ref 19), some (.int 0)]) (pc' := 10) (st' := [.ref 25]) (r := some (.ref 25)) (h1 := zH (zui I 19 1 1) (zPr 1)) rfl rfl rfl rfl rfl rfl rfl rfl rfl (sp_at19_1_0 (X := X) (zui I 19 1 1)) ?_
  refine wp_blk (pc' := 11) (L' := [some (.ref 19), some (.ref 4), some (.ref 25)]) (st' := []) (h' := zH (zui I 19 1 1) (zPr 1)) 1 rfl ?_
  refine wp_blk (pc' := 12) (L' := [some (.ref 19), some (.ref 4), some (.ref 25)]) (st' := [.ref 25]) (h' := zH (zui I 19 1 1) (zPr 1)) 1 rfl ?_
  refine wp_blk (pc' := 17) (L' := [some (.ref 19), some (.ref 4), some (.ref 25)]) (st' := []) (h' := zH (zui I 19 1 1) (zPr 1)) 1 rfl ?_
  refine wp_blk (pc' := 18) (L' := [some (.ref 19), some (.ref 4), some (.ref 25)]) (st' := [.ref 4]) (h' := zH (zui I 19 1 1) (zPr 1)) 1 rfl ?_
  refine wp_blk (pc' := 19) (L' := [some (.ref 19), some (.ref 4), some (.ref 25)]) (st' := [.ref 25, .ref 4]) (h' := zH (zui I 19 1 1) (zPr 1)) 1 rfl ?_
  refine wp_callf (d := 37) (as := [.ref 4, .ref 25]) (rest := []) (Ld := [some (.ref 4), some (.ref 25)]) (pc' := 22) (st' := []) (r := none) (h1 := zH (g_M_copy 4 5 6 7 25 26 27 28 (zui I 19 1 1)) (zPr 1)) rfl rfl rfl rfl rfl rfl rfl rfl rfl (xp_M_copy_4_25 _ _ (0, (g_M_copy 4 5 6 7 25 26 27 28 (zui I 19 1 1))) rfl) ?_
  refine wp_blk (pc' := 23) (L' := [some (.ref 19), some (.ref 4), some (.ref 25)]) (st' := [.ref 19]) (h' := zH (g_M_copy 4 5 6 7 25 26 27 28 (zui I 19 1 1)) (zPr 1)) 1 rfl ?_
  refine wp_blk (pc' := 24) (L' := [some (.ref 19), some (.ref 4), some (.ref 25)]) (st' := [.ref 19, .ref 19]) (h' := zH (g_M_copy 4 5 6 7 25 26 27 28 (zui I 19 1 1)) (zPr 1)) 1 rfl ?_
  refine wp_blk (pc' := 27) (L' := [some (.ref 19), some (.ref 4), some (.ref 25)]) (st' := [.int ((g_M_copy 4 5 6 7 25 26 27 28 (zui I 19 1 1)) 19 1), .ref 19]) (h' := zH (g_M_copy 4 5 6 7 25 26 27 28 (zui I 19 1 1)) (zPr 1)) 1 rfl ?_
  refine wp_blk (pc' := 28) (L' := [some (.ref 19), some (.ref 4), some (.ref 25)]) (st' := [.int 1, .int ((g_M_copy 4 5 6 7 25 26 27 28 (zui I 19 1 1)) 19 1), .ref 19]) (h' := zH (g_M_copy 4 5 6 7 25 26 27 28 (zui I 19 1 1)) (zPr 1)) 1 rfl ?_
  refine wp_blk (pc' := 29) (L' := [some (.ref 19), some (.ref 4), some (.ref 25)]) (st' := [.int (((g_M_copy 4 5 6 7 25 26 27 28 (zui I 19 1 1)) 19 1) - 1), .ref 19]) (h' := zH (g_M_copy 4 5 6 7 25 26 27 28 (zui I 19 1 1)) (zPr 1)) 1 rfl ?_
  refine wp_blk (pc' := 32) (L' := [some (.ref 19), some (.ref 4), some (.ref 25)]) (st' := []) (h' := zH (zui (g_M_copy 4 5 6 7 25 26 27 28 (zui I 19 1 1)) 19 1 (((g_M_copy 4 5 6 7 25 26 27 28 (zui I 19 1 1)) 19 1) - 1)) (zPr 1)) 1 rfl ?_
  refine wp_blk (pc' := 33) (L' := [some (.ref 19), some (.ref 4), some (.ref 25)]) (st' := [.int 1]) (h' := zH (zui (g_M_copy 4 5 6 7 25 26 27 28 (zui I 19 1 1)) 19 1 (((g_M_copy 4 5 6 7 25 26 27 28 (zui I 19 1 1)) 19 1) - 1)) (zPr 1)) 1 rfl ?_
  exact wp_end rfl rfl ⟨rfl, rfl⟩
set_option maxRecDepth 100000 in
theorem sp_put19_1_2 {X : Nat × (Nat → Int32)} (I : Nat → Nat → Int32) : Wf X 65 [some (.ref 19), some (.ref 4), none] (zH (zui I 19 1 2) (zPr 1)) none (zH (zui (g_M_copy 33 34 35 36 4 5 6 7 (zui I 19 1 2)) 19 1 (((g_M_copy 33 34 35 36 4 5 6 7 (zui I 19 1 2)) 19 1) + 1)) (zPr 1)) := by
  unfold Wf
  refine wp_blk (pc' := 1) (L' := [some (.ref 19), some (.ref 4), none]) (st' := [.ref 19]) (h' := zH (zui I 19 1 2) (zPr 1)) 1 rfl ?_
  refine wp_callf (d := 66) (as := [.ref 19]) (rest := []) (Ld := [some (.ref 19)]) (pc' := 4) (st' := [.int 0]) (r := some (.int 0)) (h1 := zH (zui I 19 1 2) (zPr 1)) rfl rfl rfl rfl rfl rfl rfl rfl rfl (sp_H1_isFull (X := X) (zui I 19 1 2) (zPr 1)) ?_
  refine wp_blk (pc' := 11) (L' := [some (.ref 19), some (.ref 4), none]) (st' := []) (h' := zH (zui I 19 1 2) (zPr 1)) 1 rfl ?_
  refine wp_blk (pc' := 12) (L' := [some (.ref 19), some (.ref 4), none]) (st' := [.ref 19]) (h' := zH (zui I 19 1 2) (zPr 1)) 1 rfl ?_
  refine wp_blk (pc' := 13) (L' := [some (.ref 19), some (.ref 4), none]) (st' := [.ref 19, .ref 19]) (h' := zH (zui I 19 1 2) (zPr 1)) 1 rfl ?_
  refine wp_blk (pc' := 16) (L' := [some (.ref 19), some (.ref 4), none]) (st' := [.int 2, .ref 19]) (h' := zH (zui I 19 1 2) (zPr 1)) 1 rfl ?_
  refine wp_callf (d := 68) (as := [.ref 19, .int 2]) (rest := []) (Ld := [some (.ref 19), some (.int 2)]) (pc' := 19) (st' := [.ref 33]) (r := some (.ref 33)) (h1 := zH (zui I 19 1 2) (zPr 1)) rfl rfl rfl rfl rfl rfl rfl rfl rfl (sp_at19_1_2 (X := X) (zui I 19 1 2)) ?_
  refine wp_blk (pc' := 20) (L' := [some (.ref 19), some (.ref 4), some (.ref 33)]) (st' := []) (h' := zH (zui I 19 1 2) (zPr 1)) 1 rfl ?_
  refine wp_blk (pc' := 21) (L' := [some (.ref 19), some (.ref 4), some (.ref 33)]) (st' := [.ref 33]) (h' := zH (zui I 19 1 2) (zPr 1)) 1 rfl ?_
  refine wp_blk (pc' := 24) (L' := [some (.ref 19), some (.ref 4), some (.ref 33)]) (st' := []) (h' := zH (zui I 19 1 2) (zPr 1)) 1 rfl ?_
  refine wp_blk (pc' := 25) (L' := [some (.ref 19), some (.ref 4), some (.ref 33)]) (st' := [.ref 33]) (h' := zH (zui I 19 1 2) (zPr 1)) 1 rfl ?_
  refine wp_blk (pc' := 26) (L' := [some (.ref 19), some (.ref 4), some (.ref 33)]) (st' := [.ref 4, .ref 33]) (h' := zH (zui I 19 1 2) (zPr 1)) 1 rfl ?_
  refine wp_callf (d := 37) (as := [.ref 33, .ref 4]) (rest := []) (Ld := [some (.ref 33), some (.ref 4)]) (pc' := 29) (st' := []) (r := none) (h1 := zH (g_M_copy 33 34 35 36 4 5 6 7 (zui I 19 1 2)) (zPr 1)) rfl rfl rfl rfl rfl rfl rfl rfl rfl (xp_M_copy_33_4 _ _ (0, (g_M_copy 33 34 35 36 4 5 6 7 (zui I 19 1 2))) rfl) ?_
  refine wp_blk (pc' := 30) (L' := [some (.ref 19), some (.ref 4), some (.ref 33)]) (st' := [.ref 19]) (h' := zH (g_M_copy 33 34 35 36 4 5 6 7 (zui I 19 1 2)) (zPr 1)) 1 rfl ?_
  refine wp_blk (pc' := 31) (L' := [some (.ref 19), some (.ref 4), some (.ref 33)]) (st' := [.ref 19, .ref 19]) (h' := zH (g_M_copy 33 34 35 36 4 5 6 7 (zui I 19 1 2)) (zPr 1)) 1 rfl ?_
  refine wp_blk (pc' := 34) (L' := [some (.ref 19), some (.ref 4), some (.ref 33)]) (st' := [.int ((g_M_copy 33 34 35 36 4 5 6 7 (zui I 19 1 2)) 19 1), .ref 19]) (h' := zH (g_M_copy 33 34 35 36 4 5 6 7 (zui I 19 1 2)) (zPr 1)) 1 rfl ?_
  refine wp_blk (pc' := 35) (L' := [some (.ref 19), some (.ref 4), some (.ref 33)]) (st' := [.int 1, .int ((g_M_copy 33 34 35 36 4 5 6 7 (zui I 19 1 2)) 19 1), .ref 19]) (h' := zH (g_M_copy 33 34 35 36 4 5 6 7 (zui I 19 1 2)) (zPr 1)) 1 rfl ?_
  refine wp_blk (pc' := 36) (L' := [some (.ref 19), some (.ref 4), some (.ref 33)]) (st' := [.int (((g_M_copy 33 34 35 36 4 5 6 7 (zui I 19 1 2)) 19 1) + 1), .ref 19]) (h' := zH (g_M_copy 33 34 35 36 4 5 6 7 (zui I 19 1 2)) (zPr 1)) 1 rfl ?_
  refine wp_blk (pc' := 39) (L' := [some (.ref 19), some (.ref 4), some (.ref 33)]) (st' := []) (h' := zH (zui (g_M_copy 33 34 35 36 4 5 6 7 (zui I 19 1 2)) 19 1 (((g_M_copy 33 34 35 36 4 5 6 7 (zui I 19 1 2)) 19 1) + 1)) (zPr 1)) 1 rfl ?_
  exact wp_end rfl rfl ⟨rfl, rfl⟩
set_option maxRecDepth 100000 in
theorem sp_take19_1_2 {X : Nat × (Nat → Int32)} (I : Nat → Nat → Int32) : Wf X 79 [some (.ref 19), some (.ref 4), none] (zH (zui I 19 1 2) (zPr 1)) (some (.int 1)) (zH (zui (g_M_copy 4 5 6 7 29 30 31 32 (zui I 19 1 2)) 19 1 (((g_M_copy 4 5 6 7 29 30 31 32 (zui I 19 1 2)) 19 1) - 1)) (zPr 1)) := by
  unfold Wf
  refine wp_blk (pc' := 1) (L' := [some (.ref 19), some (.ref 4), none]) (st' := [.ref 19]) (h' := zH (zui I 19 1 2) (zPr 1)) 1 rfl ?_
  refine wp_blk (pc' := 2) (L' := [some (.ref 19), some (.ref 4), none]) (st' := [.ref 19, .ref 19]) (h' := zH (zui I 19 1 2) (zPr 1)) 1 rfl ?_
  refine wp_blk (pc' := 5) (L' := [some (.ref 19), some (.ref 4), none]) (st' := [.int 2, .ref 19]) (h' := zH (zui I 19 1 2) (zPr 1)) 1 rfl ?_
  refine wp_blk (pc' := 6) (L' := [some (.ref 19), some (.ref 4), none]) (st' := [.int 1, .int 2, .ref 19]) (h' := zH (zui I 19 1 2) (zPr 1)) 1 rfl ?_
  refine wp_blk (pc' := 7) (L' := [some (.ref 19), some (.ref 4), none]) (st' := [.int 1, .ref 19]) (h' := zH (zui I 19 1 2) (zPr 1)) 1 rfl ?_
  refine wp_callf (d := 68) (as := [.ref 19, .int 1]) (rest := []) (Ld := [some (.ref 19), some (.int 1)]) (pc' := 10) (st' := [.ref 29]) (r := some (.ref 29)) (h1 := zH (zui I 19 1 2) (zPr 1)) rfl rfl rfl rfl rfl rfl rfl rfl rfl (sp_at19_1_1 (X := X) (zui I 19 1 2)) ?_
  refine wp_blk (pc' := 11) (L' := [some (.ref 19), some (.ref 4), some (.ref 29)]) (st' := []) (h' := zH (zui I 19 1 2) (zPr 1)) 1 rfl ?_
  refine wp_blk (pc' := 12) (L' := [some (.ref 19), some (.ref 4), some (.ref 29)]) (st' := [.ref 29]) (h' := zH (zui I 19 1 2) (zPr 1)) 1 rfl ?_
  refine wp_blk (pc' := 17) (L' := [some (.ref 19), some (.ref 4), some (.ref 29)]) (st' := []) (h' := zH (zui I 19 1 2) (zPr 1)) 1 rfl ?_
  refine wp_blk (pc' := 18) (L' := [some (.ref 19), some (.ref 4), some (.ref 29)]) (st' := [.ref 4]) (h' := zH (zui I 19 1 2) (zPr 1)) 1 rfl ?_
  refine wp_blk (pc' := 19) (L' := [some (.ref 19), some (.ref 4), some (.ref 29)]) (st' := [.ref 29, .ref 4]) (h' := zH (zui I 19 1 2) (zPr 1)) 1 rfl ?_
  refine wp_callf (d := 37) (as := [.ref 4, .ref 29]) (rest := []) (Ld := [some (.ref 4), some (.ref 29)]) (pc' := 22) (st' := []) (r := none) (h1 := zH (g_M_copy 4 5 6 7 29 30 31 32 (zui I 19 1 2)) (zPr 1)) rfl rfl rfl rfl rfl rfl rfl rfl rfl (xp_M_copy_4_29 _ _ (0, (g_M_copy 4 5 6 7 29 30 31 32 (zui I 19 1 2))) rfl) ?_
  refine wp_blk (pc' := 23) (L' := [some (.ref 19), some (.ref 4), some (.ref 29)]) (st' := [.ref 19]) (h' := zH (g_M_copy 4 5 6 7 29 30 31 32 (zui I 19 1 2)) (zPr 1)) 1 rfl ?_
  refine wp_blk (pc' := 24) (L' := [some (.ref 19), some (.ref 4), some (.ref 29)]) (st' := [.ref 19, .ref 19]) (h' := zH (g_M_copy 4 5 6 7 29 30 31 32 (zui I 19 1 2)) (zPr 1)) 1 rfl ?_
  refine wp_blk (pc' := 27) (L' := [some (.ref 19), some (.ref 4), some (.ref 29)]) (st' := [.int ((g_M_copy 4 5 6 7 29 30 31 32 (zui I 19 1 2)) 19 1), .ref 19]) (h' := zH (g_M_copy 4 5 6 7 29 30 31 32 (zui I 19 1 2)) (zPr 1)) 1 rfl ?_
  refine wp_blk (pc' := 28) (L' := [some (.ref 19), some (.ref 4), some (.ref 29)]) (st' := [.int 1, .int ((g_M_copy 4 5 6 7 29 30 31 32 (zui I 19 1 2)) 19 1), .ref 19]) (h' := zH (g_M_copy 4 5 6 7 29 30 31 32 (zui I 19 1 2)) (zPr 1)) 1 rfl ?_
  refine wp_blk (pc' := 29) (L' := [some (.ref 19), some (.ref 4), some (.ref 29)]) (st' := [.int (((g_M_copy 4 5 6 7 29 30 31 32 (zui I 19 1 2)) 19 1) - 1), .ref 19]) (h' := zH (g_M_copy 4 5 6 7 29 30 31 32 (zui I 19 1 2)) (zPr 1)) 1 rfl ?_
  refine wp_blk (pc' := 32) (L' := [some (.ref 19), some (.ref 4), some (.ref 29)]) (st' := []) (h' := zH (zui (g_M_copy 4 5 6 7 29 30 31 32 (zui I 19 1 2)) 19 1 (((g_M_copy 4 5 6 7 29 30 31 32 (zui I 19 1 2)) 19 1) - 1)) (zPr 1)) 1 rfl ?_
  refine wp_blk (pc' := 33) (L' := [some (.ref 19), some (.ref 4), some (.ref 29)]) (st' := [.int 1]) (h' := zH (zui (g_M_copy 4 5 6 7 29 30 31 32 (zui I 19 1 2)) 19 1 (((g_M_copy 4 5 6 7 29 30 31 32 (zui I 19 1 2)) 19 1) - 1)) (zPr 1)) 1 rfl ?_
  exact wp_end rfl rfl ⟨rfl, rfl⟩
set_option maxRecDepth 100000 in
theorem sp_put19_1_3 {X : Nat × (Nat → Int32)} (I : Nat → Nat → Int32) : Wf X 65 [some (.ref 19), some (.ref 4), none] (zH (zui I 19 1 3) (zPr 1)) none (zH (zui (g_M_copy 37 38 39 40 4 5 6 7 (zui I 19 1 3)) 19 1 (((g_M_copy 37 38 39 40 4 5 6 7 (zui I 19 1 3)) 19 1) + 1)) (zPr 1)) := by
  unfold Wf
  refine wp_blk (pc' := 1) (L' := [some (.ref 19), some (.ref 4), none]) (st' := [.ref 19]) (h' := zH (zui I 19 1 3) (zPr 1)) 1 rfl ?_
  refine wp_callf (d := 66) (as := [.ref 19]) (rest := []) (Ld := [some (.ref 19)]) (pc' := 4) (st' := [.int 0]) (r := some (.int 0)) (h1 := zH (zui I 19 1 3) (zPr 1)) rfl rfl rfl rfl rfl rfl rfl rfl rfl (sp_H1_isFull (X := X) (zui I 19 1 3) (zPr 1)) ?_
  refine wp_blk (pc' := 11) (L' := [some (.ref 19), some (.ref 4), none]) (st' := []) (h' := zH (zui I 19 1 3) (zPr 1)) 1 rfl ?_
  refine wp_blk (pc' := 12) (L' := [some (.ref 19), some (.ref 4), none]) (st' := [.ref 19]) (h' := zH (zui I 19 1 3) (zPr 1)) 1 rfl ?_
  refine wp_blk (pc' := 13) (L' := [some (.ref 19), some (.ref 4), none]) (st' := [.ref 19, .ref 19]) (h' := zH (zui I 19 1 3) (zPr 1)) 1 rfl ?_
  refine wp_blk (pc' := 16) (L' := [some (.ref 19), some (.ref 4), none]) (st' := [.int 3, .ref 19]) (h' := zH (zui I 19 1 3) (zPr 1)) 1 rfl ?_
  refine wp_callf (d := 68) (as := [.ref 19, .int 3]) (rest := []) (Ld := [some (.ref 19), some (.int 3)]) (pc' := 19) (st' := [.ref 37]) (r := some (.ref 37)) (h1 := zH (zui I 19 1 3) (zPr 1)) rfl rfl rfl rfl rfl rfl rfl rfl rfl (sp_at19_1_3 (X := X) (zui I 19 1 3)) ?_
  refine wp_blk (pc' := 20) (L' := [some (.ref 19), some (.ref 4), some (.ref 37)]) (st' := []) (h' := zH (zui I 19 1 3) (zPr 1)) 1 rfl ?_
  refine wp_blk (pc' := 21) (L' := [some (.ref 19), some (.ref 4), some (.ref 37)]) (st' := [.ref 37]) (h' := zH (zui I 19 1 3) (zPr 1)) 1 rfl ?_
  refine wp_blk (pc' := 24) (L' := [some (.ref 19), some (.ref 4), some (.ref 37)]) (st' := []) (h' := zH (zui I 19 1 3) (zPr 1)) 1 rfl ?_
  refine wp_blk (pc' := 25) (L' := [some (.ref 19), some (.ref 4), some (.ref 37)]) (st' := [.ref 37]) (h' := zH (zui I 19 1 3) (zPr 1)) 1 rfl ?_
  refine wp_blk (pc' := 26) (L' := [some (.ref 19), some (.ref 4), some (.ref 37)]) (st' := [.ref 4, .ref 37]) (h' := zH (zui I 19 1 3) (zPr 1)) 1 rfl ?_
  refine wp_callf (d := 37) (as := [.ref 37, .ref 4]) (rest := []) (Ld := [some (.ref 37), some (.ref 4)]) (pc' := 29) (st' := []) (r := none) (h1 := zH (g_M_copy 37 38 39 40 4 5 6 7 (zui I 19 1 3)) (zPr 1)) rfl rfl rfl rfl rfl rfl rfl rfl rfl (xp_M_copy_37_4 _ _ (0, (g_M_copy 37 38 39 40 4 5 6 7 (zui I 19 1 3))) rfl) ?_
  refine wp_blk (pc' := 30) (L' := [some (.ref 19), some (.ref 4), some (.ref 37)]) (st' := [.ref 19]) (h' := zH (g_M_copy 37 38 39 40 4 5 6 7 (zui I 19 1 3)) (zPr 1)) 1 rfl ?_
  refine wp_blk (pc' := 31) (L' := [some (.ref 19), some (.ref 4), some (.ref 37)]) (st' := [.ref 19, .ref 19]) (h' := zH (g_M_copy 37 38 39 40 4 5 6 7 (zui I 19 1 3)) (zPr 1)) 1 rfl ?_
  refine wp_blk (pc' := 34) (L' := [some (.ref 19), some (.ref 4), some (.ref 37)]) (st' := [.int ((g_M_copy 37 38 39 40 4 5 6 7 (zui I 19 1 3)) 19 1), .ref 19]) (h' := zH (g_M_copy 37 38 39 40 4 5 6 7 (zui I 19 1 3)) (zPr 1)) 1 rfl ?_
  refine wp_blk (pc' := 35) (L' := [some (.ref 19), some (.ref 4), some (.ref 37)]) (st' := [.int 1, .int ((g_M_copy 37 38 39 40 4 5 6 7 (zui I 19 1 3)) 19 1), .ref 19]) (h' := zH (g_M_copy 37 38 39 40 4 5 6 7 (zui I 19 1 3)) (zPr 1)) 1 rfl ?_
  refine wp_blk (pc' := 36) (L' := [some (.ref 19), some (.ref 4), some (.ref 37)]) (st' := [.int (((g_M_copy 37 38 39 40 4 5 6 7 (zui I 19 1 3)) 19 1) + 1), .ref 19]) (h' := zH (g_M_copy 37 38 39 40 4 5 6 7 (zui I 19 1 3)) (zPr 1)) 1 rfl ?_
  refine wp_blk (pc' := 39) (L' := [some (.ref 19), some (.ref 4), some (.ref 37)]) (st' := []) (h' := zH (zui (g_M_copy 37 38 39 40 4 5 6 7 (zui I 19 1 3)) 19 1 (((g_M_copy 37 38 39 40 4 5 6 7 (zui I 19 1 3)) 19 1) + 1)) (zPr 1)) 1 rfl ?_
  exact wp_end rfl rfl ⟨rfl, rfl⟩
set_option maxRecDepth 100000 in
theorem sp_take19_1_3 {X : Nat × (Nat → Int32)} (I : Nat → Nat → Int32) : Wf X 79 [some (.ref 19), some (.ref 4), none] (zH (zui I 19 1 3) (zPr 1)) (some (.int 1)) (zH (zui (g_M_copy 4 5 6 7 33 34 35 36 (zui I 19 1 3)) 19 1 (((g_M_copy 4 5 6 7 33 34 35 36 (zui I 19 1 3)) 19 1) - 1)) (zPr 1)) := by
  unfold Wf
  refine wp_blk (pc' := 1) (L' := [some (.ref 19), some (.ref 4), none]) (st' := [.ref 19]) (h' := zH (zui I 19 1 3) (zPr 1)) 1 rfl ?_
  refine wp_blk (pc' := 2) (L' := [some (.ref 19), some (.ref 4), none]) (st' := [.ref 19, .ref 19]) (h' := zH (zui I 19 1 3) (zPr 1)) 1 rfl ?_
  refine wp_blk (pc' := 5) (L' := [some (.ref 19), some (.ref 4), none]) (st' := [.int 3, .ref 19]) (h' := zH (zui I 19 1 3) (zPr 1)) 1 rfl ?_
  refine wp_blk (pc' := 6) (L' := [some (.ref 19), some (.ref 4), none]) (st' := [.int 1, .int 3, .ref 19]) (h' := zH (zui I 19 1 3) (zPr 1)) 1 rfl ?_
  refine wp_blk (pc' := 7) (L' := [some (.ref 19), some (.ref 4), none]) (st' := [.int 2, .ref 19]) (h' := zH (zui I 19 1 3) (zPr 1)) 1 rfl ?_
  refine wp_callf (d := 68) (as := [.ref 19, .int 2]) (rest := []) (Ld := [some (.ref 19), some (.int 2)]) (pc' := 10) (st' := [.ref 33]) (r := some (.ref 33)) (h1 := zH (zui I 19 1 3) (zPr 1)) rfl rfl rfl rfl rfl rfl rfl rfl rfl (sp_at19_1_2 (X := X) (zui I 19 1 3)) ?_
  refine wp_blk (pc' := 11) (L' := [some (.ref 19), some (.ref 4), some (.ref 33)]) (st' := []) (h' := zH (zui I 19 1 3) (zPr 1)) 1 rfl ?_
  refine wp_blk (pc' := 12) (L' := [some (.ref 19), some (.ref 4), some (.ref 33)]) (st' := [.ref 33]) (h' := zH (zui I 19 1 3) (zPr 1)) 1 rfl ?_
  refine wp_blk (pc' := 17) (L' := [some (.ref 19), some (.ref 4), some (.ref 33)]) (st' := []) (h' := zH (zui I 19 1 3) (zPr 1)) 1 rfl ?_
  refine wp_blk (pc' := 18) (L' := [some (.ref 19), some (.ref 4), some (.ref 33)]) (st' := [.ref 4]) (h' := zH (zui I 19 1 3) (zPr 1)) 1 rfl ?_
  refine wp_blk (pc' := 19) (L' := [some (.ref 19), some (.ref 4), some (.ref 33)]) (st' := [.ref 33, .ref 4]) (h' := zH (zui I 19 1 3) (zPr 1)) 1 rfl ?_
  refine wp_callf (d := 37) (as := [.ref 4, .ref 33]) (rest := []) (Ld := [some (.ref 4), some (.ref 33)]) (pc' := 22) (st' := []) (r := none) (h1 := zH (g_M_copy 4 5 6 7 33 34 35 36 (zui I 19 1 3)) (zPr 1)) rfl rfl rfl rfl rfl rfl rfl rfl rfl (xp_M_copy_4_33 _ _ (0, (g_M_copy 4 5 6 7 33 34 35 36 (zui I 19 1 3))) rfl) ?_
  refine wp_blk (pc' := 23) (L' := [some (.ref 19), some (.ref 4), some (.ref 33)]) (st' := [.ref 19]) (h' := zH (g_M_copy 4 5 6 7 33 34 35 36 (zui I 19 1 3)) (zPr 1)) 1 rfl ?_
  refine wp_blk (pc' := 24) (L' := [some (.ref 19), some (.ref 4), some (.ref 33)]) (st' := [.ref 19, .ref 19]) (h' := zH (g_M_copy 4 5 6 7 33 34 35 36 (zui I 19 1 3)) (zPr 1)) 1 rfl ?_
  refine wp_blk (pc' := 27) (L' := [some (.ref 19), some (.ref 4), some (.ref 33)]) (st' := [.int ((g_M_copy 4 5 6 7 33 34 35 36 (zui I 19 1 3)) 19 1), .ref 19]) (h' := zH (g_M_copy 4 5 6 7 33 34 35 36 (zui I 19 1 3)) (zPr 1)) 1 rfl ?_
  refine wp_blk (pc' := 28) (L' := [some (.ref 19), some (.ref 4), some (.ref 33)]) (st' := [.int 1, .int ((g_M_copy 4 5 6 7 33 34 35 36 (zui I 19 1 3)) 19 1), .ref 19]) (h' := zH (g_M_copy 4 5 6 7 33 34 35 36 (zui I 19 1 3)) (zPr 1)) 1 rfl ?_
  refine wp_blk (pc' := 29) (L' := [some (.ref 19), some (.ref 4), some (.ref 33)]) (st' := [.int (((g_M_copy 4 5 6 7 33 34 35 36 (zui I 19 1 3)) 19 1) - 1), .ref 19]) (h' := zH (g_M_copy 4 5 6 7 33 34 35 36 (zui I 19 1 3)) (zPr 1)) 1 rfl ?_
  refine wp_blk (pc' := 32) (L' := [some (.ref 19), some (.ref 4), some (.ref 33)]) (st' := []) (h' := zH (zui (g_M_copy 4 5 6 7 33 34 35 36 (zui I 19 1 3)) 19 1 (((g_M_copy 4 5 6 7 33 34 35 36 (zui I 19 1 3)) 19 1) - 1)) (zPr 1)) 1 rfl ?_
  refine wp_blk (pc' := 33) (L' := [some (.ref 19), some (.ref 4), some (.ref 33)]) (st' := [.int 1]) (h' := zH (zui (g_M_copy 4 5 6 7 33 34 35 36 (zui I 19 1 3)) 19 1 (((g_M_copy 4 5 6 7 33 34 35 36 (zui I 19 1 3)) 19 1) - 1)) (zPr 1)) 1 rfl ?_
  exact wp_end rfl rfl ⟨rfl, rfl⟩
set_option maxRecDepth 100000 in
theorem sp_put19_1_4 {X : Nat × (Nat → Int32)} (I : Nat → Nat → Int32) : Wf X 65 [some (.ref 19), some (.ref 4), none] (zH (zui I 19 1 4) (zPr 1)) none (zH (zui (g_M_copy 41 42 43 44 4 5 6 7 (zui I 19 1 4)) 19 1 (((g_M_copy 41 42 43 44 4 5 6 7 (zui I 19 1 4)) 19 1) + 1)) (zPr 1)) := by
  unfold Wf
  refine wp_blk (pc' := 1) (L' := [some (.ref 19), some (.ref 4), none]) (st' := [.ref 19]) (h' := zH (zui I 19 1 4) (zPr 1)) 1 rfl ?_
  refine wp_callf (d := 66) (as := [.ref 19]) (rest := []) (Ld := [some (.ref 19)]) (pc' := 4) (st' := [.int 0]) (r := some (.int 0)) (h1 := zH (zui I 19 1 4) (zPr 1)) rfl rfl rfl rfl rfl rfl rfl rfl rfl (sp_H1_isFull (X := X) (zui I 19 1 4) (zPr 1)) ?_
  refine wp_blk (pc' := 11) (L' := [some (.ref 19), some (.ref 4), none]) (st' := []) (h' := zH (zui I 19 1 4) (zPr 1)) 1 rfl ?_
  refine wp_blk (pc' := 12) (L' := [some (.ref 19), some (.ref 4), none]) (st' := [.ref 19]) (h' := zH (zui I 19 1 4) (zPr 1)) 1 rfl ?_
  refine wp_blk (pc' := 13) (L' := [some (.ref 19), some (.ref 4), none]) (st' := [.ref 19, .ref 19]) (h' := zH (zui I 19 1 4) (zPr 1)) 1 rfl ?_
  refine wp_blk (pc' := 16) (L' := [some (.ref 19), some (.ref 4), none]) (st' := [.int 4, .ref 19]) (h' := zH (zui I 19 1 4) (zPr 1)) 1 rfl ?_
  refine wp_callf (d := 68) (as := [.ref 19, .int 4]) (rest := []) (Ld := [some (.ref 19), some (.int 4)]) (pc' := 19) (st' := [.ref 41]) (r := some (.ref 41)) (h1 := zH (zui I 19 1 4) (zPr 1)) rfl rfl rfl rfl rfl rfl rfl rfl rfl (sp_at19_1_4 (X := X) (zui I 19 1 4)) ?_
  refine wp_blk (pc' := 20) (L' := [some (.ref 19), some (.ref 4), some (.ref 41)]) (st' := []) (h' := zH (zui I 19 1 4) (zPr 1)) 1 rfl ?_
  refine wp_blk (pc' := 21) (L' := [some (.ref 19), some (.ref 4), some (.ref 41)]) (st' := [.ref 41]) (h' := zH (zui I 19 1 4) (zPr 1)) 1 rfl ?_
  refine wp_blk (pc' := 24) (L' := [some (.ref 19), some (.ref 4), some (.ref 41)]) (st' := []) (h' := zH (zui I 19 1 4) (zPr 1)) 1 rfl ?_
  refine wp_blk (pc' := 25) (L' := [some (.ref 19), some (.ref 4), some (.ref 41)]) (st' := [.ref 41]) (h' := zH (zui I 19 1 4) (zPr 1)) 1 rfl ?_
  refine wp_blk (pc' := 26) (L' := [some (.ref 19), some (.ref 4), some (.ref 41)]) (st' := [.ref 4, .ref 41]) (h' := zH (zui I 19 1 4) (zPr 1)) 1 rfl ?_
  refine wp_callf (d := 37) (as := [.ref 41, .ref 4]) (rest := []) (Ld := [some (.ref 41), some (.ref 4)]) (pc' := 29) (st' := []) (r := none) (h1 := zH (g_M_copy 41 42 43 44 4 5 6 7 (zui I 19 1 4)) (zPr 1)) rfl rfl rfl rfl rfl rfl rfl rfl rfl (xp_M_copy_41_4 _ _ (0, (g_M_copy 41 42 43 44 4 5 6 7 (zui I 19 1 4))) rfl) ?_
  refine wp_blk (pc' := 30) (L' := [some (.ref 19), some (.ref 4), some (.ref 41)]) (st' := [.ref 19]) (h' := zH (g_M_copy 41 42 43 44 4 5 6 7 (zui I 19 1 4)) (zPr 1)) 1 rfl ?_
  refine wp_blk (pc' := 31) (L' := [some (.ref 19), some (.ref 4), some (.ref 41)]) (st' := [.ref 19, .ref 19]) (h' := zH (g_M_copy 41 42 43 44 4 5 6 7 (zui I 19 1 4)) (zPr 1)) 1 rfl ?_
  refine wp_blk (pc' := 34) (L' := [some (.ref 19), some (.ref 4), some (.ref 41)]) (st' := [.int ((g_M_copy 41 42 43 44 4 5 6 7 (zui I 19 1 4)) 19 1), .ref 19]) (h' := zH (g_M_copy 41 42 43 44 4 5 6 7 (zui I 19 1 4)) (zPr 1)) 1 rfl ?_
  refine wp_blk (pc' := 35) (L' := [some (.ref 19), some (.ref 4), some (.ref 41)]) (st' := [.int 1, .int ((g_M_copy 41 42 43 44 4 5 6 7 (zui I 19 1 4)) 19 1), .ref 19]) (h' := zH (g_M_copy 41 42 43 44 4 5 6 7 (zui I 19 1 4)) (zPr 1)) 1 rfl ?_
  refine wp_blk (pc' := 36) (L' := [some (.ref 19), some (.ref 4), some (.ref 41)]) (st' := [.int (((g_M_copy 41 42 43 44 4 5 6 7 (zui I 19 1 4)) 19 1) + 1), .ref 19]) (h' := zH (g_M_copy 41 42 43 44 4 5 6 7 (zui I 19 1 4)) (zPr 1)) 1 rfl ?_
  refine wp_blk (pc' := 39) (L' := [some (.ref 19), some (.ref 4), some (.ref 41)]) (st' := []) (h' := zH (zui (g_M_copy 41 42 43 44 4 5 6 7 (zui I 19 1 4)) 19 1 (((g_M_copy 41 42 43 44 4 5 6 7 (zui I 19 1 4)) 19 1) + 1)) (zPr 1)) 1 rfl ?_
  exact wp_end rfl rfl ⟨rfl, rfl⟩
set_option maxRecDepth 100000 in
theorem sp_take19_1_4 {X : Nat × (Nat → Int32)} (I : Nat → Nat → Int32) : Wf X 79 [some (.ref 19), some (.ref 4), none] (zH (zui I 19 1 4) (zPr 1)) (some (.int 1)) (zH (zui (g_M_copy 4 5 6 7 37 38 39 40 (zui I 19 1 4)) 19 1 (((g_M_copy 4 5 6 7 37 38 39 40 (zui I 19 1 4)) 19 1) - 1)) (zPr 1)) := by
  unfold Wf
  refine wp_blk (pc' := 1) (L' := [some (.ref 19), some (.ref 4), none]) (st' := [.ref 19]) (h' := zH (zui I 19 1 4) (zPr 1)) 1 rfl ?_
  refine wp_blk (pc' := 2) (L' := [some (.ref 19), some (.ref 4), none]) (st' := [.ref 19, .ref 19]) (h' := zH (zui I 19 1 4) (zPr 1)) 1 rfl ?_
  refine wp_blk (pc' := 5) (L' := [some (.ref 19), some (.ref 4), none]) (st' := [.int 4, .ref 19]) (h' := zH (zui I 19 1 4) (zPr 1)) 1 rfl ?_
  refine wp_blk (pc' := 6) (L' := [some (.ref 19), some (.ref 4), none]) (st' := [.int 1, .int 4, .ref 19]) (h' := zH (zui I 19 1 4) (zPr 1)) 1 rfl ?_
  refine wp_blk (pc' := 7) (L' := [some (.ref 19), some (.ref 4), none]) (st' := [.int 3, .ref 19]) (h' := zH (zui I 19 1 4) (zPr 1)) 1 rfl ?_
  refine wp_callf (d := 68) (as := [.ref 19, .int 3]) (rest := []) (Ld := [some (.ref 19), some (.int 3)]) (pc' := 10) (st' := [.ref 37]) (r := some (.ref 37)) (h1 := zH (zui I 19 1 4) (zPr 1)) rfl rfl rfl rfl rfl rfl rfl rfl rfl (sp_at19_1_3 (X := X) (zui I 19 1 4)) ?_
  refine wp_blk (pc' := 11) (L' := [some (.ref 19), some (.ref 4), some (.ref 37)]) (st' := []) (h' := zH (zui I 19 1 4) (zPr 1)) 1 rfl ?_
  refine wp_blk (pc' := 12) (L' := [some (.ref 19), some (.ref 4), some (.ref 37)]) (st' := [.ref 37]) (h' := zH (zui I 19 1 4) (zPr 1)) 1 rfl ?_
  refine wp_blk (pc' := 17) (L' := [some (.ref 19), some (.ref 4), some (.ref 37)]) (st' := []) (h' := zH (zui I 19 1 4) (zPr 1)) 1 rfl ?_
  refine wp_blk (pc' := 18) (L' := [some (.ref 19), some (.ref 4), some (.ref 37)]) (st' := [.ref 4]) (h' := zH (zui I 19 1 4) (zPr 1)) 1 rfl ?_
  refine wp_blk (pc' := 19) (L' := [some (.ref 19), some (.ref 4), some (.ref 37)]) (st' := [.ref 37, .ref 4]) (h' := zH (zui I 19 1 4) (zPr 1)) 1 rfl ?_
  refine wp_callf (d := 37) (as := [.ref 4, .ref 37]) (rest := []) (Ld := [some (.ref 4), some (.ref 37)]) (pc' := 22) (st' := []) (r := none) (h1 := zH (g_M_copy 4 5 6 7 37 38 39 40 (zui I 19 1 4)) (zPr 1)) rfl rfl rfl rfl rfl rfl rfl rfl rfl (xp_M_copy_4_37 _ _ (0, (g_M_copy 4 5 6 7 37 38 39 40 (zui I 19 1 4))) rfl) ?_
  refine wp_blk (pc' := 23) (L' := [some (.ref 19), some (.ref 4), some (.ref 37)]) (st' := [.ref 19]) (h' := zH (g_M_copy 4 5 6 7 37 38 39 40 (zui I 19 1 4)) (zPr 1)) 1 rfl ?_
  refine wp_blk (pc' := 24) (L' := [some (.ref 19), some (.ref 4), some (.ref 37)]) (st' := [.ref 19, .ref 19]) (h' := zH (g_M_copy 4 5 6 7 37 38 39 40 (zui I 19 1 4)) (zPr 1)) 1 rfl ?_
  refine wp_blk (pc' := 27) (L' := [some (.ref 19), some (.ref 4), some (.ref 37)]) (st' := [.int ((g_M_copy 4 5 6 7 37 38 39 40 (zui I 19 1 4)) 19 1), .ref 19]) (h' := zH (g_M_copy 4 5 6 7 37 38 39 40 (zui I 19 1 4)) (zPr 1)) 1 rfl ?_
  refine wp_blk (pc' := 28) (L' := [some (.ref 19), some (.ref 4), some (.ref 37)]) (st' := [.int 1, .int ((g_M_copy 4 5 6 7 37 38 39 40 (zui I 19 1 4)) 19 1), .ref 19]) (h' := zH (g_M_copy 4 5 6 7 37 38 39 40 (zui I 19 1 4)) (zPr 1)) 1 rfl ?_
  refine wp_blk (pc' := 29) (L' := [some (.ref 19), some (.ref 4), some (.ref 37)]) (st' := [.int (((g_M_copy 4 5 6 7 37 38 39 40 (zui I 19 1 4)) 19 1) - 1), .ref 19]) (h' := zH (g_M_copy 4 5 6 7 37 38 39 40 (zui I 19 1 4)) (zPr 1)) 1 rfl ?_
  refine wp_blk (pc' := 32) (L' := [some (.ref 19), some (.ref 4), some (.ref 37)]) (st' := []) (h' := zH (zui (g_M_copy 4 5 6 7 37 38 39 40 (zui I 19 1 4)) 19 1 (((g_M_copy 4 5 6 7 37 38 39 40 (zui I 19 1 4)) 19 1) - 1)) (zPr 1)) 1 rfl ?_
  refine wp_blk (pc' := 33) (L' := [some (.ref 19), some (.ref 4), some (.ref 37)]) (st' := [.int 1]) (h' := zH (zui (g_M_copy 4 5 6 7 37 38 39 40 (zui I 19 1 4)) 19 1 (((g_M_copy 4 5 6 7 37 38 39 40 (zui I 19 1 4)) 19 1) - 1)) (zPr 1)) 1 rfl ?_
  exact wp_end rfl rfl ⟨rfl, rfl⟩
set_option maxRecDepth 100000 in
theorem sp_put19_1_5 {X : Nat × (Nat → Int32)} (I : Nat → Nat → Int32) : Wf X 65 [some (.ref 19), some (.ref 4), none] (zH (zui I 19 1 5) (zPr 1)) none (zH (zui (g_M_copy 45 46 47 48 4 5 6 7 (zui I 19 1 5)) 19 1 (((g_M_copy 45 46 47 48 4 5 6 7 (zui I 19 1 5)) 19 1) + 1)) (zPr 1)) := by
  unfold Wf
  refine wp_blk (pc' := 1) (L' := [some (.ref 19), some (.ref 4), none]) (st' := [.ref 19]) (h' := zH (zui I 19 1 5) (zPr 1)) 1 rfl ?_
  refine wp_callf (d := 66) (as := [.ref 19]) (rest := []) (Ld := [some (.ref 19)]) (pc' := 4) (st' := [.int 0]) (r := some (.int 0)) (h1 := zH (zui I 19 1 5) (zPr 1)) rfl rfl rfl rfl rfl rfl rfl rfl rfl (sp_H1_isFull (X := X) (zui I 19 1 5) (zPr 1)) ?_
  refine wp_blk (pc' := 11) (L' := [some (.ref 19), some (.ref 4), none]) (st' := []) (h' := zH (zui I 19 1 5) (zPr 1)) 1 rfl ?_
  refine wp_blk (pc' := 12) (L' := [some (.ref 19), some (.ref 4), none]) (st' := [.ref 19]) (h' := zH (zui I 19 1 5) (zPr 1)) 1 rfl ?_
  refine wp_blk (pc' := 13) (L' := [some (.ref 19), some (.ref 4), none]) (st' := [.ref 19, .ref 19]) (h' := zH (zui I 19 1 5) (zPr 1)) 1 rfl ?_
  refine wp_blk (pc' := 16) (L' := [some (.ref 19), some (.ref 4), none]) (st' := [.int 5, .ref 19]) (h' := zH (zui I 19 1 5) (zPr 1)) 1 rfl ?_
  refine wp_callf (d := 68) (as := [.ref 19, .int 5]) (rest := []) (Ld := [some (.ref 19), some (.int 5)]) (pc' := 19) (st' := [.ref 45]) (r := some (.ref 45)) (h1 := zH (zui I 19 1 5) (zPr 1)) rfl rfl rfl rfl rfl rfl rfl rfl rfl (sp_at19_1_5 (X := X) (zui I 19 1 5)) ?_
  refine wp_blk (pc' := 20) (L' := [some (.ref 19), some (.ref 4), some (.ref 45)]) (st' := []) (h' := zH (zui I 19 1 5) (zPr 1)) 1 rfl ?_
  refine wp_blk (pc' := 21) (L' := [some (.ref 19), some (.ref 4), some (.ref 45)]) (st' := [.ref 45]) (h' := zH (zui I 19 1 5) (zPr 1)) 1 rfl ?_
  refine wp_blk (pc' := 24) (L' := [some (.ref 19), some (.ref 4), some (.ref 45)]) (st' := []) (h' := zH (zui I 19 1 5) (zPr 1)) 1 rfl ?_
  refine wp_blk (pc' := 25) (L' := [some (.ref 19), some (.ref 4), some (.ref 45)]) (st' := [.ref 45]) (h' := zH (zui I 19 1 5) (zPr 1)) 1 rfl ?_
  refine wp_blk (pc' := 26) (L' := [some (.ref 19), some (.ref 4), some (.ref 45)]) (st' := [.ref 4, .ref 45]) (h' := zH (zui I 19 1 5) (zPr 1)) 1 rfl ?_
  refine wp_callf (d := 37) (as := [.ref 45, .ref 4]) (rest := []) (Ld := [some (.ref 45), some (.ref 4)]) (pc' := 29) (st' := []) (r := none) (h1 := zH (g_M_copy 45 46 47 48 4 5 6 7 (zui I 19 1 5)) (zPr 1)) rfl rfl rfl rfl rfl rfl rfl rfl rfl (xp_M_copy_45_4 _ _ (0, (g_M_copy 45 46 47 48 4 5 6 7 (zui I 19 1 5))) rfl) ?_
  refine wp_blk (pc' := 30) (L' := [some (.ref 19), some (.ref 4), some (.ref 45)]) (st' := [.ref 19]) (h' := zH (g_M_copy 45 46 47 48 4 5 6 7 (zui I 19 1 5)) (zPr 1)) 1 rfl ?_
  refine wp_blk (pc' := 31) (L' := [some (.ref 19), some (.ref 4), some (.ref 45)]) (st' := [.ref 19, .ref 19]) (h' := zH (g_M_copy 45 46 47 48 4 5 6 7 (zui I 19 1 5)) (zPr 1)) 1 rfl ?_
  refine wp_blk (pc' := 34) (L' := [some (.ref 19), some (.ref 4), some (.ref 45)]) (st' := [.int ((g_M_copy 45 46 47 48 4 5 6 7 (zui I 19 1 5)) 19 1), .ref 19]) (h' := zH (g_M_copy 45 46 47 48 4 5 6 7 (zui I 19 1 5)) (zPr 1)) 1 rfl ?_
  refine wp_blk (pc' := 35) (L' := [some (.ref 19), some (.ref 4), some (.ref 45)]) (st' := [.int 1, .int ((g_M_copy 45 46 47 48 4 5 6 7 (zui I 19 1 5)) 19 1), .ref 19]) (h' := zH (g_M_copy 45 46 47 48 4 5 6 7 (zui I 19 1 5)) (zPr 1)) 1 rfl ?_
  refine wp_blk (pc' := 36) (L' := [some (.ref 19), some (.ref 4), some (.ref 45)]) (st' := [.int (((g_M_copy 45 46 47 48 4 5 6 7 (zui I 19 1 5)) 19 1) + 1), .ref 19]) (h' := zH (g_M_copy 45 46 47 48 4 5 6 7 (zui I 19 1 5)) (zPr 1)) 1 rfl ?_
  refine wp_blk (pc' := 39) (L' := [some (.ref 19), some (.ref 4), some (.ref 45)]) (st' := []) (h' := zH (zui (g_M_copy 45 46 47 48 4 5 6 7 (zui I 19 1 5)) 19 1 (((g_M_copy 45 46 47 48 4 5 6 7 (zui I 19 1 5)) 19 1) + 1)) (zPr 1)) 1 rfl ?_
  exact wp_end rfl rfl ⟨rfl, rfl⟩
set_option maxRecDepth 100000 in
theorem sp_take19_1_5 {X : Nat × (Nat → Int32)} (I : Nat → Nat → Int32) : Wf X 79 [some (.ref 19), some (.ref 4), none] (zH (zui I 19 1 5) (zPr 1)) (some (.int 1)) (zH (zui (g_M_copy 4 5 6 7 41 42 43 44 (zui I 19 1 5)) 19 1 (((g_M_copy 4 5 6 7 41 42 43 44 (zui I 19 1 5)) 19 1) - 1)) (zPr 1)) := by
  unfold Wf
  refine wp_blk (pc' := 1) (L' := [some (.ref 19), some (.ref 4), none]) (st' := [.ref 19]) (h' := zH (zui I 19 1 5) (zPr 1)) 1 rfl ?_
  refine wp_blk (pc' := 2) (L' := [some (.ref 19), some (.ref 4), none]) (st' := [.ref 19, .ref 19]) (h' := zH (zui I 19 1 5) (zPr 1)) 1 rfl ?_
  refine wp_blk (pc' := 5) (L' := [some (.ref 19), some (.ref 4), none]) (st' := [.int 5, .ref 19]) (h' := zH (zui I 19 1 5) (zPr 1)) 1 rfl ?_
  refine wp_blk (pc' := 6) (L' := [some (.ref 19), some (.ref 4), none]) (st' := [.int 1, .int 5, .ref 19]) (h' := zH (zui I 19 1 5) (zPr 1)) 1 rfl ?_
  refine wp_blk (pc' := 7) (L' := [some (.ref 19), some (.ref 4), none]) (st' := [.int 4, .ref 19]) (h' := zH (zui I 19 1 5) (zPr 1)) 1 rfl ?_
  refine wp_callf (d := 68) (as := [.ref 19, .int 4]) (rest := []) (Ld := [some (.ref 19), some (.int 4)]) (pc' := 10) (st' := [.ref 41]) (r := some (.ref 41)) (h1 := zH (zui I 19 1 5) (zPr 1)) rfl rfl rfl rfl rfl rfl rfl rfl rfl (sp_at19_1_4 (X := X) (zui I 19 1 5)) ?_
  refine wp_blk (pc' := 11) (L' := [some (.ref 19), some (.ref 4), some (.ref 41)]) (st' := []) (h' := zH (zui I 19 1 5) (zPr 1)) 1 rfl ?_
  refine wp_blk (pc' := 12) (L' := [some (.ref 19), some (.ref 4), some (.ref 41)]) (st' := [.ref 41]) (h' := zH (zui I 19 1 5) (zPr 1)) 1 rfl ?_
  refine wp_blk (pc' := 17) (L' := [some (.ref 19), some (.ref 4), some (.ref 41)]) (st' := []) (h' := zH (zui I 19 1 5) (zPr 1)) 1 rfl ?_
  refine wp_blk (pc' := 18) (L' := [some (.ref 19), some (.ref 4), some (.ref 41)]) (st' := [.ref 4]) (h' := zH (zui I 19 1 5) (zPr 1)) 1 rfl ?_
  refine wp_blk (pc' := 19) (L' := [some (.ref 19), some (.ref 4), some (.ref 41)]) (st' := [.ref 41, .ref 4]) (h' := zH (zui I 19 1 5) (zPr 1)) 1 rfl ?_
  refine wp_callf (d := 37) (as := [.ref 4, .ref 41]) (rest := []) (Ld := [some (.ref 4), some (.ref 41)]) (pc' := 22) (st' := []) (r := none) (h1 := zH (g_M_copy 4 5 6 7 41 42 43 44 (zui I 19 1 5)) (zPr 1)) rfl rfl rfl rfl rfl rfl rfl rfl rfl (xp_M_copy_4_41 _ _ (0, (g_M_copy 4 5 6 7 41 42 43 44 (zui I 19 1 5))) rfl) ?_
  refine wp_blk (pc' := 23) (L' := [some (.ref 19), some (.ref 4), some (.ref 41)]) (st' := [.ref 19]) (h' := zH (g_M_copy 4 5 6 7 41 42 43 44 (zui I 19 1 5)) (zPr 1)) 1 rfl ?_
  refine wp_blk (pc' := 24) (L' := [some (.ref 19), some (.ref 4), some (.ref 41)]) (st' := [.ref 19, .ref 19]) (h' := zH (g_M_copy 4 5 6 7 41 42 43 44 (zui I 19 1 5)) (zPr 1)) 1 rfl ?_
  refine wp_blk (pc' := 27) (L' := [some (.ref 19), some (.ref 4), some (.ref 41)]) (st' := [.int ((g_M_copy 4 5 6 7 41 42 43 44 (zui I 19 1 5)) 19 1), .ref 19]) (h' := zH (g_M_copy 4 5 6 7 41 42 43 44 (zui I 19 1 5)) (zPr 1)) 1 rfl ?_
  refine wp_blk (pc' := 28) (L' := [some (.ref 19), some (.ref 4), some (.ref 41)]) (st' := [.int 1, .int ((g_M_copy 4 5 6 7 41 42 43 44 (zui I 19 1 5)) 19 1), .ref 19]) (h' := zH (g_M_copy 4 5 6 7 41 42 43 44 (zui I 19 1 5)) (zPr 1)) 1 rfl ?_
  refine wp_blk (pc' := 29) (L' := [some (.ref 19), some (.ref 4), some (.ref 41)]) (st' := [.int (((g_M_copy 4 5 6 7 41 42 43 44 (zui I 19 1 5)) 19 1) - 1), .ref 19]) (h' := zH (g_M_copy 4 5 6 7 41 42 43 44 (zui I 19 1 5)) (zPr 1)) 1 rfl ?_
  refine wp_blk (pc' := 32) (L' := [some (.ref 19), some (.ref 4), some (.ref 41)]) (st' := []) (h' := zH (zui (g_M_copy 4 5 6 7 41 42 43 44 (zui I 19 1 5)) 19 1 (((g_M_copy 4 5 6 7 41 42 43 44 (zui I 19 1 5)) 19 1) - 1)) (zPr 1)) 1 rfl ?_
  refine wp_blk (pc' := 33) (L' := [some (.ref 19), some (.ref 4), some (.ref 41)]) (st' := [.int 1]) (h' := zH (zui (g_M_copy 4 5 6 7 41 42 43 44 (zui I 19 1 5)) 19 1 (((g_M_copy 4 5 6 7 41 42 43 44 (zui I 19 1 5)) 19 1) - 1)) (zPr 1)) 1 rfl ?_
  exact wp_end rfl rfl ⟨rfl, rfl⟩
set_option maxRecDepth 100000 in
theorem sp_put19_1_6 {X : Nat × (Nat → Int32)} (I : Nat → Nat → Int32) : Wf X 65 [some (.ref 19), some (.ref 4), none] (zH (zui I 19 1 6) (zPr 1)) none (zH (zui (g_M_copy 49 50 51 52 4 5 6 7 (zui I 19 1 6)) 19 1 (((g_M_copy 49 50 51 52 4 5 6 7 (zui I 19 1 6)) 19 1) + 1)) (zPr 1)) := by
  unfold Wf
  refine wp_blk (pc' := 1) (L' := [some (.ref 19), some (.ref 4), none]) (st' := [.ref 19]) (h' := zH (zui I 19 1 6) (zPr 1)) 1 rfl ?_
  refine wp_callf (d := 66) (as := [.ref 19]) (rest := []) (Ld := [some (.ref 19)]) (pc' := 4) (st' := [.int 0]) (r := some (.int 0)) (h1 := zH (zui I 19 1 6) (zPr 1)) rfl rfl rfl rfl rfl rfl rfl rfl rfl (sp_H1_isFull (X := X) (zui I 19 1 6) (zPr 1)) ?_
  refine wp_blk (pc' := 11) (L' := [some (.ref 19), some (.ref 4), none]) (st' := []) (h' := zH (zui I 19 1 6) (zPr 1)) 1 rfl ?_
  refine wp_blk (pc' := 12) (L' := [some (.ref 19), some (.ref 4), none]) (st' := [.ref 19]) (h' := zH (zui I 19 1 6) (zPr 1)) 1 rfl ?_
  refine wp_blk (pc' := 13) (L' := [some (.ref 19), some (.ref 4), none]) (st' := [.ref 19, .ref 19]) (h' := zH (zui I 19 1 6) (zPr 1)) 1 rfl ?_
  refine wp_blk (pc' := 16) (L' := [some (.ref 19), some (.ref 4), none]) (st' := [.int 6, .ref 19]) (h' := zH (zui I 19 1 6) (zPr 1)) 1 rfl ?_
  refine wp_callf (d := 68) (as := [.ref 19, .int 6]) (rest := []) (Ld := [some (.ref 19), some (.int 6)]) (pc' := 19) (st' := [.ref 49]) (r := some (.ref 49)) (h1 := zH (zui I 19 1 6) (zPr 1)) rfl rfl rfl rfl rfl rfl rfl rfl rfl (sp_at19_1_6 (X := X) (zui I 19 1 6)) ?_
  refine wp_blk (pc' := 20) (L' := [some (.ref 19), some (.ref 4), some (.ref 49)]) (st' := []) (h' := zH (zui I 19 1 6) (zPr 1)) 1 rfl ?_
  refine wp_blk (pc' := 21) (L' := [some (.ref 19), some (.ref 4), some (.ref 49)]) (st' := [.ref 49]) (h' := zH (zui I 19 1 6) (zPr 1)) 1 rfl ?_
  refine wp_blk (pc' := 24) (L' := [some (.ref 19), some (.ref 4), some (.ref 49)]) (st' := []) (h' := zH (zui I 19 1 6) (zPr 1)) 1 rfl ?_
  refine wp_blk (pc' := 25) (L' := [some (.ref 19), some (.ref 4), some (.ref 49)]) (st' := [.ref 49]) (h' := zH (zui I 19 1 6) (zPr 1)) 1 rfl ?_
  refine wp_blk (pc' := 26) (L' := [some (.ref 19), some (.ref 4), some (.ref 49)]) (st' := [.ref 4, .ref 49]) (h' := zH (zui I 19 1 6) (zPr 1)) 1 rfl ?_
  refine wp_callf (d := 37) (as := [.ref 49, .ref 4]) (rest := []) (Ld := [some (.ref 49), some (.ref 4)]) (pc' := 29) (st' := []) (r := none) (h1 := zH (g_M_copy 49 50 51 52 4 5 6 7 (zui I 19 1 6)) (zPr 1)) rfl rfl rfl rfl rfl rfl rfl rfl rfl (xp_M_copy_49_4 _ _ (0, (g_M_copy 49 50 51 52 4 5 6 7 (zui I 19 1 6))) rfl) ?_
  refine wp_blk (pc' := 30) (L' := [some (.ref 19), some (.ref 4), some (.ref 49)]) (st' := [.ref 19]) (h' := zH (g_M_copy 49 50 51 52 4 5 6 7 (zui I 19 1 6)) (zPr 1)) 1 rfl ?_
  refine wp_blk (pc' := 31) (L' := [some (.ref 19), some (.ref 4), some (.ref 49)]) (st' := [.ref 19, .ref 19]) (h' := zH (g_M_copy 49 50 51 52 4 5 6 7 (zui I 19 1 6)) (zPr 1)) 1 rfl ?_
  refine wp_blk (pc' := 34) (L' := [some (.ref 19), some (.ref 4), some (.ref 49)]) (st' := [.int ((g_M_copy 49 50 51 52 4 5 6 7 (zui I 19 1 6)) 19 1), .ref 19]) (h' := zH (g_M_copy 49 50 51 52 4 5 6 7 (zui I 19 1 6)) (zPr 1)) 1 rfl ?_
  refine wp_blk (pc' := 35) (L' := [some (.ref 19), some (.ref 4), some (.ref 49)]) (st' := [.int 1, .int ((g_M_copy 49 50 51 52 4 5 6 7 (zui I 19 1 6)) 19 1), .ref 19]) (h' := zH (g_M_copy 49 50 51 52 4 5 6 7 (zui I 19 1 6)) (zPr 1)) 1 rfl ?_
  refine wp_blk (pc' := 36) (L' := [some (.ref 19), some (.ref 4), some (.ref 49)]) (st' := [.int (((g_M_copy 49 50 51 52 4 5 6 7 (zui I 19 1 6)) 19 1) + 1), .ref 19]) (h' := zH (g_M_copy 49 50 51 52 4 5 6 7 (zui I 19 1 6)) (zPr 1)) 1 rfl ?_
  refine wp_blk (pc' := 39) (L' := [some (.ref 19), some (.ref 4), some (.ref 49)]) (st' := []) (h' := zH (zui (g_M_copy 49 50 51 52 4 5 6 7 (zui I 19 1 6)) 19 1 (((g_M_copy 49 50 51 52 4 5 6 7 (zui I 19 1 6)) 19 1) + 1)) (zPr 1)) 1 rfl ?_
  exact wp_end rfl rfl ⟨rfl, rfl⟩
set_option maxRecDepth 100000 in
theorem sp_take19_1_6 {X : Nat × (Nat → Int32)} (I : Nat → Nat → Int32) : Wf X 79 [some (.ref 19), some (.ref 4), none] (zH (zui I 19 1 6) (zPr 1)) (some (.int 1)) (zH (zui (g_M_copy 4 5 6 7 45 46 47 48 (zui I 19 1 6)) 19 1 (((g_M_copy 4 5 6 7 45 46 47 48 (zui I 19 1 6)) 19 1) - 1)) (zPr 1)) := by
  unfold Wf
  refine wp_blk (pc' := 1) (L' := [some (.ref 19), some (.ref 4), none]) (st' := [.ref 19]) (h' := zH (zui I 19 1 6) (zPr 1)) 1 rfl ?_
  refine wp_blk (pc' := 2) (L' := [some (.ref 19), some (.ref 4), none]) (st' := [.ref 19, .ref 19]) (h' := zH (zui I 19 1 6) (zPr 1)) 1 rfl ?_
  refine wp_blk (pc' := 5) (L' := [some (.ref 19), some (.ref 4), none]) (st' := [.int 6, .ref 19]) (h' := zH (zui I 19 1 6) (zPr 1)) 1 rfl ?_
  refine wp_blk (pc' := 6) (L' := [some (.ref 19), some (.ref 4), none]) (st' := [.int 1, .int 6, .ref 19]) (h' := zH (zui I 19 1 6) (zPr 1)) 1 rfl ?_
  refine wp_blk (pc' := 7) (L' := [some (.ref 19), some (.ref 4), none]) (st' := [.int 5, .ref 19]) (h' := zH (zui I 19 1 6) (zPr 1)) 1 rfl ?_
  refine wp_callf (d := 68) (as := [.ref 19, .int 5]) (rest := []) (Ld := [some (.ref 19), some (.int 5)]) (pc' := 10) (st' := [.ref 45]) (r := some (.ref 45)) (h1 := zH (zui I 19 1 6) (zPr 1)) rfl rfl rfl rfl rfl rfl rfl rfl rfl (sp_at19_1_5 (X := X) (zui I 19 1 6)) ?_
  refine wp_blk (pc' := 11) (L' := [some (.ref 19), some (.ref 4), some (.ref 45)]) (st' := []) (h' := zH (zui I 19 1 6) (zPr 1)) 1 rfl ?_
  refine wp_blk (pc' := 12) (L' := [some (.ref 19), some (.ref 4), some (.ref 45)]) (st' := [.ref 45]) (h' := zH (zui I 19 1 6) (zPr 1)) 1 rfl ?_
  refine wp_blk (pc' := 17) (L' := [some (.ref 19), some (.ref 4), some (.ref 45)]) (st' := []) (h' := zH (zui I 19 1 6) (zPr 1)) 1 rfl ?_
  refine wp_blk (pc' := 18) (L' := [some (.ref 19), some (.ref 4), some (.ref 45)]) (st' := [.ref 4]) (h' := zH (zui I 19 1 6) (zPr 1)) 1 rfl ?_
  refine wp_blk (pc' := 19) (L' := [some (.ref 19), some (.ref 4), some (.ref 45)]) (st' := [.ref 45, .ref 4]) (h' := zH (zui I 19 1 6) (zPr 1)) 1 rfl ?_
  refine wp_callf (d := 37) (as := [.ref 4, .ref 45]) (rest := []) (Ld := [some (.ref 4), some (.ref 45)]) (pc' := 22) (st' := []) (r := none) (h1 := zH (g_M_copy 4 5 6 7 45 46 47 48 (zui I 19 1 6)) (zPr 1)) rfl rfl rfl rfl rfl rfl rfl rfl rfl (xp_M_copy_4_45 _ _ (0, (g_M_copy 4 5 6 7 45 46 47 48 (zui I 19 1 6))) rfl) ?_
  refine wp_blk (pc' := 23) (L' := [some (.ref 19), some (.ref 4), some (.ref 45)]) (st' := [.ref 19]) (h' := zH (g_M_copy 4 5 6 7 45 46 47 48 (zui I 19 1 6)) (zPr 1)) 1 rfl ?_
  refine wp_blk (pc' := 24) (L' := [some (.ref 19), some (.ref 4), some (.ref 45)]) (st' := [.ref 19, .ref 19]) (h' := zH (g_M_copy 4 5 6 7 45 46 47 48 (zui I 19 1 6)) (zPr 1)) 1 rfl ?_
  refine wp_blk (pc' := 27) (L' := [some (.ref 19), some (.ref 4), some (.ref 45)]) (st' := [.int ((g_M_copy 4 5 6 7 45 46 47 48 (zui I 19 1 6)) 19 1), .ref 19]) (h' := zH (g_M_copy 4 5 6 7 45 46 47 48 (zui I 19 1 6)) (zPr 1)) 1 rfl ?_
  refine wp_blk (pc' := 28) (L' := [some (.ref 19), some (.ref 4), some (.ref 45)]) (st' := [.int 1, .int ((g_M_copy 4 5 6 7 45 46 47 48 (zui I 19 1 6)) 19 1), .ref 19]) (h' := zH (g_M_copy 4 5 6 7 45 46 47 48 (zui I 19 1 6)) (zPr 1)) 1 rfl ?_
  refine wp_blk (pc' := 29) (L' := [some (.ref 19), some (.ref 4), some (.ref 45)]) (st' := [.int (((g_M_copy 4 5 6 7 45 46 47 48 (zui I 19 1 6)) 19 1) - 1), .ref 19]) (h' := zH (g_M_copy 4 5 6 7 45 46 47 48 (zui I 19 1 6)) (zPr 1)) 1 rfl ?_
  refine wp_blk (pc' := 32) (L' := [some (.ref 19), some (.ref 4), some (.ref 45)]) (st' := []) (h' := zH (zui (g_M_copy 4 5 6 7 45 46 47 48 (zui I 19 1 6)) 19 1 (((g_M_copy 4 5 6 7 45 46 47 48 (zui I 19 1 6)) 19 1) - 1)) (zPr 1)) 1 rfl ?_
  refine wp_blk (pc' := 33) (L' := [some (.ref 19), some (.ref 4), some (.ref 45)]) (st' := [.int 1]) (h' := zH (zui (g_M_copy 4 5 6 7 45 46 47 48 (zui I 19 1 6)) 19 1 (((g_M_copy 4 5 6 7 45 46 47 48 (zui I 19 1 6)) 19 1) - 1)) (zPr 1)) 1 rfl ?_
  exact wp_end rfl rfl ⟨rfl, rfl⟩
set_option maxRecDepth 100000 in
theorem sp_put19_1_7 {X : Nat × (Nat → Int32)} (I : Nat → Nat → Int32) : Wf X 65 [some (.ref 19), some (.ref 4), none] (zH (zui I 19 1 7) (zPr 1)) none (zH (zui (g_M_copy 21 22 23 24 4 5 6 7 (zui I 19 1 7)) 19 1 (((g_M_copy 21 22 23 24 4 5 6 7 (zui I 19 1 7)) 19 1) + 1)) (zPr 1)) := by
  unfold Wf
  refine wp_blk (pc' := 1) (L' := [some (.ref 19), some (.ref 4), none]) (st' := [.ref 19]) (h' := zH (zui I 19 1 7) (zPr 1)) 1 rfl ?_
  refine wp_callf (d := 66) (as := [.ref 19]) (rest := []) (Ld := [some (.ref 19)]) (pc' := 4) (st' := [.int 0]) (r := some (.int 0)) (h1 := zH (zui I 19 1 7) (zPr 1)) rfl rfl rfl rfl rfl rfl rfl rfl rfl (sp_H1_isFull (X := X) (zui I 19 1 7) (zPr 1)) ?_
  refine wp_blk (pc' := 11) (L' := [some (.ref 19), some (.ref 4), none]) (st' := []) (h' := zH (zui I 19 1 7) (zPr 1)) 1 rfl ?_
  refine wp_blk (pc' := 12) (L' := [some (.ref 19), some (.ref 4), none]) (st' := [.ref 19]) (h' := zH (zui I 19 1 7) (zPr 1)) 1 rfl ?_
  refine wp_blk (pc' := 13) (L' := [some (.ref 19), some (.ref 4), none]) (st' := [.ref 19, .ref 19]) (h' := zH (zui I 19 1 7) (zPr 1)) 1 rfl ?_
  refine wp_blk (pc' := 16) (L' := [some (.ref 19), some (.ref 4), none]) (st' := [.int 7, .ref 19]) (h' := zH (zui I 19 1 7) (zPr 1)) 1 rfl ?_
  refine wp_callf (d := 68) (as := [.ref 19, .int 7]) (rest := []) (Ld := [some (.ref 19), some (.int 7)]) (pc' := 19) (st' := [.ref 21]) (r := some (.ref 21)) (h1 := zH (zui I 19 1 7) (zPr 1)) rfl rfl rfl rfl rfl rfl rfl rfl rfl (sp_at19_1_7 (X := X) (zui I 19 1 7)) ?_
  refine wp_blk (pc' := 20) (L' := [some (.ref 19), some (.ref 4), some (.ref 21)]) (st' := []) (h' := zH (zui I 19 1 7) (zPr 1)) 1 rfl ?_
  refine wp_blk (pc' := 21) (L' := [some (.ref 19), some (.ref 4), some (.ref 21)]) (st' := [.ref 21]) (h' := zH (zui I 19 1 7) (zPr 1)) 1 rfl ?_
  refine wp_blk (pc' := 24) (L' := [some (.ref 19), some (.ref 4), some (.ref 21)]) (st' := []) (h' := zH (zui I 19 1 7) (zPr 1)) 1 rfl ?_
  refine wp_blk (pc' := 25) (L' := [some (.ref 19), some (.ref 4), some (.ref 21)]) (st' := [.ref 21]) (h' := zH (zui I 19 1 7) (zPr 1)) 1 rfl ?_
  refine wp_blk (pc' := 26) (L' := [some (.ref 19), some (.ref 4), some (.ref 21)]) (st' := [.ref 4, .ref 21]) (h' := zH (zui I 19 1 7) (zPr 1)) 1 rfl ?_
  refine wp_callf (d := 37) (as := [.ref 21, .ref 4]) (rest := []) (Ld := [some (.ref 21), some (.ref 4)]) (pc' := 29) (st' := []) (r := none) (h1 := zH (g_M_copy 21 22 23 24 4 5 6 7 (zui I 19 1 7)) (zPr 1)) rfl rfl rfl rfl rfl rfl rfl rfl rfl (xp_M_copy_21_4 _ _ (0, (g_M_copy 21 22 23 24 4 5 6 7 (zui I 19 1 7))) rfl) ?_
  refine wp_blk (pc' := 30) (L' := [some (.ref 19), some (.ref 4), some (.ref 21)]) (st' := [.ref 19]) (h' := zH (g_M_copy 21 22 23 24 4 5 6 7 (zui I 19 1 7)) (zPr 1)) 1 rfl ?_
  refine wp_blk (pc' := 31) (L' := [some (.ref 19), some (.ref 4), some (.ref 21)]) (st' := [.ref 19, .ref 19]) (h' := zH (g_M_copy 21 22 23 24 4 5 6 7 (zui I 19 1 7)) (zPr 1)) 1 rfl ?_
  refine wp_blk (pc' := 34) (L' := [some (.ref 19), some (.ref 4), some (.ref 21)]) (st' := [.int ((g_M_copy 21 22 23 24 4 5 6 7 (zui I 19 1 7)) 19 1), .ref 19]) (h' := zH (g_M_copy 21 22 23 24 4 5 6 7 (zui I 19 1 7)) (zPr 1)) 1 rfl ?_
  refine wp_blk (pc' := 35) (L' := [some (.ref 19), some (.ref 4), some (.ref 21)]) (st' := [.int 1, .int ((g_M_copy 21 22 23 24 4 5 6 7 (zui I 19 1 7)) 19 1), .ref 19]) (h' := zH (g_M_copy 21 22 23 24 4 5 6 7 (zui I 19 1 7)) (zPr 1)) 1 rfl ?_
  refine wp_blk (pc' := 36) (L' := [some (.ref 19), some (.ref 4), some (.ref 21)]) (st' := [.int (((g_M_copy 21 22 23 24 4 5 6 7 (zui I 19 1 7)) 19 1) + 1), .ref 19]) (h' := zH (g_M_copy 21 22 23 24 4 5 6 7 (zui I 19 1 7)) (zPr 1)) 1 rfl ?_
  refine wp_blk (pc' := 39) (L' := [some (.ref 19), some (.ref 4), some (.ref 21)]) (st' := []) (h' := zH (zui (g_M_copy 21 22 23 24 4 5 6 7 (zui I 19 1 7)) 19 1 (((g_M_copy 21 22 23 24 4 5 6 7 (zui I 19 1 7)) 19 1) + 1)) (zPr 1)) 1 rfl ?_
  exact wp_end rfl rfl ⟨rfl, rfl⟩
set_option maxRecDepth 100000 in
theorem sp_take19_1_7 {X : Nat × (Nat → Int32)} (I : Nat → Nat → Int32) : Wf X 79 [some (.ref 19), some (.ref 4), none] (zH (zui I 19 1 7) (zPr 1)) (some (.int 1)) (zH (zui (g_M_copy 4 5 6 7 49 50 51 52 (zui I 19 1 7)) 19 1 (((g_M_copy 4 5 6 7 49 50 51 52 (zui I 19 1 7)) 19 1) - 1)) (zPr 1)) := by
  unfold Wf
  refine wp_blk (pc' := 1) (L' := [some (.ref 19), some (.ref 4), none]) (st' := [.ref 19]) (h' := zH (zui I 19 1 7) (zPr 1)) 1 rfl ?_
  refine wp_blk (pc' := 2) (L' := [some (.ref 19), some (.ref 4), none]) (st' := [.ref 19, .ref 19]) (h' := zH (zui I 19 1 7) (zPr 1)) 1 rfl ?_
  refine wp_blk (pc' := 5) (L' := [some (.ref 19), some (.ref 4), none]) (st' := [.int 7, .ref 19]) (h' := zH (zui I 19 1 7) (zPr 1)) 1 rfl ?_
  refine wp_blk (pc' := 6) (L' := [some (.ref 19), some (.ref 4), none]) (st' := [.int 1, .int 7, .ref 19]) (h' := zH (zui I 19 1 7) (zPr 1)) 1 rfl ?_
  refine wp_blk (pc' := 7) (L' := [some (.ref 19), some (.ref 4), none]) (st' := [.int 6, .ref 19]) (h' := zH (zui I 19 1 7) (zPr 1)) 1 rfl ?_
  refine wp_callf (d := 68) (as := [.ref 19, .int 6]) (rest := []) (Ld := [some (.ref 19), some (.int 6)]) (pc' := 10) (st' := [.ref 49]) (r := some (.ref 49)) (h1 := zH (zui I 19 1 7) (zPr 1)) rfl rfl rfl rfl rfl rfl rfl rfl rfl (sp_at19_1_6 (X := X) (zui I 19 1 7)) ?_
  refine wp_blk (pc' := 11) (L' := [some (.ref 19), some (.ref 4), some (.ref 49)]) (st' := []) (h' := zH (zui I 19 1 7) (zPr 1)) 1 rfl ?_
  refine wp_blk (pc' := 12) (L' := [some (.ref 19), some (.ref 4), some (.ref 49)]) (st' := [.ref 49]) (h' := zH (zui I 19 1 7) (zPr 1)) 1 rfl ?_
  refine wp_blk (pc' := 17) (L' := [some (.ref 19), some (.ref 4), some (.ref 49)]) (st' := []) (h' := zH (zui I 19 1 7) (zPr 1)) 1 rfl ?_
  refine wp_blk (pc' := 18) (L' := [some (.ref 19), some (.ref 4), some (.ref 49)]) (st' := [.ref 4]) (h' := zH (zui I 19 1 7) (zPr 1)) 1 rfl ?_
  refine wp_blk (pc' := 19) (L' := [some (.ref 19), some (.ref 4), some (.ref 49)]) (st' := [.ref 49, .ref 4]) (h' := zH (zui I 19 1 7) (zPr 1)) 1 rfl ?_
  refine wp_callf (d := 37) (as := [.ref 4, .ref 49]) (rest := []) (Ld := [some (.ref 4), some (.ref 49)]) (pc' := 22) (st' := []) (r := none) (h1 := zH (g_M_copy 4 5 6 7 49 50 51 52 (zui I 19 1 7)) (zPr 1)) rfl rfl rfl rfl rfl rfl rfl rfl rfl (xp_M_copy_4_49 _ _ (0, (g_M_copy 4 5 6 7 49 50 51 52 (zui I 19 1 7))) rfl) ?_
  refine wp_blk (pc' := 23) (L' := [some (.ref 19), some (.ref 4), some (.ref 49)]) (st' := [.ref 19]) (h' := zH (g_M_copy 4 5 6 7 49 50 51 52 (zui I 19 1 7)) (zPr 1)) 1 rfl ?_
  refine wp_blk (pc' := 24) (L' := [some (.ref 19), some (.ref 4), some (.ref 49)]) (st' := [.ref 19, .ref 19]) (h' := zH (g_M_copy 4 5 6 7 49 50 51 52 (zui I 19 1 7)) (zPr 1)) 1 rfl ?_
  refine wp_blk (pc' := 27) (L' := [some (.ref 19), some (.ref 4), some (.ref 49)]) (st' := [.int ((g_M_copy 4 5 6 7 49 50 51 52 (zui I 19 1 7)) 19 1), .ref 19]) (h' := zH (g_M_copy 4 5 6 7 49 50 51 52 (zui I 19 1 7)) (zPr 1)) 1 rfl ?_
  refine wp_blk (pc' := 28) (L' := [some (.ref 19), some (.ref 4), some (.ref 49)]) (st' := [.int 1, .int ((g_M_copy 4 5 6 7 49 50 51 52 (zui I 19 1 7)) 19 1), .ref 19]) (h' := zH (g_M_copy 4 5 6 7 49 50 51 52 (zui I 19 1 7)) (zPr 1)) 1 rfl ?_
  refine wp_blk (pc' := 29) (L' := [some (.ref 19), some (.ref 4), some (.ref 49)]) (st' := [.int (((g_M_copy 4 5 6 7 49 50 51 52 (zui I 19 1 7)) 19 1) - 1), .ref 19]) (h' := zH (g_M_copy 4 5 6 7 49 50 51 52 (zui I 19 1 7)) (zPr 1)) 1 rfl ?_
  refine wp_blk (pc' := 32) (L' := [some (.ref 19), some (.ref 4), some (.ref 49)]) (st' := []) (h' := zH (zui (g_M_copy 4 5 6 7 49 50 51 52 (zui I 19 1 7)) 19 1 (((g_M_copy 4 5 6 7 49 50 51 52 (zui I 19 1 7)) 19 1) - 1)) (zPr 1)) 1 rfl ?_
  refine wp_blk (pc' := 33) (L' := [some (.ref 19), some (.ref 4), some (.ref 49)]) (st' := [.int 1]) (h' := zH (zui (g_M_copy 4 5 6 7 49 50 51 52 (zui I 19 1 7)) 19 1 (((g_M_copy 4 5 6 7 49 50 51 52 (zui I 19 1 7)) 19 1) - 1)) (zPr 1)) 1 rfl ?_
  exact wp_end rfl rfl ⟨rfl, rfl⟩
set_option maxRecDepth 100000 in
theorem sp_put19_1_8 {X : Nat × (Nat → Int32)} (I : Nat → Nat → Int32) : Wf X 65 [some (.ref 19), some (.ref 4), none] (zH (zui I 19 1 8) (zPr 1)) none (zH (zui (g_M_copy 25 26 27 28 4 5 6 7 (zui (zui I 19 1 8) 19 1 7)) 19 1 (((g_M_copy 25 26 27 28 4 5 6 7 (zui (zui I 19 1 8) 19 1 7)) 19 1) + 1)) (zPr 2)) := by
  unfold Wf
  refine wp_blk (pc' := 1) (L' := [some (.ref 19), some (.ref 4), none]) (st' := [.ref 19]) (h' := zH (zui I 19 1 8) (zPr 1)) 1 rfl ?_
  refine wp_callf (d := 66) (as := [.ref 19]) (rest := []) (Ld := [some (.ref 19)]) (pc' := 4) (st' := [.int 1]) (r := some (.int 1)) (h1 := zH (zui I 19 1 8) (zPr 1)) rfl rfl rfl rfl rfl rfl rfl rfl rfl (sp_H1_isFull (X := X) (zui I 19 1 8) (zPr 1)) ?_
  refine wp_blk (pc' := 7) (L' := [some (.ref 19), some (.ref 4), none]) (st' := []) (h' := zH (zui I 19 1 8) (zPr 1)) 1 rfl ?_
  refine wp_blk (pc' := 8) (L' := [some (.ref 19), some (.ref 4), none]) (st' := [.ref 19]) (h' := zH (zui I 19 1 8) (zPr 1)) 1 rfl ?_
  refine wp_callf (d := 67) (as := [.ref 19]) (rest := []) (Ld := [some (.ref 19), none, none]) (pc' := 11) (st' := []) (r := none) (h1 := zH (zui (zui I 19 1 8) 19 1 7) (zPr 2)) rfl rfl rfl rfl rfl rfl rfl rfl rfl (sp_drop_1 (X := X) (zui I 19 1 8)) ?_
  refine wp_blk (pc' := 12) (L' := [some (.ref 19), some (.ref 4), none]) (st' := [.ref 19]) (h' := zH (zui (zui I 19 1 8) 19 1 7) (zPr 2)) 1 rfl ?_
  refine wp_blk (pc' := 13) (L' := [some (.ref 19), some (.ref 4), none]) (st' := [.ref 19, .ref 19]) (h' := zH (zui (zui I 19 1 8) 19 1 7) (zPr 2)) 1 rfl ?_
  refine wp_blk (pc' := 16) (L' := [some (.ref 19), some (.ref 4), none]) (st' := [.int 7, .ref 19]) (h' := zH (zui (zui I 19 1 8) 19 1 7) (zPr 2)) 1 rfl ?_
  refine wp_callf (d := 68) (as := [.ref 19, .int 7]) (rest := []) (Ld := [some (.ref 19), some (.int 7)]) (pc' := 19) (st' := [.ref 25]) (r := some (.ref 25)) (h1 := zH (zui (zui I 19 1 8) 19 1 7) (zPr 2)) rfl rfl rfl rfl rfl rfl rfl rfl rfl (sp_at19_2_7 (X := X) (zui (zui I 19 1 8) 19 1 7)) ?_
  refine wp_blk (pc' := 20) (L' := [some (.ref 19), some (.ref 4), some (.ref 25)]) (st' := []) (h' := zH (zui (zui I 19 1 8) 19 1 7) (zPr 2)) 1 rfl ?_
  refine wp_blk (pc' := 21) (L' := [some (.ref 19), some (.ref 4), some (.ref 25)]) (st' := [.ref 25]) (h' := zH (zui (zui I 19 1 8) 19 1 7) (zPr 2)) 1 rfl ?_
  refine wp_blk (pc' := 24) (L' := [some (.ref 19), some (.ref 4), some (.ref 25)]) (st' := []) (h' := zH (zui (zui I 19 1 8) 19 1 7) (zPr 2)) 1 rfl ?_
  refine wp_blk (pc' := 25) (L' := [some (.ref 19), some (.ref 4), some (.ref 25)]) (st' := [.ref 25]) (h' := zH (zui (zui I 19 1 8) 19 1 7) (zPr 2)) 1 rfl ?_
  refine wp_blk (pc' := 26) (L' := [some (.ref 19), some (.ref 4), some (.ref 25)]) (st' := [.ref 4, .ref 25]) (h' := zH (zui (zui I 19 1 8) 19 1 7) (zPr 2)) 1 rfl ?_
  refine wp_callf (d := 37) (as := [.ref 25, .ref 4]) (rest := []) (Ld := [some (.ref 25), some (.ref 4)]) (pc' := 29) (st' := []) (r := none) (h1 := zH (g_M_copy 25 26 27 28 4 5 6 7 (zui (zui I 19 1 8) 19 1 7)) (zPr 2)) rfl rfl rfl rfl rfl rfl rfl rfl rfl (xp_M_copy_25_4 _ _ (0, (g_M_copy 25 26 27 28 4 5 6 7 (zui (zui I 19 1 8) 19 1 7))) rfl) ?_
  refine wp_blk (pc' := 30) (L' := [some (.ref 19), some (.ref 4), some (.ref 25)]) (st' := [.ref 19]) (h' := zH (g_M_copy 25 26 27 28 4 5 6 7 (zui (zui I 19 1 8) 19 1 7)) (zPr 2)) 1 rfl ?_
  refine wp_blk (pc' := 31) (L' := [some (.ref 19), some (.ref 4), some (.ref 25)]) (st' := [.ref 19, .ref 19]) (h' := zH (g_M_copy 25 26 27 28 4 5 6 7 (zui (zui I 19 1 8) 19 1 7)) (zPr 2)) 1 rfl ?_
  refine wp_blk (pc' := 34) (L' := [some (.ref 19), some (.ref 4), some (.ref 25)]) (st' := [.int ((g_M_copy 25 26 27 28 4 5 6 7 (zui (zui I 19 1 8) 19 1 7)) 19 1), .ref 19]) (h' := zH (g_M_copy 25 26 27 28 4 5 6 7 (zui (zui I 19 1 8) 19 1 7)) (zPr 2)) 1 rfl ?_
  refine wp_blk (pc' := 35) (L' := [some (.ref 19), some (.ref 4), some (.ref 25)]) (st' := [.int 1, .int ((g_M_copy 25 26 27 28 4 5 6 7 (zui (zui I 19 1 8) 19 1 7)) 19 1), .ref 19]) (h' := zH (g_M_copy 25 26 27 28 4 5 6 7 (zui (zui I 19 1 8) 19 1 7)) (zPr 2)) 1 rfl ?_
  refine wp_blk (pc' := 36) (L' := [some (.ref 19), some (.ref 4), some (.ref 25)]) (st' := [.int (((g_M_copy 25 26 27 28 4 5 6 7 (zui (zui I 19 1 8) 19 1 7)) 19 1) + 1), .ref 19]) (h' := zH (g_M_copy 25 26 27 28 4 5 6 7 (zui (zui I 19 1 8) 19 1 7)) (zPr 2)) 1 rfl ?_
  refine wp_blk (pc' := 39) (L' := [some (.ref 19), some (.ref 4), some (.ref 25)]) (st' := []) (h' := zH (zui (g_M_copy 25 26 27 28 4 5 6 7 (zui (zui I 19 1 8) 19 1 7)) 19 1 (((g_M_copy 25 26 27 28 4 5 6 7 (zui (zui I 19 1 8) 19 1 7)) 19 1) + 1)) (zPr 2)) 1 rfl ?_
  exact wp_end rfl rfl ⟨rfl, rfl⟩
set_option maxRecDepth 100000 in
theorem sp_take19_1_8 {X : Nat × (Nat → Int32)} (I : Nat → Nat → Int32) : Wf X 79 [some (.ref 19), some (.ref 4), none] (zH (zui I 19 1 8) (zPr 1)) (some (.int 1)) (zH (zui (g_M_copy 4 5 6 7 21 22 23 24 (zui I 19 1 8)) 19 1 (((g_M_copy 4 5 6 7 21 22 23 24 (zui I 19 1 8)) 19 1) - 1)) (zPr 1)) := by
  unfold Wf
  refine wp_blk (pc' := 1) (L' := [some (.ref 19), some (.ref 4), none]) (st' := [.ref 19]) (h' := zH (zui I 19 1 8) (zPr 1)) 1 rfl ?_
  refine wp_blk (pc' := 2) (L' := [some (.ref 19), some (.ref 4), none]) (st' := [.ref 19, .ref 19]) (h' := zH (zui I 19 1 8) (zPr 1)) 1 rfl ?_
  refine wp_blk (pc' := 5) (L' := [some (.ref 19), some (.ref 4), none]) (st' := [.int 8, .ref 19]) (h' := zH (zui I 19 1 8) (zPr 1)) 1 rfl ?_
  refine wp_blk (pc' := 6) (L' := [some (.ref 19), some (.ref 4), none]) (st' := [.int 1, .int 8, .ref 19]) (h' := zH (zui I 19 1 8) (zPr 1)) 1 rfl ?_
  refine wp_blk (pc' := 7) (L' := [some (.ref 19), some (.ref 4), none]) (st' := [.int 7, .ref 19]) (h' := zH (zui I 19 1 8) (zPr 1)) 1 rfl ?_
  refine wp_callf (d := 68) (as := [.ref 19, .int 7]) (rest := []) (Ld := [some (.ref 19), some (.int 7)]) (pc' := 10) (st' := [.ref 21]) (r := some (.ref 21)) (h1 := zH (zui I 19 1 8) (zPr 1)) rfl rfl rfl rfl rfl rfl rfl rfl rfl (sp_at19_1_7 (X := X) (zui I 19 1 8)) ?_
  refine wp_blk (pc' := 11) (L' := [some (.ref 19), some (.ref 4), some (.ref 21)]) (st' := []) (h' := zH (zui I 19 1 8) (zPr 1)) 1 rfl ?_
  refine wp_blk (pc' := 12) (L' := [some (.ref 19), some (.ref 4), some (.ref 21)]) (st' := [.ref 21]) (h' := zH (zui I 19 1 8) (zPr 1)) 1 rfl ?_
  refine wp_blk (pc' := 17) (L' := [some (.ref 19), some (.ref 4), some (.ref 21)]) (st' := []) (h' := zH (zui I 19 1 8) (zPr 1)) 1 rfl ?_
  refine wp_blk (pc' := 18) (L' := [some (.ref 19), some (.ref 4), some (.ref 21)]) (st' := [.ref 4]) (h' := zH (zui I 19 1 8) (zPr 1)) 1 rfl ?_
  refine wp_blk (pc' := 19) (L' := [some (.ref 19), some (.ref 4), some (.ref 21)]) (st' := [.ref 21, .ref 4]) (h' := zH (zui I 19 1 8) (zPr 1)) 1 rfl ?_
  refine wp_callf (d := 37) (as := [.ref 4, .ref 21]) (rest := []) (Ld := [some (.ref 4), some (.ref 21)]) (pc' := 22) (st' := []) (r := none) (h1 := zH (g_M_copy 4 5 6 7 21 22 23 24 (zui I 19 1 8)) (zPr 1)) rfl rfl rfl rfl rfl rfl rfl rfl rfl (xp_M_copy_4_21 _ _ (0, (g_M_copy 4 5 6 7 21 22 23 24 (zui I 19 1 8))) rfl) ?_
  refine wp_blk (pc' := 23) (L' := [some (.ref 19), some (.ref 4), some (.ref 21)]) (st' := [.ref 19]) (h' := zH (g_M_copy 4 5 6 7 21 22 23 24 (zui I 19 1 8)) (zPr 1)) 1 rfl ?_
  refine wp_blk (pc' := 24) (L' := [some (.ref 19), some (.ref 4), some (.ref 21)]) (st' := [.ref 19, .ref 19]) (h' := zH (g_M_copy 4 5 6 7 21 22 23 24 (zui I 19 1 8)) (zPr 1)) 1 rfl ?_
  refine wp_blk (pc' := 27) (L' := [some (.ref 19), some (.ref 4), some (.ref 21)]) (st' := [.int ((g_M_copy 4 5 6 7 21 22 23 24 (zui I 19 1 8)) 19 1), .ref 19]) (h' := zH (g_M_copy 4 5 6 7 21 22 23 24 (zui I 19 1 8)) (zPr 1)) 1 rfl ?_
  refine wp_blk (pc' := 28) (L' := [some (.ref 19), some (.ref 4), some (.ref 21)]) (st' := [.int 1, .int ((g_M_copy 4 5 6 7 21 22 23 24 (zui I 19 1 8)) 19 1), .ref 19]) (h' := zH (g_M_copy 4 5 6 7 21 22 23 24 (zui I 19 1 8)) (zPr 1)) 1 rfl ?_
  refine wp_blk (pc' := 29) (L' := [some (.ref 19), some (.ref 4), some (.ref 21)]) (st' := [.int (((g_M_copy 4 5 6 7 21 22 23 24 (zui I 19 1 8)) 19 1) - 1), .ref 19]) (h' := zH (g_M_copy 4 5 6 7 21 22 23 24 (zui I 19 1 8)) (zPr 1)) 1 rfl ?_
  refine wp_blk (pc' := 32) (L' := [some (.ref 19), some (.ref 4), some (.ref 21)]) (st' := []) (h' := zH (zui (g_M_copy 4 5 6 7 21 22 23 24 (zui I 19 1 8)) 19 1 (((g_M_copy 4 5 6 7 21 22 23 24 (zui I 19 1 8)) 19 1) - 1)) (zPr 1)) 1 rfl ?_
  refine wp_blk (pc' := 33) (L' := [some (.ref 19), some (.ref 4), some (.ref 21)]) (st' := [.int 1]) (h' := zH (zui (g_M_copy 4 5 6 7 21 22 23 24 (zui I 19 1 8)) 19 1 (((g_M_copy 4 5 6 7 21 22 23 24 (zui I 19 1 8)) 19 1) - 1)) (zPr 1)) 1 rfl ?_
  exact wp_end rfl rfl ⟨rfl, rfl⟩
set_option maxRecDepth 100000 in
theorem sp_put19_2_0 {X : Nat × (Nat → Int32)} (I : Nat → Nat → Int32) : Wf X 65 [some (.ref 19), some (.ref 4), none] (zH (zui I 19 1 0) (zPr 2)) none (zH (zui (g_M_copy 29 30 31 32 4 5 6 7 (zui I 19 1 0)) 19 1 (((g_M_copy 29 30 31 32 4 5 6 7 (zui I 19 1 0)) 19 1) + 1)) (zPr 2)) := by
  unfold Wf
  refine wp_blk (pc' := 1) (L' := [some (.ref 19), some (.ref 4), none]) (st' := [.ref 19]) (h' := zH (zui I 19 1 0) (zPr 2)) 1 rfl ?_
  refine wp_callf (d := 66) (as := [.ref 19]) (rest := []) (Ld := [some (.ref 19)]) (pc' := 4) (st' := [.int 0]) (r := some (.int 0)) (h1 := zH (zui I 19 1 0) (zPr 2)) rfl rfl rfl rfl rfl rfl rfl rfl rfl (sp_H1_isFull (X := X) (zui I 19 1 0) (zPr 2)) ?_
  refine wp_blk (pc' := 11) (L' := [some (.ref 19), some (.ref 4), none]) (st' := []) (h' := zH (zui I 19 1 0) (zPr 2)) 1 rfl ?_
  refine wp_blk (pc' := 12) (L' := [some (.ref 19), some (.ref 4), none]) (st' := [.ref 19]) (h' := zH (zui I 19 1 0) (zPr 2)) 1 rfl ?_
  refine wp_blk (pc' := 13) (L' := [some (.ref 19), some (.ref 4), none]) (st' := [.ref 19, .ref 19]) (h' := zH (zui I 19 1 0) (zPr 2)) 1 rfl ?_
  refine wp_blk (pc' := 16) (L' := [some (.ref 19), some (.ref 4), none]) (st' := [.int 0, .ref 19]) (h' := zH (zui I 19 1 0) (zPr 2)) 1 rfl ?_
  refine wp_callf (d := 68) (as := [.ref 19, .int 0]) (rest := []) (Ld := [some (.ref 19), some (.int 0)]) (pc' := 19) (st' := [.ref 29]) (r := some (.ref 29)) (h1 := zH (zui I 19 1 0) (zPr 2)) rfl rfl rfl rfl rfl rfl rfl rfl rfl (sp_at19_2_0 (X := X) (zui I 19 1 0)) ?_
  refine wp_blk (pc' := 20) (L' := [some (.ref 19), some (.ref 4), some (.ref 29)]) (st' := []) (h' := zH (zui I 19 1 0) (zPr 2)) 1 rfl ?_
  refine wp_blk (pc' := 21) (L' := [some (.ref 19), some (.ref 4), some (.ref 29)]) (st' := [.ref 29]) (h' := zH (zui I 19 1 0) (zPr 2)) 1 rfl ?_
  refine wp_blk (pc' := 24) (L' := [some (.ref 19), some (.ref 4), some (.ref 29)]) (st' := []) (h' := zH (zui I 19 1 0) (zPr 2)) 1 rfl ?_
  refine wp_blk (pc' := 25) (L' := [some (.ref 19), some (.ref 4), some (.ref 29)]) (st' := [.ref 29]) (h' := zH (zui I 19 1 0) (zPr 2)) 1 rfl ?_
  refine wp_blk (pc' := 26) (L' := [some (.ref 19), some (.ref 4), some (.ref 29)]) (st' := [.ref 4, .ref 29]) (h' := zH (zui I 19 1 0) (zPr 2)) 1 rfl ?_
  refine wp_callf (d := 37) (as := [.ref 29, .ref 4]) (rest := []) (Ld := [some (.ref 29), some (.ref 4)]) (pc' := 29) (st' := []) (r := none) (h1 := zH (g_M_copy 29 30 31 32 4 5 6 7 (zui I 19 1 0)) (zPr 2)) rfl rfl rfl rfl rfl rfl rfl rfl rfl (xp_M_copy_29_4 _ _ (0, (g_M_copy 29 30 31 32 4 5 6 7 (zui I 19 1 0))) rfl) ?_
  refine wp_blk (pc' := 30) (L' := [some (.ref 19), some (.ref 4), some (.ref 29)]) (st' := [.ref 19]) (h' := zH (g_M_copy 29 30 31 32 4 5 6 7 (zui I 19 1 0)) (zPr 2)) 1 rfl ?_
  refine wp_blk (pc' := 31) (L' := [some (.ref 19), some (.ref 4), some (.ref 29)]) (st' := [.ref 19, .ref 19]) (h' := zH (g_M_copy 29 30 31 32 4 5 6 7 (zui I 19 1 0)) (zPr 2)) 1 rfl ?_
  refine wp_blk (pc' := 34) (L' := [some (.ref 19), some (.ref 4), some (.ref 29)]) (st' := [.int ((g_M_copy 29 30 31 32 4 5 6 7 (zui I 19 1 0)) 19 1), .ref 19]) (h' := zH (g_M_copy 29 30 31 32 4 5 6 7 (zui I 19 1 0)) (zPr 2)) 1 rfl ?_
  refine wp_blk (pc' := 35) (L' := [some (.ref 19), some (.ref 4), some (.ref 29)]) (st' := [.int 1, .int ((g_M_copy 29 30 31 32 4 5 6 7 (zui I 19 1 0)) 19 1), .ref 19]) (h' := zH (g_M_copy 29 30 31 32 4 5 6 7 (zui I 19 1 0)) (zPr 2)) 1 rfl ?_
  refine wp_blk (pc' := 36) (L' := [some (.ref 19), some (.ref 4), some (.ref 29)]) (st' := [.int (((g_M_copy 29 30 31 32 4 5 6 7 (zui I 19 1 0)) 19 1) + 1), .ref 19]) (h' := zH (g_M_copy 29 30 31 32 4 5 6 7 (zui I 19 1 0)) (zPr 2)) 1 rfl ?_
  refine wp_blk (pc' := 39) (L' := [some (.ref 19), some (.ref 4), some (.ref 29)]) (st' := []) (h' := zH (zui (g_M_copy 29 30 31 32 4 5 6 7 (zui I 19 1 0)) 19 1 (((g_M_copy 29 30 31 32 4 5 6 7 (zui I 19 1 0)) 19 1) + 1)) (zPr 2)) 1 rfl ?_
  exact wp_end rfl rfl ⟨rfl, rfl⟩
set_option maxRecDepth 100000 in
theorem sp_take19_2_0 {X : Nat × (Nat → Int32)} (I : Nat → Nat → Int32) : Wf X 79 [some (.ref 19), some (.ref 4), none] (zH (zui I 19 1 0) (zPr 2)) (some (.int 0)) (zH (zui I 19 1 0) (zPr 2)) := by
  unfold Wf
  refine wp_blk (pc' := 1) (L' := [some (.ref 19), some (.ref 4), none]) (st' := [.ref 19]) (h' := zH (zui I 19 1 0) (zPr 2)) 1 rfl ?_
  refine wp_blk (pc' := 2) (L' := [some (.ref 19), some (.ref 4), none]) (st' := [.ref 19, .ref 19]) (h' := zH (zui I 19 1 0) (zPr 2)) 1 rfl ?_
  refine wp_blk (pc' := 5) (L' := [some (.ref 19), some (.ref 4), none]) (st' := [.int 0, .ref 19]) (h' := zH (zui I 19 1 0) (zPr 2)) 1 rfl ?_
  refine wp_blk (pc' := 6) (L' := [some (.ref 19), some (.ref 4), none]) (st' := [.int 1, .int 0, .ref 19]) (h' := zH (zui I 19 1 0) (zPr 2)) 1 rfl ?_
  refine wp_blk (pc' := 7) (L' := [some (.ref 19), some (.ref 4), none]) (st' := [.int (-1), .ref 19]) (h' := zH (zui I 19 1 0) (zPr 2)) 1 rfl ?_
  refine wp_callf (d := 68) (as := [.ref 19, .int (-1)]) (rest := []) (Ld := [some (.ref 19), some (.int (-1))]) (pc' := 10) (st' := [.null]) (r := some (.null)) (h1 := zH (zui I 19 1 0) (zPr 2)) rfl rfl rfl rfl rfl rfl rfl rfl rfl (sp_at19_2_m (X := X) (zui I 19 1 0)) ?_
  refine wp_blk (pc' := 11) (L' := [some (.ref 19), some (.ref 4), some (.null)]) (st' := []) (h' := zH (zui I 19 1 0) (zPr 2)) 1 rfl ?_
  refine wp_blk (pc' := 12) (L' := [some (.ref 19), some (.ref 4), some (.null)]) (st' := [.null]) (h' := zH (zui I 19 1 0) (zPr 2)) 1 rfl ?_
  refine wp_blk (pc' := 15) (L' := [some (.ref 19), some (.ref 4), some (.null)]) (st' := []) (h' := zH (zui I 19 1 0) (zPr 2)) 1 rfl ?_
  refine wp_blk (pc' := 16) (L' := [some (.ref 19), some (.ref 4), some (.null)]) (st' := [.int 0]) (h' := zH (zui I 19 1 0) (zPr 2)) 1 rfl ?_
  exact wp_end rfl rfl ⟨rfl, rfl⟩
set_option maxRecDepth 100000 in
theorem sp_put19_2_1 {X : Nat × (Nat → Int32)} (I : Nat → Nat → Int32) : Wf X 65 [some (.ref 19), some (.ref 4), none] (zH (zui I 19 1 1) (zPr 2)) none (zH (zui (g_M_copy 33 34 35 36 4 5 6 7 (zui I 19 1 1)) 19 1 (((g_M_copy 33 34 35 36 4 5 6 7 (zui I 19 1 1)) 19 1) + 1)) (zPr 2)) := by
  unfold Wf
  refine wp_blk (pc' := 1) (L' := [some (.ref 19), some (.ref 4), none]) (st' := [.ref 19]) (h' := zH (zui I 19 1 1) (zPr 2)) 1 rfl ?_
  refine wp_callf (d := 66) (as := [.ref 19]) (rest := []) (Ld := [some (.ref 19)]) (pc' := 4) (st' := [.int 0]) (r := some (.int 0)) (h1 := zH (zui I 19 1 1) (zPr 2)) rfl rfl rfl rfl rfl rfl rfl rfl rfl (sp_H1_isFull (X := X) (zui I 19 1 1) (zPr 2)) ?_
  refine wp_blk (pc' := 11) (L' := [some (.ref 19), some (.ref 4), none]) (st' := []) (h' := zH (zui I 19 1 1) (zPr 2)) 1 rfl ?_
  refine wp_blk (pc' := 12) (L' := [some (.ref 19), some (.ref 4), none]) (st' := [.ref 19]) (h' := zH (zui I 19 1 1) (zPr 2)) 1 rfl ?_
  refine wp_blk (pc' := 13) (L' := [some (.ref 19), some (.ref 4), none]) (st' := [.ref 19, .ref 19]) (h' := zH (zui I 19 1 1) (zPr 2)) 1 rfl ?_
  refine wp_blk (pc' := 16) (L' := [some (.ref 19), some (.ref 4), none]) (st' := [.int 1, .ref 19]) (h' := zH (zui I 19 1 1) (zPr 2)) 1 rfl ?_
  refine wp_callf (d := 68) (as := [.ref 19, .int 1]) (rest := []) (Ld := [some (.ref 19), some (.int 1)]) (pc' := 19) (st' := [.ref 33]) (r := some (.ref 33)) (h1 := zH (zui I 19 1 1) (zPr 2)) rfl rfl rfl rfl rfl rfl rfl rfl rfl (sp_at19_2_1 (X := X) (zui I 19 1 1)) ?_
  refine wp_blk (pc' := 20) (L' := [some (.ref 19), some (.ref 4), some (.ref 33)]) (st' := []) (h' := zH (zui I 19 1 1) (zPr 2)) 1 rfl ?_
  refine wp_blk (pc' := 21) (L' := [some (.ref 19), some (.ref 4), some (.ref 33)]) (st' := [.ref 33]) (h' := zH (zui I 19 1 1) (zPr 2)) 1 rfl ?_
  refine wp_blk (pc' := 24) (L' := [some (.ref 19), some (.ref 4), some (.ref 33)]) (st' := []) (h' := zH (zui I 19 1 1) (zPr 2)) 1 rfl ?_
  refine wp_blk (pc' := 25) (L' := [some (.ref 19), some (.ref 4), some (.ref 33)]) (st' := [.ref 33]) (h' := zH (zui I 19 1 1) (zPr 2)) 1 rfl ?_
  refine wp_blk (pc' := 26) (L' := [some (.ref 19), some (.ref 4), some (.ref 33)]) (st' := [.ref 4, .ref 33]) (h' := zH (zui I 19 1 1) (zPr 2)) 1 rfl ?_
  refine wp_callf (d := 37) (as := [.ref 33, .ref 4]) (rest := []) (Ld := [some (.ref 33), some (.ref 4)]) (pc' := 29) (st' := []) (r := none) (h1 := zH (g_M_copy 33 34 35 36 4 5 6 7 (zui I 19 1 1)) (zPr 2)) rfl rfl rfl rfl rfl rfl rfl rfl rfl (xp_M_copy_33_4 _ _ (0, (g_M_copy 33 34 35 36 4 5 6 7 (zui I 19 1 1))) rfl) ?_
  refine wp_blk (pc' := 30) (L' := [some (.ref 19), some (.ref 4), some (.ref 33)]) (st' := [.ref 19]) (h' := zH (g_M_copy 33 34 35 36 4 5 6 7 (zui I 19 1 1)) (zPr 2)) 1 rfl ?_
  refine wp_blk (pc' := 31) (L' := [some (.ref 19), some (.ref 4), some (.ref 33)]) (st' := [.ref 19, .ref 19]) (h' := zH (g_M_copy 33 34 35 36 4 5 6 7 (zui I 19 1 1)) (zPr 2)) 1 rfl ?_
  refine wp_blk (pc' := 34) (L' := [some (.ref 19), some (.ref 4), some (.ref 33)]) (st' := [.int ((g_M_copy 33 34 35 36 4 5 6 7 (zui I 19 1 1)) 19 1), .ref 19]) (h' := zH (g_M_copy 33 34 35 36 4 5 6 7 (zui I 19 1 1)) (zPr 2)) 1 rfl ?_
  refine wp_blk (pc' := 35) (L' := [some (.ref 19), some (.ref 4), some (.ref 33)]) (st' := [.int 1, .int ((g_M_copy 33 34 35 36 4 5 6 7 (zui I 19 1 1)) 19 1), .ref 19]) (h' := zH (g_M_copy 33 34 35 36 4 5 6 7 (zui I 19 1 1)) (zPr 2)) 1 rfl ?_
  refine wp_blk (pc' := 36) (L' := [some (.ref 19), some (.ref 4), some (.ref 33)]) (st' := [.int (((g_M_copy 33 34 35 36 4 5 6 7 (zui I 19 1 1)) 19 1) + 1), .ref 19]) (h' := zH (g_M_copy 33 34 35 36 4 5 6 7 (zui I 19 1 1)) (zPr 2)) 1 rfl ?_
  refine wp_blk (pc' := 39) (L' := [some (.ref 19), some (.ref 4), some (.ref 33)]) (st' := []) (h' := zH (zui (g_M_copy 33 34 35 36 4 5 6 7 (zui I 19 1 1)) 19 1 (((g_M_copy 33 34 35 36 4 5 6 7 (zui I 19 1 1)) 19 1) + 1)) (zPr 2)) 1 rfl ?_
  exact wp_end rfl rfl ⟨rfl, rfl⟩
set_option maxRecDepth 100000 in
theorem sp_take19_2_1 {X : Nat × (Nat → Int32)} (I : Nat → Nat → Int32) : Wf X 79 [some (.ref 19), some (.ref 4), none] (zH (zui I 19 1 1) (zPr 2)) (some (.int 1)) (zH (zui (g_M_copy 4 5 6 7 29 30 31 32 (zui I 19 1 1)) 19 1 (((g_M_copy 4 5 6 7 29 30 31 32 (zui I 19 1 1)) 19 1) - 1)) (zPr 2)) := by
  unfold Wf
  refine wp_blk (pc' := 1) (L' := [some (.ref 19), some (.ref 4), none]) (st' := [.ref 19]) (h' := zH (zui I 19 1 1) (zPr 2)) 1 rfl ?_
  refine wp_blk (pc' := 2) (L' := [some (.ref 19), some (.ref 4), none]) (st' := [.ref 19, .ref 19]) (h' := zH (zui I 19 1 1) (zPr 2)) 1 rfl ?_
  refine wp_blk (pc' := 5) (L' := [some (.ref 19), some (.ref 4), none]) (st' := [.int 1, .ref 19]) (h' := zH (zui I 19 1 1) (zPr 2)) 1 rfl ?_
  refine wp_blk (pc' := 6) (L' := [some (.ref 19), some (.ref 4), none]) (st' := [.int 1, .int 1, .ref 19]) (h' := zH (zui I 19 1 1) (zPr 2)) 1 rfl ?_
  refine wp_blk (pc' := 7) (L' := [some (.ref 19), some (.ref 4), none]) (st' := [.int 0, .ref 19]) (h' := zH (zui I 19 1 1) (zPr 2)) 1 rfl ?_
  refine wp_callf (d := 68) (as := [.ref 19, .int 0]) (rest := []) (Ld := [some (.ref 19), some (.int 0)]) (pc' := 10) (st' := [.ref 29]) (r := some (.ref 29)) (h1 := zH (zui I 19 1 1) (zPr 2)) rfl rfl rfl rfl rfl rfl rfl rfl rfl (sp_at19_2_0 (X := X) (zui I 19 1 1)) ?_
  refine wp_blk (pc' := 11) (L' := [some (.ref 19), some (.ref 4), some (.ref 29)]) (st' := []) (h' := zH (zui I 19 1 1) (zPr 2)) 1 rfl ?_
  refine wp_blk (pc' := 12) (L' := [some (.ref 19), some (.ref 4), some (.ref 29)]) (st' := [.ref 29]) (h' := zH (zui I 19 1 1) (zPr 2)) 1 rfl ?_
  refine wp_blk (pc' := 17) (L' := [some (.ref 19), some (.ref 4), some (.ref 29)]) (st' := []) (h' := zH (zui I 19 1 1) (zPr 2)) 1 rfl ?_
  refine wp_blk (pc' := 18) (L' := [some (.ref 19), some (.ref 4), some (.ref 29)]) (st' := [.ref 4]) (h' := zH (zui I 19 1 1) (zPr 2)) 1 rfl ?_
  refine wp_blk (pc' := 19) (L' := [some (.ref 19), some (.ref 4), some (.ref 29)]) (st' := [.ref 29, .ref 4]) (h' := zH (zui I 19 1 1) (zPr 2)) 1 rfl ?_
  refine wp_callf (d := 37) (as := [.ref 4, .ref 29]) (rest := []) (Ld := [some (.ref 4), some (.ref 29)]) (pc' := 22) (st' := []) (r := none) (h1 := zH (g_M_copy 4 5 6 7 29 30 31 32 (zui I 19 1 1)) (zPr 2)) rfl rfl rfl rfl rfl rfl rfl rfl rfl (xp_M_copy_4_29 _ _ (0, (g_M_copy 4 5 6 7 29 30 31 32 (zui I 19 1 1))) rfl) ?_
  refine wp_blk (pc' := 23) (L' := [some (.ref 19), some (.ref 4), some (.ref 29)]) (st' := [.ref 19]) (h' := zH (g_M_copy 4 5 6 7 29 30 31 32 (zui I 19 1 1)) (zPr 2)) 1 rfl ?_
  refine wp_blk (pc' := 24) (L' := [some (.ref 19), some (.ref 4), some (.ref 29)]) (st' := [.ref 19, .ref 19]) (h' := zH (g_M_copy 4 5 6 7 29 30 31 32 (zui I 19 1 1)) (zPr 2)) 1 rfl ?_
  refine wp_blk (pc' := 27) (L' := [some (.ref 19), some (.ref 4), some (.ref 29)]) (st' := [.int ((g_M_copy 4 5 6 7 29 30 31 32 (zui I 19 1 1)) 19 1), .ref 19]) (h' := zH (g_M_copy 4 5 6 7 29 30 31 32 (zui I 19 1 1)) (zPr 2)) 1 rfl ?_
  refine wp_blk (pc' := 28) (L' := [some (.ref 19), some (.ref 4), some (.ref 29)]) (st' := [.int 1, .int ((g_M_copy 4 5 6 7 29 30 31 32 (zui I 19 1 1)) 19 1), .ref 19]) (h' := zH (g_M_copy 4 5 6 7 29 30 31 32 (zui I 19 1 1)) (zPr 2)) 1 rfl ?_
  refine wp_blk (pc' := 29) (L' := [some (.ref 19), some (.ref 4), some (.ref 29)]) (st' := [.int (((g_M_copy 4 5 6 7 29 30 31 32 (zui I 19 1 1)) 19 1) - 1), .ref 19]) (h' := zH (g_M_copy 4 5 6 7 29 30 31 32 (zui I 19 1 1)) (zPr 2)) 1 rfl ?_
  refine wp_blk (pc' := 32) (L' := [some (.ref 19), some (.ref 4), some (.ref 29)]) (st' := []) (h' := zH (zui (g_M_copy 4 5 6 7 29 30 31 32 (zui I 19 1 1)) 19 1 (((g_M_copy 4 5 6 7 29 30 31 32 (zui I 19 1 1)) 19 1) - 1)) (zPr 2)) 1 rfl ?_
  refine wp_blk (pc' := 33) (L' := [some (.ref 19), some (.ref 4), some (.ref 29)]) (st' := [.int 1]) (h' := zH (zui (g_M_copy 4 5 6 7 29 30 31 32 (zui I 19 1 1)) 19 1 (((g_M_copy 4 5 6 7 29 30 31 32 (zui I 19 1 1)) 19 1) - 1)) (zPr 2)) 1 rfl ?_
  exact wp_end rfl rfl ⟨rfl, rfl⟩
set_option maxRecDepth 100000 in
theorem sp_put19_2_2 {X : Nat × (Nat → Int32)} (I : Nat → Nat → Int32) : Wf X 65 [some (.ref 19), some (.ref 4), none] (zH (zui I 19 1 2) (zPr 2)) none (zH (zui (g_M_copy 37 38 39 40 4 5 6 7 (zui I 19 1 2)) 19 1 (((g_M_copy 37 38 39 40 4 5 6 7 (zui I 19 1 2)) 19 1) + 1)) (zPr 2)) := by
  unfold Wf
  refine wp_blk (pc' := 1) (L' := [some (.ref 19), some (.ref 4), none]) (st' := [.ref 19]) (h' := zH (zui I 19 1 2) (zPr 2)) 1 rfl ?_
  refine wp_callf (d := 66) (as := [.ref 19]) (rest := []) (Ld := [some (.ref 19)]) (pc' := 4) (st' := [.int 0]) (r := some (.int 0)) (h1 := zH (zui I 19 1 2) (zPr 2)) rfl rfl rfl rfl rfl rfl rfl rfl rfl (sp_H1_isFull (X := X) (zui I 19 1 2) (zPr 2)) ?_
  refine wp_blk (pc' := 11) (L' := [some (.ref 19), some (.ref 4), none]) (st' := []) (h' := zH (zui I 19 1 2) (zPr 2)) 1 rfl ?_
  refine wp_blk (pc' := 12) (L' := [some (.ref 19), some (.ref 4), none]) (st' := [.ref 19]) (h' := zH (zui I 19 1 2) (zPr 2)) 1 rfl ?_
  refine wp_blk (pc' := 13) (L' := [some (.ref 19), some (.ref 4), none]) (st' := [.ref 19, .ref 19]) (h' := zH (zui I 19 1 2) (zPr 2)) 1 rfl ?_
  refine wp_blk (pc' := 16) (L' := [some (.ref 19), some (.ref 4), none]) (st' := [.int 2, .ref 19]) (h' := zH (zui I 19 1 2) (zPr 2)) 1 rfl ?_
  refine wp_callf (d := 68) (as := [.ref 19, .int 2]) (rest := []) (Ld := [some (.ref 19), some (.int 2)]) (pc' := 19) (st' := [.ref 37]) (r := some (.ref 37)) (h1 := zH (zui I 19 1 2) (zPr 2)) rfl rfl rfl rfl rfl rfl rfl rfl rfl (sp_at19_2_2 (X := X) (zui I 19 1 2)) ?_
  refine wp_blk (pc' := 20) (L' := [some (.ref 19), some (.ref 4), some (.ref 37)]) (st' := []) (h' := zH (zui I 19 1 2) (zPr 2)) 1 rfl ?_
  refine wp_blk (pc' := 21) (L' := [some (.ref 19), some (.ref 4), some (.ref 37)]) (st' := [.ref 37]) (h' := zH (zui I 19 1 2) (zPr 2)) 1 rfl ?_
  refine wp_blk (pc' := 24) (L' := [some (.ref 19), some (.ref 4), some (.ref 37)]) (st' := []) (h' := zH (zui I 19 1 2) (zPr 2)) 1 rfl ?_
  refine wp_blk (pc' := 25) (L' := [some (.ref 19), some (.ref 4), some (.ref 37)]) (st' := [.ref 37]) (h' := zH (zui I 19 1 2) (zPr 2)) 1 rfl ?_
  refine wp_blk (pc' := 26) (L' := [some (.ref 19), some (.ref 4), some (.ref 37)]) (st' := [.ref 4, .ref 37]) (h' := zH (zui I 19 1 2) (zPr 2)) 1 rfl ?_
  refine wp_callf (d := 37) (as := [.ref 37, .ref 4]) (rest := []) (Ld := [some (.ref 37), some (.ref 4)]) (pc' := 29) (st' := []) (r := none) (h1 := zH (g_M_copy 37 38 39 40 4 5 6 7 (zui I 19 1 2)) (zPr 2)) rfl rfl rfl rfl rfl rfl rfl rfl rfl (xp_M_copy_37_4 _ _ (0, (g_M_copy 37 38 39 40 4 5 6 7 (zui I 19 1 2))) rfl) ?_
  refine wp_blk (pc' := 30) (L' := [some (.ref 19), some (.ref 4), some (.ref 37)]) (st' := [.ref 19]) (h' := zH (g_M_copy 37 38 39 40 4 5 6 7 (zui I 19 1 2)) (zPr 2)) 1 rfl ?_
  refine wp_blk (pc' := 31) (L' := [some (.ref 19), some (.ref 4), some (.ref 37)]) (st' := [.ref 19, .ref 19]) (h' := zH (g_M_copy 37 38 39 40 4 5 6 7 (zui I 19 1 2)) (zPr 2)) 1 rfl ?_
  refine wp_blk (pc' := 34) (L' := [some (.ref 19), some (.ref 4), some (.ref 37)]) (st' := [.int ((g_M_copy 37 38 39 40 4 5 6 7 (zui I 19 1 2)) 19 1), .ref 19]) (h' := zH (g_M_copy 37 38 39 40 4 5 6 7 (zui I 19 1 2)) (zPr 2)) 1 rfl ?_
  refine wp_blk (pc' := 35) (L' := [some (.ref 19), some (.ref 4), some (.ref 37)]) (st' := [.int 1, .int ((g_M_copy 37 38 39 40 4 5 6 7 (zui I 19 1 2)) 19 1), .ref 19]) (h' := zH (g_M_copy 37 38 39 40 4 5 6 7 (zui I 19 1 2)) (zPr 2)) 1 rfl ?_
  refine wp_blk (pc' := 36) (L' := [some (.ref 19), some (.ref 4), some (.ref 37)]) (st' := [.int (((g_M_copy 37 38 39 40 4 5 6 7 (zui I 19 1 2)) 19 1) + 1), .ref 19]) (h' := zH (g_M_copy 37 38 39 40 4 5 6 7 (zui I 19 1 2)) (zPr 2)) 1 rfl ?_
  refine wp_blk (pc' := 39) (L' := [some (.ref 19), some (.ref 4), some (.ref 37)]) (st' := []) (h' := zH (zui (g_M_copy 37 38 39 40 4 5 6 7 (zui I 19 1 2)) 19 1 (((g_M_copy 37 38 39 40 4 5 6 7 (zui I 19 1 2)) 19 1) + 1)) (zPr 2)) 1 rfl ?_
  exact wp_end rfl rfl ⟨rfl, rfl⟩
set_option maxRecDepth 100000 in
theorem sp_take19_2_2 {X : Nat × (Nat → Int32)} (I : Nat → Nat → Int32) : Wf X 79 [some (.ref 19), some (.ref 4), none] (zH (zui I 19 1 2) (zPr 2)) (some (.int 1)) (zH (zui (g_M_copy 4 5 6 7 33 34 35 36 (zui I 19 1 2)) 19 1 (((g_M_copy 4 5 6 7 33 34 35 36 (zui I 19 1 2)) 19 1) - 1)) (zPr 2)) := by
  unfold Wf
  refine wp_blk (pc' := 1) (L' := [some (.ref 19), some (.ref 4), none]) (st' := [.ref 19]) (h' := zH (zui I 19 1 2) (zPr 2)) 1 rfl ?_
  refine wp_blk (pc' := 2) (L' := [some (.ref 19), some (.ref 4), none]) (st' := [.ref 19, .ref 19]) (h' := zH (zui I 19 1 2) (zPr 2)) 1 rfl ?_
  refine wp_blk (pc' := 5) (L' := [some (.ref 19), some (.ref 4), none]) (st' := [.int 2, .ref 19]) (h' := zH (zui I 19 1 2) (zPr 2)) 1 rfl ?_
  refine wp_blk (pc' := 6) (L' := [some (.ref 19), some (.ref 4), none]) (st' := [.int 1, .int 2, .ref 19]) (h' := zH (zui I 19 1 2) (zPr 2)) 1 rfl ?_
  refine wp_blk (pc' := 7) (L' := [some (.ref 19), some (.ref 4), none]) (st' := [.int 1, .ref 19]) (h' := zH (zui I 19 1 2) (zPr 2)) 1 rfl ?_
  refine wp_callf (d := 68) (as := [.ref 19, .int 1]) (rest := []) (Ld := [some (.ref 19), some (.int 1)]) (pc' := 10) (st' := [.ref 33]) (r := some (.ref 33)) (h1 := zH (zui I 19 1 2) (zPr 2)) rfl rfl rfl rfl rfl rfl rfl rfl rfl (sp_at19_2_1 (X := X) (zui I 19 1 2)) ?_
  refine wp_blk (pc' := 11) (L' := [some (.ref 19), some (.ref 4), some (.ref 33)]) (st' := []) (h' := zH (zui I 19 1 2) (zPr 2)) 1 rfl ?_
  refine wp_blk (pc' := 12) (L' := [some (.ref 19), some (.ref 4), some (.ref 33)]) (st' := [.ref 33]) (h' := zH (zui I 19 1 2) (zPr 2)) 1 rfl ?_
  refine wp_blk (pc' := 17) (L' := [some (.ref 19), some (.ref 4), some (.ref 33)]) (st' := []) (h' := zH (zui I 19 1 2) (zPr 2)) 1 rfl ?_
  refine wp_blk (pc' := 18) (L' := [some (.ref 19), some (.ref 4), some (.ref 33)]) (st' := [.ref 4]) (h' := zH (zui I 19 1 2) (zPr 2)) 1 rfl ?_
  refine wp_blk (pc' := 19) (L' := [some (.ref 19), some (.ref 4), some (.ref 33)]) (st' := [.ref 33, .ref 4]) (h' := zH (zui I 19 1 2) (zPr 2)) 1 rfl ?_
  refine wp_callf (d := 37) (as := [.ref 4, .ref 33]) (rest := []) (Ld := [some (.ref 4), some (.ref 33)]) (pc' := 22) (st' := []) (r := none) (h1 := zH (g_M_copy 4 5 6 7 33 34 35 36 (zui I 19 1 2)) (zPr 2)) rfl rfl rfl rfl rfl rfl rfl rfl rfl (xp_M_copy_4_33 _ _ (0, (g_M_copy 4 5 6 7 33 34 35 36 (zui I 19 1 2))) rfl) ?_
  refine wp_blk (pc' := 23) (L' := [some (.ref 19), some (.ref 4), some (.ref 33)]) (st' := [.ref 19]) (h' := zH (g_M_copy 4 5 6 7 33 34 35 36 (zui I 19 1 2)) (zPr 2)) 1 rfl ?_
  refine wp_blk (pc' := 24) (L' := [some (.ref 19), some (.ref 4), some (.ref 33)]) (st' := [.ref 19, .ref 19]) (h' := zH (g_M_copy 4 5 6 7 33 34 35 36 (zui I 19 1 2)) (zPr 2)) 1 rfl ?_
  refine wp_blk (pc' := 27) (L' := [some (.ref 19), some (.ref 4), some (.ref 33)]) (st' := [.int ((g_M_copy 4 5 6 7 33 34 35 36 (zui I 19 1 2)) 19 1), .ref 19]) (h' := zH (g_M_copy 4 5 6 7 33 34 35 36 (zui I 19 1 2)) (zPr 2)) 1 rfl ?_
  refine wp_blk (pc' := 28) (L' := [some (.ref 19), some (.ref 4), some (.ref 33)]) (st' := [.int 1, .int ((g_M_copy 4 5 6 7 33 34 35 36 (zui I 19 1 2)) 19 1), .ref 19]) (h' := zH (g_M_copy 4 5 6 7 33 34 35 36 (zui I 19 1 2)) (zPr 2)) 1 rfl ?_
  refine wp_blk (pc' := 29) (L' := [some (.ref 19), some (.ref 4), some (.ref 33)]) (st' := [.int (((g_M_copy 4 5 6 7 33 34 35 36 (zui I 19 1 2)) 19 1) - 1), .ref 19]) (h' := zH (g_M_copy 4 5 6 7 33 34 35 36 (zui I 19 1 2)) (zPr 2)) 1 rfl ?_
  refine wp_blk (pc' := 32) (L' := [some (.ref 19), some (.ref 4), some (.ref 33)]) (st' := []) (h' := zH (zui (g_M_copy 4 5 6 7 33 34 35 36 (zui I 19 1 2)) 19 1 (((g_M_copy 4 5 6 7 33 34 35 36 (zui I 19 1 2)) 19 1) - 1)) (zPr 2)) 1 rfl ?_
  refine wp_blk (pc' := 33) (L' := [some (.ref 19), some (.ref 4), some (.ref 33)]) (st' := [.int 1]) (h' := zH (zui (g_M_copy 4 5 6 7 33 34 35 36 (zui I 19 1 2)) 19 1 (((g_M_copy 4 5 6 7 33 34 35 36 (zui I 19 1 2)) 19 1) - 1)) (zPr 2)) 1 rfl ?_
  exact wp_end rfl rfl ⟨rfl, rfl⟩
set_option maxRecDepth 100000 in
theorem sp_put19_2_3 {X : Nat × (Nat → Int32)} (I : Nat → Nat → Int32) : Wf X 65 [some (.ref 19), some (.ref 4), none] (zH (zui I 19 1 3) (zPr 2)) none (zH (zui (g_M_copy 41 42 43 44 4 5 6 7 (zui I 19 1 3)) 19 1 (((g_M_copy 41 42 43 44 4 5 6 7 (zui I 19 1 3)) 19 1) + 1)) (zPr 2)) := by
  unfold Wf
  refine wp_blk (pc' := 1) (L' := [some (.ref 19), some (.ref 4), none]) (st' := [.ref 19]) (h' := zH (zui I 19 1 3) (zPr 2)) 1 rfl ?_
  refine wp_callf (d := 66) (as := [.ref 19]) (rest := []) (Ld := [some (.ref 19)]) (pc' := 4) (st' := [.int 0]) (r := some (.int 0)) (h1 := zH (zui I 19 1 3) (zPr 2)) rfl rfl rfl rfl rfl rfl rfl rfl rfl (sp_H1_isFull (X := X) (zui I 19 1 3) (zPr 2)) ?_
  refine wp_blk (pc' := 11) (L' := [some (.ref 19), some (.ref 4), none]) (st' := []) (h' := zH (zui I 19 1 3) (zPr 2)) 1 rfl ?_
  refine wp_blk (pc' := 12) (L' := [some (.ref 19), some (.ref 4), none]) (st' := [.ref 19]) (h' := zH (zui I 19 1 3) (zPr 2)) 1 rfl ?_
  refine wp_blk (pc' := 13) (L' := [some (.ref 19), some (.ref 4), none]) (st' := [.ref 19, .ref 19]) (h' := zH (zui I 19 1 3) (zPr 2)) 1 rfl ?_
  refine wp_blk (pc' := 16) (L' := [some (.ref 19), some (.ref 4), none]) (st' := [.int 3, .ref 19]) (h' := zH (zui I 19 1 3) (zPr 2)) 1 rfl ?_
  refine wp_callf (d := 68) (as := [.ref 19, .int 3]) (rest := []) (Ld := [some (.ref 19), some (.int 3)]) (pc' := 19) (st' := [.ref 41]) (r := some (.ref 41)) (h1 := zH (zui I 19 1 3) (zPr 2)) rfl rfl rfl rfl rfl rfl rfl rfl rfl (sp_at19_2_3 (X := X) (zui I 19 1 3)) ?_
  refine wp_blk (pc' := 20) (L' := [some (.ref 19), some (.ref 4), some (.ref 41)]) (st' := []) (h' := zH (zui I 19 1 3) (zPr 2)) 1 rfl ?_
  refine wp_blk (pc' := 21) (L' := [some (.ref 19), some (.ref 4), some (.ref 41)]) (st' := [.ref 41]) (h' := zH (zui I 19 1 3) (zPr 2)) 1 rfl ?_
  refine wp_blk (pc' := 24) (L' := [some (.ref 19), some (.ref 4), some (.ref 41)]) (st' := []) (h' := zH (zui I 19 1 3) (zPr 2)) 1 rfl ?_
  refine wp_blk (pc' := 25) (L' := [some (.ref 19), some (.ref 4), some (.ref 41)]) (st' := [.ref 41]) (h' := zH (zui I 19 1 3) (zPr 2)) 1 rfl ?_
  refine wp_blk (pc' := 26) (L' := [some (.ref 19), some (.ref 4), some (.ref 41)]) (st' := [.ref 4, .ref 41]) (h' := zH (zui I 19 1 3) (zPr 2)) 1 rfl ?_
  refine wp_callf (d := 37) (as := [.ref 41, .ref 4]) (rest := []) (Ld := [some (.ref 41), some (.ref 4)]) (pc' := 29) (st' := []) (r := none) (h1 := zH (g_M_copy 41 42 43 44 4 5 6 7 (zui I 19 1 3)) (zPr 2)) rfl rfl rfl rfl rfl rfl rfl rfl rfl (xp_M_copy_41_4 _ _ (0, (g_M_copy 41 42 43 44 4 5 6 7 (zui I 19 1 3))) rfl) ?_
  refine wp_blk (pc' := 30) (L' := [some (.ref 19), some (.ref 4), some (.ref 41)]) (st' := [.ref 19]) (h' := zH (g_M_copy 41 42 43 44 4 5 6 7 (zui I 19 1 3)) (zPr 2)) 1 rfl ?_
  refine wp_blk (pc' := 31) (L' := [some (.ref 19), some (.ref 4), some (.ref 41)]) (st' := [.ref 19, .ref 19]) (h' := zH (g_M_copy 41 42 43 44 4 5 6 7 (zui I 19 1 3)) (zPr 2)) 1 rfl ?_
  refine wp_blk (pc' := 34) (L' := [some (.ref 19), some (.ref 4), some (.ref 41)]) (st' := [.int ((g_M_copy 41 42 43 44 4 5 6 7 (zui I 19 1 3)) 19 1), .ref 19]) (h' := zH (g_M_copy 41 42 43 44 4 5 6 7 (zui I 19 1 3)) (zPr 2)) 1 rfl ?_
  refine wp_blk (pc' := 35) (L' := [some (.ref 19), some (.ref 4), some (.ref 41)]) (st' := [.int 1, .int ((g_M_copy 41 42 43 44 4 5 6 7 (zui I 19 1 3)) 19 1), .ref 19]) (h' := zH (g_M_copy 41 42 43 44 4 5 6 7 (zui I 19 1 3)) (zPr 2)) 1 rfl ?_
  refine wp_blk (pc' := 36) (L' := [some (.ref 19), some (.ref 4), some (.ref 41)]) (st' := [.int (((g_M_copy 41 42 43 44 4 5 6 7 (zui I 19 1 3)) 19 1) + 1), .ref 19]) (h' := zH (g_M_copy 41 42 43 44 4 5 6 7 (zui I 19 1 3)) (zPr 2)) 1 rfl ?_
  refine wp_blk (pc' := 39) (L' := [some (.ref 19), some (.ref 4), some (.ref 41)]) (st' := []) (h' := zH (zui (g_M_copy 41 42 43 44 4 5 6 7 (zui I 19 1 3)) 19 1 (((g_M_copy 41 42 43 44 4 5 6 7 (zui I 19 1 3)) 19 1) + 1)) (zPr 2)) 1 rfl ?_
  exact wp_end rfl rfl ⟨rfl, rfl⟩
set_option maxRecDepth 100000 in
theorem sp_take19_2_3 {X : Nat × (Nat → Int32)} (I : Nat → Nat → Int32) : Wf X 79 [some (.ref 19), some (.ref 4), none] (zH (zui I 19 1 3) (zPr 2)) (some (.int 1)) (zH (zui (g_M_copy 4 5 6 7 37 38 39 40 (zui I 19 1 3)) 19 1 (((g_M_copy 4 5 6 7 37 38 39 40 (zui I 19 1 3)) 19 1) - 1)) (zPr 2)) := by
  unfold Wf
  refine wp_blk (pc' := 1) (L' := [some (.ref 19), some (.ref 4), none]) (st' := [.ref 19]) (h' := zH (zui I 19 1 3) (zPr 2)) 1 rfl ?_
  refine wp_blk (pc' := 2) (L' := [some (.ref 19), some (.ref 4), none]) (st' := [.ref 19, .ref 19]) (h' := zH (zui I 19 1 3) (zPr 2)) 1 rfl ?_
  refine wp_blk (pc' := 5) (L' := [some (.ref 19), some (.ref 4), none]) (st' := [.int 3, .ref 19]) (h' := zH (zui I 19 1 3) (zPr 2)) 1 rfl ?_
  refine wp_blk (pc' := 6) (L' := [some (.ref 19), some (.ref 4), none]) (st' := [.int 1, .int 3, .ref 19]) (h' := zH (zui I 19 1 3) (zPr 2)) 1 rfl ?_
  refine wp_blk (pc' := 7) (L' := [some (.ref 19), some (.ref 4), none]) (st' := [.int 2, .ref 19]) (h' := zH (zui I 19 1 3) (zPr 2)) 1 rfl ?_
  refine wp_callf (d := 68) (as := [.ref 19, .int 2]) (rest := []) (Ld := [some (.ref 19), some (.int 2)]) (pc' := 10) (st' := [.ref 37]) (r := some (.ref 37)) (h1 := zH (zui I 19 1 3) (zPr 2)) rfl rfl rfl rfl rfl rfl rfl rfl rfl (sp_at19_2_2 (X := X) (zui I 19 1 3)) ?_
  refine wp_blk (pc' := 11) (L' := [some (.ref 19), some (.ref 4), some (.ref 37)]) (st' := []) (h' := zH (zui I 19 1 3) (zPr 2)) 1 rfl ?_
  refine wp_blk (pc' := 12) (L' := [some (.ref 19), some (.ref 4), some (.ref 37)]) (st' := [.ref 37]) (h' := zH (zui I 19 1 3) (zPr 2)) 1 rfl ?_
  refine wp_blk (pc' := 17) (L' := [some (.ref 19), some (.ref 4), some (.ref 37)]) (st' := []) (h' := zH (zui I 19 1 3) (zPr 2)) 1 rfl ?_
  refine wp_blk (pc' := 18) (L' := [some (.ref 19), some (.ref 4), some (.ref 37)]) (st' := [.ref 4]) (h' := zH (zui I 19 1 3) (zPr 2)) 1 rfl ?_
  refine wp_blk (pc' := 19) (L' := [some (.ref 19), some (.ref 4), some (.ref 37)]) (st' := [.ref 37, .ref 4]) (h' := zH (zui I 19 1 3) (zPr 2)) 1 rfl ?_
  refine wp_callf (d := 37) (as := [.ref 4, .ref 37]) (rest := []) (Ld := [some (.ref 4), some (.ref 37)]) (pc' := 22) (st' := []) (r := none) (h1 := zH (g_M_copy 4 5 6 7 37 38 39 40 (zui I 19 1 3)) (zPr 2)) rfl rfl rfl rfl rfl rfl rfl rfl rfl (xp_M_copy_4_37 _ _ (0, (g_M_copy 4 5 6 7 37 38 39 40 (zui I 19 1 3))) rfl) ?_
  refine wp_blk (pc' := 23) (L' := [some (.ref 19), some (.ref 4), some (.ref 37)]) (st' := [.ref 19]) (h' := zH (g_M_copy 4 5 6 7 37 38 39 40 (zui I 19 1 3)) (zPr 2)) 1 rfl ?_
  refine wp_blk (pc' := 24) (L' := [some (.ref 19), some (.ref 4), some (.ref 37)]) (st' := [.ref 19, .ref 19]) (h' := zH (g_M_copy 4 5 6 7 37 38 39 40 (zui I 19 1 3)) (zPr 2)) 1 rfl ?_
  refine wp_blk (pc' := 27) (L' := [some (.ref 19), some (.ref 4), some (.ref 37)]) (st' := [.int ((g_M_copy 4 5 6 7 37 38 39 40 (zui I 19 1 3)) 19 1), .ref 19]) (h' := zH (g_M_copy 4 5 6 7 37 38 39 40 (zui I 19 1 3)) (zPr 2)) 1 rfl ?_
  refine wp_blk (pc' := 28) (L' := [some (.ref 19), some (.ref 4), some (.ref 37)]) (st' := [.int 1, .int ((g_M_copy 4 5 6 7 37 38 39 40 (zui I 19 1 3)) 19 1), .ref 19]) (h' := zH (g_M_copy 4 5 6 7 37 38 39 40 (zui I 19 1 3)) (zPr 2)) 1 rfl ?_
  refine wp_blk (pc' := 29) (L' := [some (.ref 19), some (.ref 4), some (.ref 37)]) (st' := [.int (((g_M_copy 4 5 6 7 37 38 39 40 (zui I 19 1 3)) 19 1) - 1), .ref 19]) (h' := zH (g_M_copy 4 5 6 7 37 38 39 40 (zui I 19 1 3)) (zPr 2)) 1 rfl ?_
  refine wp_blk (pc' := 32) (L' := [some (.ref 19), some (.ref 4), some (.ref 37)]) (st' := []) (h' := zH (zui (g_M_copy 4 5 6 7 37 38 39 40 (zui I 19 1 3)) 19 1 (((g_M_copy 4 5 6 7 37 38 39 40 (zui I 19 1 3)) 19 1) - 1)) (zPr 2)) 1 rfl ?_
  refine wp_blk (pc' := 33) (L' := [some (.ref 19), some (.ref 4), some (.ref 37)]) (st' := [.int 1]) (h' := zH (zui (g_M_copy 4 5 6 7 37 38 39 40 (zui I 19 1 3)) 19 1 (((g_M_copy 4 5 6 7 37 38 39 40 (zui I 19 1 3)) 19 1) - 1)) (zPr 2)) 1 rfl ?_
  exact wp_end rfl rfl ⟨rfl, rfl⟩
set_option maxRecDepth 100000 in
theorem sp_put19_2_4 {X : Nat × (Nat → Int32)} (I : Nat → Nat → Int32) : Wf X 65 [some (.ref 19), some (.ref 4), none] (zH (zui I 19 1 4) (zPr 2)) none (zH (zui (g_M_copy 45 46 47 48 4 5 6 7 (zui I 19 1 4)) 19 1 (((g_M_copy 45 46 47 48 4 5 6 7 (zui I 19 1 4)) 19 1) + 1)) (zPr 2)) := by
  unfold Wf
  refine wp_blk (pc' := 1) (L' := [some (.ref 19), some (.ref 4), none]) (st' := [.ref 19]) (h' := zH (zui I 19 1 4) (zPr 2)) 1 rfl ?_
  refine wp_callf (d := 66) (as := [.ref 19]) (rest := []) (Ld := [some (.ref 19)]) (pc' := 4) (st' := [.int 0]) (r := some (.int 0)) (h1 := zH (zui I 19 1 4) (zPr 2)) rfl rfl rfl rfl rfl rfl rfl rfl rfl (sp_H1_isFull (X := X) (zui I 19 1 4) (zPr 2)) ?_
  refine wp_blk (pc' := 11) (L' := [some (.ref 19), some (.ref 4), none]) (st' := []) (h' := zH (zui I 19 1 4) (zPr 2)) 1 rfl ?_
  refine wp_blk (pc' := 12) (L' := [some (.ref 19), some (.ref 4), none]) (st' := [.ref 19]) (h' := zH (zui I 19 1 4) (zPr 2)) 1 rfl ?_
  refine wp_blk (pc' := 13) (L' := [some (.ref 19), some (.ref 4), none]) (st' := [.ref 19, .ref 19]) (h' := zH (zui I 19 1 4) (zPr 2)) 1 rfl ?_
  refine wp_blk (pc' := 16) (L' := [some (.ref 19), some (.ref 4), none]) (st' := [.int 4, .ref 19]) (h' := zH (zui I 19 1 4) (zPr 2)) 1 rfl ?_
  refine wp_callf (d := 68) (as := [.ref 19, .int 4]) (rest := []) (Ld := [some (.ref 19), some (.int 4)]) (pc' := 19) (st' := [.ref 45]) (r := some (.ref 45)) (h1 := zH (zui I 19 1 4) (zPr 2)) rfl rfl rfl rfl rfl rfl rfl rfl rfl (sp_at19_2_4 (X := X) (zui I 19 1 4)) ?_
  refine wp_blk (pc' := 20) (L' := [some (.ref 19), some (.ref 4), some (.ref 45)]) (st' := []) (h' := zH (zui I 19 1 4) (zPr 2)) 1 rfl ?_
  refine wp_blk (pc' := 21) (L' := [some (.ref 19), some (.ref 4), some (.ref 45)]) (st' := [.ref 45]) (h' := zH (zui I 19 1 4) (zPr 2)) 1 rfl ?_
  refine wp_blk (pc' := 24) (L' := [some (.ref 19), some (.ref 4), some (.ref 45)]) (st' := []) (h' := zH (zui I 19 1 4) (zPr 2)) 1 rfl ?_
  refine wp_blk (pc' := 25) (L' := [some (.ref 19), some (.ref 4), some (.ref 45)]) (st' := [.ref 45]) (h' := zH (zui I 19 1 4) (zPr 2)) 1 rfl ?_
  refine wp_blk (pc' := 26) (L' := [some (.ref 19), some (.ref 4), some (.ref 45)]) (st' := [.ref 4, .ref 45]) (h' := zH (zui I 19 1 4) (zPr 2)) 1 rfl ?_
  refine wp_callf (d := 37) (as := [.ref 45, .ref 4]) (rest := []) (Ld := [some (.ref 45), some (.ref 4)]) (pc' := 29) (st' := []) (r := none) (h1 := zH (g_M_copy 45 46 47 48 4 5 6 7 (zui I 19 1 4)) (zPr 2)) rfl rfl rfl rfl rfl rfl rfl rfl rfl (xp_M_copy_45_4 _ _ (0, (g_M_copy 45 46 47 48 4 5 6 7 (zui I 19 1 4))) rfl) ?_
  refine wp_blk (pc' := 30) (L' := [some (.ref 19), some (.ref 4), some (.ref 45)]) (st' := [.ref 19]) (h' := zH (g_M_copy 45 46 47 48 4 5 6 7 (zui I 19 1 4)) (zPr 2)) 1 rfl ?_
  refine wp_blk (pc' := 31) (L' := [some (.ref 19), some (.ref 4), some (.ref 45)]) (st' := [.ref 19, .ref 19]) (h' := zH (g_M_copy 45 46 47 48 4 5 6 7 (zui I 19 1 4)) (zPr 2)) 1 rfl ?_
  refine wp_blk (pc' := 34) (L' := [some (.ref 19), some (.ref 4), some (.ref 45)]) (st' := [.int ((g_M_copy 45 46 47 48 4 5 6 7 (zui I 19 1 4)) 19 1), .ref 19]) (h' := zH (g_M_copy 45 46 47 48 4 5 6 7 (zui I 19 1 4)) (zPr 2)) 1 rfl ?_
  refine wp_blk (pc' := 35) (L' := [some (.ref 19), some (.ref 4), some (.ref 45)]) (st' := [.int 1, .int ((g_M_copy 45 46 47 48 4 5 6 7 (zui I 19 1 4)) 19 1), .ref 19]) (h' := zH (g_M_copy 45 46 47 48 4 5 6 7 (zui I 19 1 4)) (zPr 2)) 1 rfl ?_
  refine wp_blk (pc' := 36) (L' := [some (.ref 19), some (.ref 4), some (.ref 45)]) (st' := [.int (((g_M_copy 45 46 47 48 4 5 6 7 (zui I 19 1 4)) 19 1) + 1), .ref 19]) (h' := zH (g_M_copy 45 46 47 48 4 5 6 7 (zui I 19 1 4)) (zPr 2)) 1 rfl ?_
  refine wp_blk (pc' := 39) (L' := [some (.ref 19), some (.ref 4), some (.ref 45)]) (st' := []) (h' := zH (zui (g_M_copy 45 46 47 48 4 5 6 7 (zui I 19 1 4)) 19 1 (((g_M_copy 45 46 47 48 4 5 6 7 (zui I 19 1 4)) 19 1) + 1)) (zPr 2)) 1 rfl ?_
  exact wp_end rfl rfl ⟨rfl, rfl⟩
set_option maxRecDepth 100000 in
theorem sp_take19_2_4 {X : Nat × (Nat → Int32)} (I : Nat → Nat → Int32) : Wf X 79 [some (.ref 19), some (.ref 4), none] (zH (zui I 19 1 4) (zPr 2)) (some (.int 1)) (zH (zui (g_M_copy 4 5 6 7 41 42 43 44 (zui I 19 1 4)) 19 1 (((g_M_copy 4 5 6 7 41 42 43 44 (zui I 19 1 4)) 19 1) - 1)) (zPr 2)) := by
  unfold Wf
  refine wp_blk (pc' := 1) (L' := [some (.ref 19), some (.ref 4), none]) (st' := [.ref 19]) (h' := zH (zui I 19 1 4) (zPr 2)) 1 rfl ?_
  refine wp_blk (pc' := 2) (L' := [some (.ref 19), some (.ref 4), none]) (st' := [.ref 19, .ref 19]) (h' := zH (zui I 19 1 4) (zPr 2)) 1 rfl ?_
  refine wp_blk (pc' := 5) (L' := [some (.ref 19), some (.ref 4), none]) (st' := [.int 4, .ref 19]) (h' := zH (zui I 19 1 4) (zPr 2)) 1 rfl ?_
  refine wp_blk (pc' := 6) (L' := [some (.ref 19), some (.ref 4), none]) (st' := [.int 1, .int 4, .ref 19]) (h' := zH (zui I 19 1 4) (zPr 2)) 1 rfl ?_
  refine wp_blk (pc' := 7) (L' := [some (.ref 19), some (.ref 4), none]) (st' := [.int 3, .ref 19]) (h' := zH (zui I 19 1 4) (zPr 2)) 1 rfl ?_
  refine wp_callf (d := 68) (as := [.ref 19, .int 3]) (rest := []) (Ld := [some (.ref 19), some (.int 3)]) (pc' := 10) (st' := [.ref 41]) (r := some (.ref 41)) (h1 := zH (zui I 19 1 4) (zPr 2)) rfl rfl rfl rfl rfl rfl rfl rfl rfl (sp_at19_2_3 (X := X) (zui I 19 1 4)) ?_
  refine wp_blk (pc' := 11) (L' := [some (.ref 19), some (.ref 4), some (.ref 41)]) (st' := []) (h' := zH (zui I 19 1 4) (zPr 2)) 1 rfl ?_
  refine wp_blk (pc' := 12) (L' := [some (.ref 19), some (.ref 4), some (.ref 41)]) (st' := [.ref 41]) (h' := zH (zui I 19 1 4) (zPr 2)) 1 rfl ?_
  refine wp_blk (pc' := 17) (L' := [some (.ref 19), some (.ref 4), some (.ref 41)]) (st' := []) (h' := zH (zui I 19 1 4) (zPr 2)) 1 rfl ?_
  refine wp_blk (pc' := 18) (L' := [some (.ref 19), some (.ref 4), some (.ref 41)]) (st' := [.ref 4]) (h' := zH (zui I 19 1 4) (zPr 2)) 1 rfl ?_
  refine wp_blk (pc' := 19) (L' := [some (.ref 19), some (.ref 4), some (.ref 41)]) (st' := [.ref 41, .ref 4]) (h' := zH (zui I 19 1 4) (zPr 2)) 1 rfl ?_
  refine wp_callf (d := 37) (as := [.ref 4, .ref 41]) (rest := []) (Ld := [some (.ref 4), some (.ref 41)]) (pc' := 22) (st' := []) (r := none) (h1 := zH (g_M_copy 4 5 6 7 41 42 43 44 (zui I 19 1 4)) (zPr 2)) rfl rfl rfl rfl rfl rfl rfl rfl rfl (xp_M_copy_4_41 _ _ (0, (g_M_copy 4 5 6 7 41 42 43 44 (zui I 19 1 4))) rfl) ?_
  refine wp_blk (pc' := 23) (L' := [some (.ref 19), some (.ref 4), some (.ref 41)]) (st' := [.ref 19]) (h' := zH (g_M_copy 4 5 6 7 41 42 43 44 (zui I 19 1 4)) (zPr 2)) 1 rfl ?_
  refine wp_blk (pc' := 24) (L' := [some (.ref 19), some (.ref 4), some (.ref 41)]) (st' := [.ref 19, .ref 19]) (h' := zH (g_M_copy 4 5 6 7 41 42 43 44 (zui I 19 1 4)) (zPr 2)) 1 rfl ?_
  refine wp_blk (pc' := 27) (L' := [some (.ref 19), some (.ref 4), some (.ref 41)]) (st' := [.int ((g_M_copy 4 5 6 7 41 42 43 44 (zui I 19 1 4)) 19 1), .ref 19]) (h' := zH (g_M_copy 4 5 6 7 41 42 43 44 (zui I 19 1 4)) (zPr 2)) 1 rfl ?_
  refine wp_blk (pc' := 28) (L' := [some (.ref 19), some (.ref 4), some (.ref 41)]) (st' := [.int 1, .int ((g_M_copy 4 5 6 7 41 42 43 44 (zui I 19 1 4)) 19 1), .ref 19]) (h' := zH (g_M_copy 4 5 6 7 41 42 43 44 (zui I 19 1 4)) (zPr 2)) 1 rfl ?_
  refine wp_blk (pc' := 29) (L' := [some (.ref 19), some (.ref 4), some (.ref 41)]) (st' := [.int (((g_M_copy 4 5 6 7 41 42 43 44 (zui I 19 1 4)) 19 1) - 1), .ref 19]) (h' := zH (g_M_copy 4 5 6 7 41 42 43 44 (zui I 19 1 4)) (zPr 2)) 1 rfl ?_
  refine wp_blk (pc' := 32) (L' := [some (.ref 19), some (.ref 4), some (.ref 41)]) (st' := []) (h' := zH (zui (g_M_copy 4 5 6 7 41 42 43 44 (zui I 19 1 4)) 19 1 (((g_M_copy 4 5 6 7 41 42 43 44 (zui I 19 1 4)) 19 1) - 1)) (zPr 2)) 1 rfl ?_
  refine wp_blk (pc' := 33) (L' := [some (.ref 19), some (.ref 4), some (.ref 41)]) (st' := [.int 1]) (h' := zH (zui (g_M_copy 4 5 6 7 41 42 43 44 (zui I 19 1 4)) 19 1 (((g_M_copy 4 5 6 7 41 42 43 44 (zui I 19 1 4)) 19 1) - 1)) (zPr 2)) 1 rfl ?_
  exact wp_end rfl rfl ⟨rfl, rfl⟩
set_option maxRecDepth 100000 in
theorem sp_put19_2_5 {X : Nat × (Nat → Int32)} (I : Nat → Nat → Int32) : Wf X 65 [some (.ref 19), some (.ref 4), none] (zH (zui I 19 1 5) (zPr 2)) none (zH (zui (g_M_copy 49 50 51 52 4 5 6 7 (zui I 19 1 5)) 19 1 (((g_M_copy 49 50 51 52 4 5 6 7 (zui I 19 1 5)) 19 1) + 1)) (zPr 2)) := by
  unfold Wf
  refine wp_blk (pc' := 1) (L' := [some (.ref 19), some (.ref 4), none]) (st' := [.ref 19]) (h' := zH (zui I 19 1 5) (zPr 2)) 1 rfl ?_
  refine wp_callf (d := 66) (as := [.ref 19]) (rest := []) (Ld := [some (.ref 19)]) (pc' := 4) (st' := [.int 0]) (r := some (.int 0)) (h1 := zH (zui I 19 1 5) (zPr 2)) rfl rfl rfl rfl rfl rfl rfl rfl rfl (sp_H1_isFull (X := X) (zui I 19 1 5) (zPr 2)) ?_
  refine wp_blk (pc' := 11) (L' := [some (.ref 19), some (.ref 4), none]) (st' := []) (h' := zH (zui I 19 1 5) (zPr 2)) 1 rfl ?_
  refine wp_blk (pc' := 12) (L' := [some (.ref 19), some (.ref 4), none]) (st' := [.ref 19]) (h' := zH (zui I 19 1 5) (zPr 2)) 1 rfl ?_
  refine wp_blk (pc' := 13) (L' := [some (.ref 19), some (.ref 4), none]) (st' := [.ref 19, .ref 19]) (h' := zH (zui I 19 1 5) (zPr 2)) 1 rfl ?_
  refine wp_blk (pc' := 16) (L' := [some (.ref 19), some (.ref 4), none]) (st' := [.int 5, .ref 19]) (h' := zH (zui I 19 1 5) (zPr 2)) 1 rfl ?_
  refine wp_callf (d := 68) (as := [.ref 19, .int 5]) (rest := []) (Ld := [some (.ref 19), some (.int 5)]) (pc' := 19) (st' := [.ref 49]) (r := some (.ref 49)) (h1 := zH (zui I 19 1 5) (zPr 2)) rfl rfl rfl rfl rfl rfl rfl rfl rfl (sp_at19_2_5 (X := X) (zui I 19 1 5)) ?_
  refine wp_blk (pc' := 20) (L' := [some (.ref 19), some (.ref 4), some (.ref 49)]) (st' := []) (h' := zH (zui I 19 1 5) (zPr 2)) 1 rfl ?_
  refine wp_blk (pc' := 21) (L' := [some (.ref 19), some (.ref 4), some (.ref 49)]) (st' := [.ref 49]) (h' := zH (zui I 19 1 5) (zPr 2)) 1 rfl ?_
  refine wp_blk (pc' := 24) (L' := [some (.ref 19), some (.ref 4), some (.ref 49)]) (st' := []) (h' := zH (zui I 19 1 5) (zPr 2)) 1 rfl ?_
  refine wp_blk (pc' := 25) (L' := [some (.ref 19), some (.ref 4), some (.ref 49)]) (st' := [.ref 49]) (h' := zH (zui I 19 1 5) (zPr 2)) 1 rfl ?_
  refine wp_blk (pc' := 26) (L' := [some (.ref 19), some (.ref 4), some (.ref 49)]) (st' := [.ref 4, .ref 49]) (h' := zH (zui I 19 1 5) (zPr 2)) 1 rfl ?_
  refine wp_callf (d := 37) (as := [.ref 49, .ref 4]) (rest := []) (Ld := [some (.ref 49), some (.ref 4)]) (pc' := 29) (st' := []) (r := none) (h1 := zH (g_M_copy 49 50 51 52 4 5 6 7 (zui I 19 1 5)) (zPr 2)) rfl rfl rfl rfl rfl rfl rfl rfl rfl (xp_M_copy_49_4 _ _ (0, (g_M_copy 49 50 51 52 4 5 6 7 (zui I 19 1 5))) rfl) ?_
  refine wp_blk (pc' := 30) (L' := [some (.ref 19), some (.ref 4), some (.ref 49)]) (st' := [.ref 19]) (h' := zH (g_M_copy 49 50 51 52 4 5 6 7 (zui I 19 1 5)) (zPr 2)) 1 rfl ?_
  refine wp_blk (pc' := 31) (L' := [some (.ref 19), some (.ref 4), some (.ref 49)]) (st' := [.ref 19, .ref 19]) (h' := zH (g_M_copy 49 50 51 52 4 5 6 7 (zui I 19 1 5)) (zPr 2)) 1 rfl ?_
  refine wp_blk (pc' := 34) (L' := [some (.ref 19), some (.ref 4), some (.ref 49)]) (st' := [.int ((g_M_copy 49 50 51 52 4 5 6 7 (zui I 19 1 5)) 19 1), .ref 19]) (h' := zH (g_M_copy 49 50 51 52 4 5 6 7 (zui I 19 1 5)) (zPr 2)) 1 rfl ?_
  refine wp_blk (pc' := 35) (L' := [some (.ref 19), some (.ref 4), some (.ref 49)]) (st' := [.int 1, .int ((g_M_copy 49 50 51 52 4 5 6 7 (zui I 19 1 5)) 19 1), .ref 19]) (h' := zH (g_M_copy 49 50 51 52 4 5 6 7 (zui I 19 1 5)) (zPr 2)) 1 rfl ?_
  refine wp_blk (pc' := 36) (L' := [some (.ref 19), some (.ref 4), some (.ref 49)]) (st' := [.int (((g_M_copy 49 50 51 52 4 5 6 7 (zui I 19 1 5)) 19 1) + 1), .ref 19]) (h' := zH (g_M_copy 49 50 51 52 4 5 6 7 (zui I 19 1 5)) (zPr 2)) 1 rfl ?_
  refine wp_blk (pc' := 39) (L' := [some (.ref 19), some (.ref 4), some (.ref 49)]) (st' := []) (h' := zH (zui (g_M_copy 49 50 51 52 4 5 6 7 (zui I 19 1 5)) 19 1 (((g_M_copy 49 50 51 52 4 5 6 7 (zui I 19 1 5)) 19 1) + 1)) (zPr 2)) 1 rfl ?_
  exact wp_end rfl rfl ⟨rfl, rfl⟩
set_option maxRecDepth 100000 in
theorem sp_take19_2_5 {X : Nat × (Nat → Int32)} (I : Nat → Nat → Int32) : Wf X 79 [some (.ref 19), some (.ref 4), none] (zH (zui I 19 1 5) (zPr 2)) (some (.int 1)) (zH (zui (g_M_copy 4 5 6 7 45 46 47 48 (zui I 19 1 5)) 19 1 (((g_M_copy 4 5 6 7 45 46 47 48 (zui I 19 1 5)) 19 1) - 1)) (zPr 2)) := by
  unfold Wf
  refine wp_blk (pc' := 1) (L' := [some (.ref 19), some (.ref 4), none]) (st' := [.ref 19]) (h' := zH (zui I 19 1 5) (zPr 2)) 1 rfl ?_
  refine wp_blk (pc' := 2) (L' := [some (.ref 19), some (.ref 4), none]) (st' := [.ref 19, .ref 19]) (h' := zH (zui I 19 1 5) (zPr 2)) 1 rfl ?_
  refine wp_blk (pc' := 5) (L' := [some (.ref 19), some (.ref 4), none]) (st' := [.int 5, .ref 19]) (h' := zH (zui I 19 1 5) (zPr 2)) 1 rfl ?_
  refine wp_blk (pc' := 6) (L' := [some (.ref 19), some (.ref 4), none]) (st' := [.int 1, .int 5, .ref 19]) (h' := zH (zui I 19 1 5) (zPr 2)) 1 rfl ?_
  refine wp_blk (pc' := 7) (L' := [some (.ref 19), some (.ref 4), none]) (st' := [.int 4, .ref 19]) (h' := zH (zui I 19 1 5) (zPr 2)) 1 rfl ?_
  refine wp_callf (d := 68) (as := [.ref 19, .int 4]) (rest := []) (Ld := [some (.ref 19), some (.int 4)]) (pc' := 10) (st' := [.ref 45]) (r := some (.ref 45)) (h1 := zH (zui I 19 1 5) (zPr 2)) rfl rfl rfl rfl rfl rfl rfl rfl rfl (sp_at19_2_4 (X := X) (zui I 19 1 5)) ?_
  refine wp_blk (pc' := 11) (L' := [some (.ref 19), some (.ref 4), some (.ref 45)]) (st' := []) (h' := zH (zui I 19 1 5) (zPr 2)) 1 rfl ?_
  refine wp_blk (pc' := 12) (L' := [some (.ref 19), some (.ref 4), some (.ref 45)]) (st' := [.ref 45]) (h' := zH (zui I 19 1 5) (zPr 2)) 1 rfl ?_
  refine wp_blk (pc' := 17) (L' := [some (.ref 19), some (.ref 4), some (.ref 45)]) (st' := []) (h' := zH (zui I 19 1 5) (zPr 2)) 1 rfl ?_
  refine wp_blk (pc' := 18) (L' := [some (.ref 19), some (.ref 4), some (.ref 45)]) (st' := [.ref 4]) (h' := zH (zui I 19 1 5) (zPr 2)) 1 rfl ?_
  refine wp_blk (pc' := 19) (L' := [some (.ref 19), some (.ref 4), some (.ref 45)]) (st' := [.ref 45, .ref 4]) (h' := zH (zui I 19 1 5) (zPr 2)) 1 rfl ?_
  refine wp_callf (d := 37) (as := [.ref 4, .ref 45]) (rest := []) (Ld := [some (.ref 4), some (.ref 45)]) (pc' := 22) (st' := []) (r := none) (h1 := zH (g_M_copy 4 5 6 7 45 46 47 48 (zui I 19 1 5)) (zPr 2)) rfl rfl rfl rfl rfl rfl rfl rfl rfl (xp_M_copy_4_45 _ _ (0, (g_M_copy 4 5 6 7 45 46 47 48 (zui I 19 1 5))) rfl) ?_
  refine wp_blk (pc' := 23) (L' := [some (.ref 19), some (.ref 4), some (.ref 45)]) (st' := [.ref 19]) (h' := zH (g_M_copy 4 5 6 7 45 46 47 48 (zui I 19 1 5)) (zPr 2)) 1 rfl ?_
  refine wp_blk (pc' := 24) (L' := [some (.ref 19), some (.ref 4), some (.ref 45)]) (st' := [.ref 19, .ref 19]) (h' := zH (g_M_copy 4 5 6 7 45 46 47 48 (zui I 19 1 5)) (zPr 2)) 1 rfl ?_
  refine wp_blk (pc' := 27) (L' := [some (.ref 19), some (.ref 4), some (.ref 45)]) (st' := [.int ((g_M_copy 4 5 6 7 45 46 47 48 (zui I 19 1 5)) 19 1), .ref 19]) (h' := zH (g_M_copy 4 5 6 7 45 46 47 48 (zui I 19 1 5)) (zPr 2)) 1 rfl ?_
  refine wp_blk (pc' := 28) (L' := [some (.ref 19), some (.ref 4), some (.ref 45)]) (st' := [.int 1, .int ((g_M_copy 4 5 6 7 45 46 47 48 (zui I 19 1 5)) 19 1), .ref 19]) (h' := zH (g_M_copy 4 5 6 7 45 46 47 48 (zui I 19 1 5)) (zPr 2)) 1 rfl ?_
  refine wp_blk (pc' := 29) (L' := [some (.ref 19), some (.ref 4), some (.ref 45)]) (st' := [.int (((g_M_copy 4 5 6 7 45 46 47 48 (zui I 19 1 5)) 19 1) - 1), .ref 19]) (h' := zH (g_M_copy 4 5 6 7 45 46 47 48 (zui I 19 1 5)) (zPr 2)) 1 rfl ?_
  refine wp_blk (pc' := 32) (L' := [some (.ref 19), some (.ref 4), some (.ref 45)]) (st' := []) (h' := zH (zui (g_M_copy 4 5 6 7 45 46 47 48 (zui I 19 1 5)) 19 1 (((g_M_copy 4 5 6 7 45 46 47 48 (zui I 19 1 5)) 19 1) - 1)) (zPr 2)) 1 rfl ?_
  refine wp_blk (pc' := 33) (L' := [some (.ref 19), some (.ref 4), some (.ref 45)]) (st' := [.int 1]) (h' := zH (zui (g_M_copy 4 5 6 7 45 46 47 48 (zui I 19 1 5)) 19 1 (((g_M_copy 4 5 6 7 45 46 47 48 (zui I 19 1 5)) 19 1) - 1)) (zPr 2)) 1 rfl ?_
  exact wp_end rfl rfl ⟨rfl, rfl⟩
set_option maxRecDepth 100000 in
theorem sp_put19_2_6 {X : Nat × (Nat → Int32)} (I : Nat → Nat → Int32) : Wf X 65 [some (.ref 19), some (.ref 4), none] (zH (zui I 19 1 6) (zPr 2)) none (zH (zui (g_M_copy 21 22 23 24 4 5 6 7 (zui I 19 1 6)) 19 1 (((g_M_copy 21 22 23 24 4 5 6 7 (zui I 19 1 6)) 19 1) + 1)) (zPr 2)) := by
  unfold Wf
  refine wp_blk (pc' := 1) (L' := [some (.ref 19), some (.ref 4), none]) (st' := [.ref 19]) (h' := zH (zui I 19 1 6) (zPr 2)) 1 rfl ?_
  refine wp_callf (d := 66) (as := [.ref 19]) (rest := []) (Ld := [some (.ref 19)]) (pc' := 4) (st' := [.int 0]) (r := some (.int 0)) (h1 := zH (zui I 19 1 6) (zPr 2)) rfl rfl rfl rfl rfl rfl rfl rfl rfl (sp_H1_isFull (X := X) (zui I 19 1 6) (zPr 2)) ?_
  refine wp_blk (pc' := 11) (L' := [some (.ref 19), some (.ref 4), none]) (st' := []) (h' := zH (zui I 19 1 6) (zPr 2)) 1 rfl ?_
  refine wp_blk (pc' := 12) (L' := [some (.ref 19), some (.ref 4), none]) (st' := [.ref 19]) (h' := zH (zui I 19 1 6) (zPr 2)) 1 rfl ?_
  refine wp_blk (pc' := 13) (L' := [some (.ref 19), some (.ref 4), none]) (st' := [.ref 19, .ref 19]) (h' := zH (zui I 19 1 6) (zPr 2)) 1 rfl ?_
  refine wp_blk (pc' := 16) (L' := [some (.ref 19), some (.ref 4), none]) (st' := [.int 6, .ref 19]) (h' := zH (zui I 19 1 6) (zPr 2)) 1 rfl ?_
  refine wp_callf (d := 68) (as := [.ref 19, .int 6]) (rest := []) (Ld := [some (.ref 19), some (.int 6)]) (pc' := 19) (st' := [.ref 21]) (r := some (.ref 21)) (h1 := zH (zui I 19 1 6) (zPr 2)) rfl rfl rfl rfl rfl rfl rfl rfl rfl (sp_at19_2_6 (X := X) (zui I 19 1 6)) ?_
  refine wp_blk (pc' := 20) (L' := [some (.ref 19), some (.ref 4), some (.ref 21)]) (st' := []) (h' := zH (zui I 19 1 6) (zPr 2)) 1 rfl ?_
  refine wp_blk (pc' := 21) (L' := [some (.ref 19), some (.ref 4), some (.ref 21)]) (st' := [.ref 21]) (h' := zH (zui I 19 1 6) (zPr 2)) 1 rfl ?_
  refine wp_blk (pc' := 24) (L' := [some (.ref 19), some (.ref 4), some (.ref 21)]) (st' := []) (h' := zH (zui I 19 1 6) (zPr 2)) 1 rfl ?_
  refine wp_blk (pc' := 25) (L' := [some (.ref 19), some (.ref 4), some (.ref 21)]) (st' := [.ref 21]) (h' := zH (zui I 19 1 6) (zPr 2)) 1 rfl ?_
  refine wp_blk (pc' := 26) (L' := [some (.ref 19), some (.ref 4), some (.ref 21)]) (st' := [.ref 4, .ref 21]) (h' := zH (zui I 19 1 6) (zPr 2)) 1 rfl ?_
  refine wp_callf (d := 37) (as := [.ref 21, .ref 4]) (rest := []) (Ld := [some (.ref 21), some (.ref 4)]) (pc' := 29) (st' := []) (r := none) (h1 := zH (g_M_copy 21 22 23 24 4 5 6 7 (zui I 19 1 6)) (zPr 2)) rfl rfl rfl rfl rfl rfl rfl rfl rfl (xp_M_copy_21_4 _ _ (0, (g_M_copy 21 22 23 24 4 5 6 7 (zui I 19 1 6))) rfl) ?_
  refine wp_blk (pc' := 30) (L' := [some (.ref 19), some (.ref 4), some (.ref 21)]) (st' := [.ref 19]) (h' := zH (g_M_copy 21 22 23 24 4 5 6 7 (zui I 19 1 6)) (zPr 2)) 1 rfl ?_
  refine wp_blk (pc' := 31) (L' := [some (.ref 19), some (.ref 4), some (.ref 21)]) (st' := [.ref 19, .ref 19]) (h' := zH (g_M_copy 21 22 23 24 4 5 6 7 (zui I 19 1 6)) (zPr 2)) 1 rfl ?_
  refine wp_blk (pc' := 34) (L' := [some (.ref 19), some (.ref 4), some (.ref 21)]) (st' := [.int ((g_M_copy 21 22 23 24 4 5 6 7 (zui I 19 1 6)) 19 1), .ref 19]) (h' := zH (g_M_copy 21 22 23 24 4 5 6 7 (zui I 19 1 6)) (zPr 2)) 1 rfl ?_
  refine wp_blk (pc' := 35) (L' := [some (.ref 19), some (.ref 4), some (.ref 21)]) (st' := [.int 1, .int ((g_M_copy 21 22 23 24 4 5 6 7 (zui I 19 1 6)) 19 1), .ref 19]) (h' := zH (g_M_copy 21 22 23 24 4 5 6 7 (zui I 19 1 6)) (zPr 2)) 1 rfl ?_
  refine wp_blk (pc' := 36) (L' := [some (.ref 19), some (.ref 4), some (.ref 21)]) (st' := [.int (((g_M_copy 21 22 23 24 4 5 6 7 (zui I 19 1 6)) 19 1) + 1), .ref 19]) (h' := zH (g_M_copy 21 22 23 24 4 5 6 7 (zui I 19 1 6)) (zPr 2)) 1 rfl ?_
  refine wp_blk (pc' := 39) (L' := [some (.ref 19), some (.ref 4), some (.ref 21)]) (st' := []) (h' := zH (zui (g_M_copy 21 22 23 24 4 5 6 7 (zui I 19 1 6)) 19 1 (((g_M_copy 21 22 23 24 4 5 6 7 (zui I 19 1 6)) 19 1) + 1)) (zPr 2)) 1 rfl ?_
  exact wp_end rfl rfl ⟨rfl, rfl⟩
set_option maxRecDepth 100000 in
theorem sp_take19_2_6 {X : Nat × (Nat → Int32)} (I : Nat → Nat → Int32) : Wf X 79 [some (.ref 19), some (.ref 4), none] (zH (zui I 19 1 6) (zPr 2)) (some (.int 1)) (zH (zui (g_M_copy 4 5 6 7 49 50 51 52 (zui I 19 1 6)) 19 1 (((g_M_copy 4 5 6 7 49 50 51 52 (zui I 19 1 6)) 19 1) - 1)) (zPr 2)) := by
  unfold Wf
  refine wp_blk (pc' := 1) (L' := [some (.ref 19), some (.ref 4), none]) (st' := [.ref 19]) (h' := zH (zui I 19 1 6) (zPr 2)) 1 rfl ?_
  refine wp_blk (pc' := 2) (L' := [some (.ref 19), some (.ref 4), none]) (st' := [.ref 19, .ref 19]) (h' := zH (zui I 19 1 6) (zPr 2)) 1 rfl ?_
  refine wp_blk (pc' := 5) (L' := [some (.ref 19), some (.ref 4), none]) (st' := [.int 6, .ref 19]) (h' := zH (zui I 19 1 6) (zPr 2)) 1 rfl ?_
  refine wp_blk (pc' := 6) (L' := [some (.ref 19), some (.ref 4), none]) (st' := [.int 1, .int 6, .ref 19]) (h' := zH (zui I 19 1 6) (zPr 2)) 1 rfl ?_
  refine wp_blk (pc' := 7) (L' := [some (.ref 19), some (.ref 4), none]) (st' := [.int 5, .ref 19]) (h' := zH (zui I 19 1 6) (zPr 2)) 1 rfl ?_
  refine wp_callf (d := 68) (as := [.ref 19, .int 5]) (rest := []) (Ld := [some (.ref 19), some (.int 5)]) (pc' := 10) (st' := [.ref 49]) (r := some (.ref 49)) (h1 := zH (zui I 19 1 6) (zPr 2)) rfl rfl rfl rfl rfl rfl rfl rfl rfl (sp_at19_2_5 (X := X) (zui I 19 1 6)) ?_
  refine wp_blk (pc' := 11) (L' := [some (.ref 19), some (.ref 4), some (.ref 49)]) (st' := []) (h' := zH (zui I 19 1 6) (zPr 2)) 1 rfl ?_
  refine wp_blk (pc' := 12) (L' := [some (.ref 19), some (.ref 4), some (.ref 49)]) (st' := [.ref 49]) (h' := zH (zui I 19 1 6) (zPr 2)) 1 rfl ?_
  refine wp_blk (pc' := 17) (L' := [some (.ref 19), some (.ref 4), some (.ref 49)]) (st' := []) (h' := zH (zui I 19 1 6) (zPr 2)) 1 rfl ?_
  refine wp_blk (pc' := 18) (L' := [some (.ref 19), some (.ref 4), some (.ref 49)]) (st' := [.ref 4]) (h' := zH (zui I 19 1 6) (zPr 2)) 1 rfl ?_
  refine wp_blk (pc' := 19) (L' := [some (.ref 19), some (.ref 4), some (.ref 49)]) (st' := [.ref 49, .ref 4]) (h' := zH (zui I 19 1 6) (zPr 2)) 1 rfl ?_
  refine wp_callf (d := 37) (as := [.ref 4, .ref 49]) (rest := []) (Ld := [some (.ref 4), some (.ref 49)]) (pc' := 22) (st' := []) (r := none) (h1 := zH (g_M_copy 4 5 6 7 49 50 51 52 (zui I 19 1 6)) (zPr 2)) rfl rfl rfl rfl rfl rfl rfl rfl rfl (xp_M_copy_4_49 _ _ (0, (g_M_copy 4 5 6 7 49 50 51 52 (zui I 19 1 6))) rfl) ?_
  refine wp_blk (pc' := 23) (L' := [some (.ref 19), some (.ref 4), some (.ref 49)]) (st' := [.ref 19]) (h' := zH (g_M_copy 4 5 6 7 49 50 51 52 (zui I 19 1 6)) (zPr 2)) 1 rfl ?_
  refine wp_blk (pc' := 24) (L' := [some (.ref 19), some (.ref 4), some (.ref 49)]) (st' := [.ref 19, .ref 19]) (h' := zH (g_M_copy 4 5 6 7 49 50 51 52 (zui I 19 1 6)) (zPr 2)) 1 rfl ?_
  refine wp_blk (pc' := 27) (L' := [some (.ref 19), some (.ref 4), some (.ref 49)]) (st' := [.int ((g_M_copy 4 5 6 7 49 50 51 52 (zui I 19 1 6)) 19 1), .ref 19]) (h' := zH (g_M_copy 4 5 6 7 49 50 51 52 (zui I 19 1 6)) (zPr 2)) 1 rfl ?_
  refine wp_blk (pc' := 28) (L' := [some (.ref 19), some (.ref 4), some (.ref 49)]) (st' := [.int 1, .int ((g_M_copy 4 5 6 7 49 50 51 52 (zui I 19 1 6)) 19 1), .ref 19]) (h' := zH (g_M_copy 4 5 6 7 49 50 51 52 (zui I 19 1 6)) (zPr 2)) 1 rfl ?_
  refine wp_blk (pc' := 29) (L' := [some (.ref 19), some (.ref 4), some (.ref 49)]) (st' := [.int (((g_M_copy 4 5 6 7 49 50 51 52 (zui I 19 1 6)) 19 1) - 1), .ref 19]) (h' := zH (g_M_copy 4 5 6 7 49 50 51 52 (zui I 19 1 6)) (zPr 2)) 1 rfl ?_
  refine wp_blk (pc' := 32) (L' := [some (.ref 19), some (.ref 4), some (.ref 49)]) (st' := []) (h' := zH (zui (g_M_copy 4 5 6 7 49 50 51 52 (zui I 19 1 6)) 19 1 (((g_M_copy 4 5 6 7 49 50 51 52 (zui I 19 1 6)) 19 1) - 1)) (zPr 2)) 1 rfl ?_
  refine wp_blk (pc' := 33) (L' := [some (.ref 19), some (.ref 4), some (.ref 49)]) (st' := [.int 1]) (h' := zH (zui (g_M_copy 4 5 6 7 49 50 51 52 (zui I 19 1 6)) 19 1 (((g_M_copy 4 5 6 7 49 50 51 52 (zui I 19 1 6)) 19 1) - 1)) (zPr 2)) 1 rfl ?_
  exact wp_end rfl rfl ⟨rfl, rfl⟩
set_option maxRecDepth 100000 in
theorem sp_put19_2_7 {X : Nat × (Nat → Int32)} (I : Nat → Nat → Int32) : Wf X 65 [some (.ref 19), some (.ref 4), none] (zH (zui I 19 1 7) (zPr 2)) none (zH (zui (g_M_copy 25 26 27 28 4 5 6 7 (zui I 19 1 7)) 19 1 (((g_M_copy 25 26 27 28 4 5 6 7 (zui I 19 1 7)) 19 1) + 1)) (zPr 2)) := by
  unfold Wf
  refine wp_blk (pc' := 1) (L' := [some (.ref 19), some (.ref 4), none]) (st' := [.ref 19]) (h' := zH (zui I 19 1 7) (zPr 2)) 1 rfl ?_
  refine wp_callf (d := 66) (as := [.ref 19]) (rest := []) (Ld := [some (.ref 19)]) (pc' := 4) (st' := [.int 0]) (r := some (.int 0)) (h1 := zH (zui I 19 1 7) (zPr 2)) rfl rfl rfl rfl rfl rfl rfl rfl rfl (sp_H1_isFull (X := X) (zui I 19 1 7) (zPr 2)) ?_
  refine wp_blk (pc' := 11) (L' := [some (.ref 19), some (.ref 4), none]) (st' := []) (h' := zH (zui I 19 1 7) (zPr 2)) 1 rfl ?_
  refine wp_blk (pc' := 12) (L' := [some (.ref 19), some (.ref 4), none]) (st' := [.ref 19]) (h' := zH (zui I 19 1 7) (zPr 2)) 1 rfl ?_
  refine wp_blk (pc' := 13) (L' := [some (.ref 19), some (.ref 4), none]) (st' := [.ref 19, .ref 19]) (h' := zH (zui I 19 1 7) (zPr 2)) 1 rfl ?_
  refine wp_blk (pc' := 16) (L' := [some (.ref 19), some (.ref 4), none]) (st' := [.int 7, .ref 19]) (h' := zH (zui I 19 1 7) (zPr 2)) 1 rfl ?_
  refine wp_callf (d := 68) (as := [.ref 19, .int 7]) (rest := []) (Ld := [some (.ref 19), some (.int 7)]) (pc' := 19) (st' := [.ref 25]) (r := some (.ref 25)) (h1 := zH (zui I 19 1 7) (zPr 2)) rfl rfl rfl rfl rfl rfl rfl rfl rfl (sp_at19_2_7 (X := X) (zui I 19 1 7)) ?_
  refine wp_blk (pc' := 20) (L' := [some (.ref 19), some (.ref 4), some (.ref 25)]) (st' := []) (h' := zH (zui I 19 1 7) (zPr 2)) 1 rfl ?_
  refine wp_blk (pc' := 21) (L' := [some (.ref 19), some (.ref 4), some (.ref 25)]) (st' := [.ref 25]) (h' := zH (zui I 19 1 7) (zPr 2)) 1 rfl ?_
  refine wp_blk (pc' := 24) (L' := [some (.ref 19), some (.ref 4), some (.ref 25)]) (st' := []) (h' := zH (zui I 19 1 7) (zPr 2)) 1 rfl ?_
  refine wp_blk (pc' := 25) (L' := [some (.ref 19), some (.ref 4), some (.ref 25)]) (st' := [.ref 25]) (h' := zH (zui I 19 1 7) (zPr 2)) 1 rfl ?_
  refine wp_blk (pc' := 26) (L' := [some (.ref 19), some (.ref 4), some (.ref 25)]) (st' := [.ref 4, .ref 25]) (h' := zH (zui I 19 1 7) (zPr 2)) 1 rfl ?_
  refine wp_callf (d := 37) (as := [.ref 25, .ref 4]) (rest := []) (Ld := [some (.ref 25), some (.ref 4)]) (pc' := 29) (st' := []) (r := none) (h1 := zH (g_M_copy 25 26 27 28 4 5 6 7 (zui I 19 1 7)) (zPr 2)) rfl rfl rfl rfl rfl rfl rfl rfl rfl (xp_M_copy_25_4 _ _ (0, (g_M_copy 25 26 27 28 4 5 6 7 (zui I 19 1 7))) rfl) ?_
  refine wp_blk (pc' := 30) (L' := [some (.ref 19), some (.ref 4), some (.ref 25)]) (st' := [.ref 19]) (h' := zH (g_M_copy 25 26 27 28 4 5 6 7 (zui I 19 1 7)) (zPr 2)) 1 rfl ?_
  refine wp_blk (pc' := 31) (L' := [some (.ref 19), some (.ref 4), some (.ref 25)]) (st' := [.ref 19, .ref 19]) (h' := zH (g_M_copy 25 26 27 28 4 5 6 7 (zui I 19 1 7)) (zPr 2)) 1 rfl ?_
  refine wp_blk (pc' := 34) (L' := [some (.ref 19), some (.ref 4), some (.ref 25)]) (st' := [.int ((g_M_copy 25 26 27 28 4 5 6 7 (zui I 19 1 7)) 19 1), .ref 19]) (h' := zH (g_M_copy 25 26 27 28 4 5 6 7 (zui I 19 1 7)) (zPr 2)) 1 rfl ?_
  refine wp_blk (pc' := 35) (L' := [some (.ref 19), some (.ref 4), some (.ref 25)]) (st' := [.int 1, .int ((g_M_copy 25 26 27 28 4 5 6 7 (zui I 19 1 7)) 19 1), .ref 19]) (h' := zH (g_M_copy 25 26 27 28 4 5 6 7 (zui I 19 1 7)) (zPr 2)) 1 rfl ?_
  refine wp_blk (pc' := 36) (L' := [some (.ref 19), some (.ref 4), some (.ref 25)]) (st' := [.int (((g_M_copy 25 26 27 28 4 5 6 7 (zui I 19 1 7)) 19 1) + 1), .ref 19]) (h' := zH (g_M_copy 25 26 27 28 4 5 6 7 (zui I 19 1 7)) (zPr 2)) 1 rfl ?_
  refine wp_blk (pc' := 39) (L' := [some (.ref 19), some (.ref 4), some (.ref 25)]) (st' := []) (h' := zH (zui (g_M_copy 25 26 27 28 4 5 6 7 (zui I 19 1 7)) 19 1 (((g_M_copy 25 26 27 28 4 5 6 7 (zui I 19 1 7)) 19 1) + 1)) (zPr 2)) 1 rfl ?_
  exact wp_end rfl rfl ⟨rfl, rfl⟩
set_option maxRecDepth 100000 in
theorem sp_take19_2_7 {X : Nat × (Nat → Int32)} (I : Nat → Nat → Int32) : Wf X 79 [some (.ref 19), some (.ref 4), none] (zH (zui I 19 1 7) (zPr 2)) (some (.int 1)) (zH (zui (g_M_copy 4 5 6 7 21 22 23 24 (zui I 19 1 7)) 19 1 (((g_M_copy 4 5 6 7 21 22 23 24 (zui I 19 1 7)) 19 1) - 1)) (zPr 2)) := by
  unfold Wf
  refine wp_blk (pc' := 1) (L' := [some (.ref 19), some (.ref 4), none]) (st' := [.ref 19]) (h' := zH (zui I 19 1 7) (zPr 2)) 1 rfl ?_
  refine wp_blk (pc' := 2) (L' := [some (.ref 19), some (.ref 4), none]) (st' := [.ref 19, .ref 19]) (h' := zH (zui I 19 1 7) (zPr 2)) 1 rfl ?_
  refine wp_blk (pc' := 5) (L' := [some (.ref 19), some (.ref 4), none]) (st' := [.int 7, .ref 19]) (h' := zH (zui I 19 1 7) (zPr 2)) 1 rfl ?_
  refine wp_blk (pc' := 6) (L' := [some (.ref 19), some (.ref 4), none]) (st' := [.int 1, .int 7, .ref 19]) (h' := zH (zui I 19 1 7) (zPr 2)) 1 rfl ?_
  refine wp_blk (pc' := 7) (L' := [some (.ref 19), some (.ref 4), none]) (st' := [.int 6, .ref 19]) (h' := zH (zui I 19 1 7) (zPr 2)) 1 rfl ?_
  refine wp_callf (d := 68) (as := [.ref 19, .int 6]) (rest := []) (Ld := [some (.ref 19), some (.int 6)]) (pc' := 10) (st' := [.ref 21]) (r := some (.ref 21)) (h1 := zH (zui I 19 1 7) (zPr 2)) rfl rfl rfl rfl rfl rfl rfl rfl rfl (sp_at19_2_6 (X := X) (zui I 19 1 7)) ?_
  refine wp_blk (pc' := 11) (L' := [some (.ref 19), some (.ref 4), some (.ref 21)]) (st' := []) (h' := zH (zui I 19 1 7) (zPr 2)) 1 rfl ?_
  refine wp_blk (pc' := 12) (L' := [some (.ref 19), some (.ref 4), some (.ref 21)]) (st' := [.ref 21]) (h' := zH (zui I 19 1 7) (zPr 2)) 1 rfl ?_
  refine wp_blk (pc' := 17) (L' := [some (.ref 19), some (.ref 4), some (.ref 21)]) (st' := []) (h' := zH (zui I 19 1 7) (zPr 2)) 1 rfl ?_
  refine wp_blk (pc' := 18) (L' := [some (.ref 19), some (.ref 4), some (.ref 21)]) (st' := [.ref 4]) (h' := zH (zui I 19 1 7) (zPr 2)) 1 rfl ?_
  refine wp_blk (pc' := 19) (L' := [some (.ref 19), some (.ref 4), some (.ref 21)]) (st' := [.ref 21, .ref 4]) (h' := zH (zui I 19 1 7) (zPr 2)) 1 rfl ?_
  refine wp_callf (d := 37) (as := [.ref 4, .ref 21]) (rest := []) (Ld := [some (.ref 4), some (.ref 21)]) (pc' := 22) (st' := []) (r := none) (h1 := zH (g_M_copy 4 5 6 7 21 22 23 24 (zui I 19 1 7)) (zPr 2)) rfl rfl rfl rfl rfl rfl rfl rfl rfl (xp_M_copy_4_21 _ _ (0, (g_M_copy 4 5 6 7 21 22 23 24 (zui I 19 1 7))) rfl) ?_
  refine wp_blk (pc' := 23) (L' := [some (.ref 19), some (.ref 4), some (.ref 21)]) (st' := [.ref 19]) (h' := zH (g_M_copy 4 5 6 7 21 22 23 24 (zui I 19 1 7)) (zPr 2)) 1 rfl ?_
  refine wp_blk (pc' := 24) (L' := [some (.ref 19), some (.ref 4), some (.ref 21)]) (st' := [.ref 19, .ref 19]) (h' := zH (g_M_copy 4 5 6 7 21 22 23 24 (zui I 19 1 7)) (zPr 2)) 1 rfl ?_
  refine wp_blk (pc' := 27) (L' := [some (.ref 19), some (.ref 4), some (.ref 21)]) (st' := [.int ((g_M_copy 4 5 6 7 21 22 23 24 (zui I 19 1 7)) 19 1), .ref 19]) (h' := zH (g_M_copy 4 5 6 7 21 22 23 24 (zui I 19 1 7)) (zPr 2)) 1 rfl ?_
  refine wp_blk (pc' := 28) (L' := [some (.ref 19), some (.ref 4), some (.ref 21)]) (st' := [.int 1, .int ((g_M_copy 4 5 6 7 21 22 23 24 (zui I 19 1 7)) 19 1), .ref 19]) (h' := zH (g_M_copy 4 5 6 7 21 22 23 24 (zui I 19 1 7)) (zPr 2)) 1 rfl ?_
  refine wp_blk (pc' := 29) (L' := [some (.ref 19), some (.ref 4), some (.ref 21)]) (st' := [.int (((g_M_copy 4 5 6 7 21 22 23 24 (zui I 19 1 7)) 19 1) - 1), .ref 19]) (h' := zH (g_M_copy 4 5 6 7 21 22 23 24 (zui I 19 1 7)) (zPr 2)) 1 rfl ?_
  refine wp_blk (pc' := 32) (L' := [some (.ref 19), some (.ref 4), some (.ref 21)]) (st' := []) (h' := zH (zui (g_M_copy 4 5 6 7 21 22 23 24 (zui I 19 1 7)) 19 1 (((g_M_copy 4 5 6 7 21 22 23 24 (zui I 19 1 7)) 19 1) - 1)) (zPr 2)) 1 rfl ?_
  refine wp_blk (pc' := 33) (L' := [some (.ref 19), some (.ref 4), some (.ref 21)]) (st' := [.int 1]) (h' := zH (zui (g_M_copy 4 5 6 7 21 22 23 24 (zui I 19 1 7)) 19 1 (((g_M_copy 4 5 6 7 21 22 23 24 (zui I 19 1 7)) 19 1) - 1)) (zPr 2)) 1 rfl ?_
  exact wp_end rfl rfl ⟨rfl, rfl⟩
set_option maxRecDepth 100000 in
theorem sp_put19_2_8 {X : Nat × (Nat → Int32)} (I : Nat → Nat → Int32) : Wf X 65 [some (.ref 19), some (.ref 4), none] (zH (zui I 19 1 8) (zPr 2)) none (zH (zui (g_M_copy 29 30 31 32 4 5 6 7 (zui (zui I 19 1 8) 19 1 7)) 19 1 (((g_M_copy 29 30 31 32 4 5 6 7 (zui (zui I 19 1 8) 19 1 7)) 19 1) + 1)) (zPr 3)) := by
  unfold Wf
  refine wp_blk (pc' := 1) (L' := [some (.ref 19), some (.ref 4), none]) (st' := [.ref 19]) (h' := zH (zui I 19 1 8) (zPr 2)) 1 rfl ?_
  refine wp_callf (d := 66) (as := [.ref 19]) (rest := []) (Ld := [some (.ref 19)]) (pc' := 4) (st' := [.int 1]) (r := some (.int 1)) (h1 := zH (zui I 19 1 8) (zPr 2)) rfl rfl rfl rfl rfl rfl rfl rfl rfl (sp_H1_isFull (X := X) (zui I 19 1 8) (zPr 2)) ?_
  refine wp_blk (pc' := 7) (L' := [some (.ref 19), some (.ref 4), none]) (st' := []) (h' := zH (zui I 19 1 8) (zPr 2)) 1 rfl ?_
  refine wp_blk (pc' := 8) (L' := [some (.ref 19), some (.ref 4), none]) (st' := [.ref 19]) (h' := zH (zui I 19 1 8) (zPr 2)) 1 rfl ?_
  refine wp_callf (d := 67) (as := [.ref 19]) (rest := []) (Ld := [some (.ref 19), none, none]) (pc' := 11) (st' := []) (r := none) (h1 := zH (zui (zui I 19 1 8) 19 1 7) (zPr 3)) rfl rfl rfl rfl rfl rfl rfl rfl rfl (sp_drop_2 (X := X) (zui I 19 1 8)) ?_
  refine wp_blk (pc' := 12) (L' := [some (.ref 19), some (.ref 4), none]) (st' := [.ref 19]) (h' := zH (zui (zui I 19 1 8) 19 1 7) (zPr 3)) 1 rfl ?_
  refine wp_blk (pc' := 13) (L' := [some (.ref 19), some (.ref 4), none]) (st' := [.ref 19, .ref 19]) (h' := zH (zui (zui I 19 1 8) 19 1 7) (zPr 3)) 1 rfl ?_
  refine wp_blk (pc' := 16) (L' := [some (.ref 19), some (.ref 4), none]) (st' := [.int 7, .ref 19]) (h' := zH (zui (zui I 19 1 8) 19 1 7) (zPr 3)) 1 rfl ?_
  refine wp_callf (d := 68) (as := [.ref 19, .int 7]) (rest := []) (Ld := [some (.ref 19), some (.int 7)]) (pc' := 19) (st' := [.ref 29]) (r := some (.ref 29)) (h1 := zH (zui (zui I 19 1 8) 19 1 7) (zPr 3)) rfl rfl rfl rfl rfl rfl rfl rfl rfl (sp_at19_3_7 (X := X) (zui (zui I 19 1 8) 19 1 7)) ?_
  refine wp_blk (pc' := 20) (L' := [some (.ref 19), some (.ref 4), some (.ref 29)]) (st' := []) (h' := zH (zui (zui I 19 1 8) 19 1 7) (zPr 3)) 1 rfl ?_
  refine wp_blk (pc' := 21) (L' := [some (.ref 19), some (.ref 4), some (.ref 29)]) (st' := [.ref 29]) (h' := zH (zui (zui I 19 1 8) 19 1 7) (zPr 3)) 1 rfl ?_
  refine wp_blk (pc' := 24) (L' := [some (.ref 19), some (.ref 4), some (.ref 29)]) (st' := []) (h' := zH (zui (zui I 19 1 8) 19 1 7) (zPr 3)) 1 rfl ?_
  refine wp_blk (pc' := 25) (L' := [some (.ref 19), some (.ref 4), some (.ref 29)]) (st' := [.ref 29]) (h' := zH (zui (zui I 19 1 8) 19 1 7) (zPr 3)) 1 rfl ?_
  refine wp_blk (pc' := 26) (L' := [some (.ref 19), some (.ref 4), some (.ref 29)]) (st' := [.ref 4, .ref 29]) (h' := zH (zui (zui I 19 1 8) 19 1 7) (zPr 3)) 1 rfl ?_
  refine wp_callf (d := 37) (as := [.ref 29, .ref 4]) (rest := []) (Ld := [some (.ref 29), some (.ref 4)]) (pc' := 29) (st' := []) (r := none) (h1 := zH (g_M_copy 29 30 31 32 4 5 6 7 (zui (zui I 19 1 8) 19 1 7)) (zPr 3)) rfl rfl rfl rfl rfl rfl rfl rfl rfl (xp_M_copy_29_4 _ _ (0, (g_M_copy 29 30 31 32 4 5 6 7 (zui (zui I 19 1 8) 19 1 7))) rfl) ?_
  refine wp_blk (pc' := 30) (L' := [some (.ref 19), some (.ref 4), some (.ref 29)]) (st' := [.ref 19]) (h' := zH (g_M_copy 29 30 31 32 4 5 6 7 (zui (zui I 19 1 8) 19 1 7)) (zPr 3)) 1 rfl ?_
  refine wp_blk (pc' := 31) (L' := [some (.ref 19), some (.ref 4), some (.ref 29)]) (st' := [.ref 19, .ref 19]) (h' := zH (g_M_copy 29 30 31 32 4 5 6 7 (zui (zui I 19 1 8) 19 1 7)) (zPr 3)) 1 rfl ?_
  refine wp_blk (pc' := 34) (L' := [some (.ref 19), some (.ref 4), some (.ref 29)]) (st' := [.int ((g_M_copy 29 30 31 32 4 5 6 7 (zui (zui I 19 1 8) 19 1 7)) 19 1), .ref 19]) (h' := zH (g_M_copy 29 30 31 32 4 5 6 7 (zui (zui I 19 1 8) 19 1 7)) (zPr 3)) 1 rfl ?_
  refine wp_blk (pc' := 35) (L' := [some (.ref 19), some (.ref 4), some (.ref 29)]) (st' := [.int 1, .int ((g_M_copy 29 30 31 32 4 5 6 7 (zui (zui I 19 1 8) 19 1 7)) 19 1), .ref 19]) (h' := zH (g_M_copy 29 30 31 32 4 5 6 7 (zui (zui I 19 1 8) 19 1 7)) (zPr 3)) 1 rfl ?_
  refine wp_blk (pc' := 36) (L' := [some (.ref 19), some (.ref 4), some (.ref 29)]) (st' := [.int (((g_M_copy 29 30 31 32 4 5 6 7 (zui (zui I 19 1 8) 19 1 7)) 19 1) + 1), .ref 19]) (h' := zH (g_M_copy 29 30 31 32 4 5 6 7 (zui (zui I 19 1 8) 19 1 7)) (zPr 3)) 1 rfl ?_
  refine wp_blk (pc' := 39) (L' := [some (.ref 19), some (.ref 4), some (.ref 29)]) (st' := []) (h' := zH (zui (g_M_copy 29 30 31 32 4 5 6 7 (zui (zui I 19 1 8) 19 1 7)) 19 1 (((g_M_copy 29 30 31 32 4 5 6 7 (zui (zui I 19 1 8) 19 1 7)) 19 1) + 1)) (zPr 3)) 1 rfl ?_
  exact wp_end rfl rfl ⟨rfl, rfl⟩
set_option maxRecDepth 100000 in
theorem sp_take19_2_8 {X : Nat × (Nat → Int32)} (I : Nat → Nat → Int32) : Wf X 79 [some (.ref 19), some (.ref 4), none] (zH (zui I 19 1 8) (zPr 2)) (some (.int 1)) (zH (zui (g_M_copy 4 5 6 7 25 26 27 28 (zui I 19 1 8)) 19 1 (((g_M_copy 4 5 6 7 25 26 27 28 (zui I 19 1 8)) 19 1) - 1)) (zPr 2)) := by
  unfold Wf
  refine wp_blk (pc' := 1) (L' := [some (.ref 19), some (.ref 4), none]) (st' := [.ref 19]) (h' := zH (zui I 19 1 8) (zPr 2)) 1 rfl ?_
  refine wp_blk (pc' := 2) (L' := [some (.ref 19), some (.ref 4), none]) (st' := [.ref 19, .ref 19]) (h' := zH (zui I 19 1 8) (zPr 2)) 1 rfl ?_
  refine wp_blk (pc' := 5) (L' := [some (.ref 19), some (.ref 4), none]) (st' := [.int 8, .ref 19]) (h' := zH (zui I 19 1 8) (zPr 2)) 1 rfl ?_
  refine wp_blk (pc' := 6) (L' := [some (.ref 19), some (.ref 4), none]) (st' := [.int 1, .int 8, .ref 19]) (h' := zH (zui I 19 1 8) (zPr 2)) 1 rfl ?_
  refine wp_blk (pc' := 7) (L' := [some (.ref 19), some (.ref 4), none]) (st' := [.int 7, .ref 19]) (h' := zH (zui I 19 1 8) (zPr 2)) 1 rfl ?_
  refine wp_callf (d := 68) (as := [.ref 19, .int 7]) (rest := []) (Ld := [some (.ref 19), some (.int 7)]) (pc' := 10) (st' := [.ref 25]) (r := some (.ref 25)) (h1 := zH (zui I 19 1 8) (zPr 2)) rfl rfl rfl rfl rfl rfl rfl rfl rfl (sp_at19_2_7 (X := X) (zui I 19 1 8)) ?_
  refine wp_blk (pc' := 11) (L' := [some (.ref 19), some (.ref 4), some (.ref 25)]) (st' := []) (h' := zH (zui I 19 1 8) (zPr 2)) 1 rfl ?_
  refine wp_blk (pc' := 12) (L' := [some (.ref 19), some (.ref 4), some (.ref 25)]) (st' := [.ref 25]) (h' := zH (zui I 19 1 8) (zPr 2)) 1 rfl ?_
  refine wp_blk (pc' := 17) (L' := [some (.ref 19), some (.ref 4), some (.ref 25)]) (st' := []) (h' := zH (zui I 19 1 8) (zPr 2)) 1 rfl ?_
  refine wp_blk (pc' := 18) (L' := [some (.ref 19), some (.ref 4), some (.ref 25)]) (st' := [.ref 4]) (h' := zH (zui I 19 1 8) (zPr 2)) 1 rfl ?_
  refine wp_blk (pc' := 19) (L' := [some (.ref 19), some (.ref 4), some (.ref 25)]) (st' := [.ref 25, .ref 4]) (h' := zH (zui I 19 1 8) (zPr 2)) 1 rfl ?_
  refine wp_callf (d := 37) (as := [.ref 4, .ref 25]) (rest := []) (Ld := [some (.ref 4), some (.ref 25)]) (pc' := 22) (st' := []) (r := none) (h1 := zH (g_M_copy 4 5 6 7 25 26 27 28 (zui I 19 1 8)) (zPr 2)) rfl rfl rfl rfl rfl rfl rfl rfl rfl (xp_M_copy_4_25 _ _ (0, (g_M_copy 4 5 6 7 25 26 27 28 (zui I 19 1 8))) rfl) ?_
  refine wp_blk (pc' := 23) (L' := [some (.ref 19), some (.ref 4), some (.ref 25)]) (st' := [.ref 19]) (h' := zH (g_M_copy 4 5 6 7 25 26 27 28 (zui I 19 1 8)) (zPr 2)) 1 rfl ?_
  refine wp_blk (pc' := 24) (L' := [some (.ref 19), some (.ref 4), some (.ref 25)]) (st' := [.ref 19, .ref 19]) (h' := zH (g_M_copy 4 5 6 7 25 26 27 28 (zui I 19 1 8)) (zPr 2)) 1 rfl ?_
  refine wp_blk (pc' := 27) (L' := [some (.ref 19), some (.ref 4), some (.ref 25)]) (st' := [.int ((g_M_copy 4 5 6 7 25 26 27 28 (zui I 19 1 8)) 19 1), .ref 19]) (h' := zH (g_M_copy 4 5 6 7 25 26 27 28 (zui I 19 1 8)) (zPr 2)) 1 rfl ?_
  refine wp_blk (pc' := 28) (L' := [some (.ref 19), some (.ref 4), some (.ref 25)]) (st' := [.int 1, .int ((g_M_copy 4 5 6 7 25 26 27 28 (zui I 19 1 8)) 19 1), .ref 19]) (h' := zH (g_M_copy 4 5 6 7 25 26 27 28 (zui I 19 1 8)) (zPr 2)) 1 rfl ?_
  refine wp_blk (pc' := 29) (L' := [some (.ref 19), some (.ref 4), some (.ref 25)]) (st' := [.int (((g_M_copy 4 5 6 7 25 26 27 28 (zui I 19 1 8)) 19 1) - 1), .ref 19]) (h' := zH (g_M_copy 4 5 6 7 25 26 27 28 (zui I 19 1 8)) (zPr 2)) 1 rfl ?_
  refine wp_blk (pc' := 32) (L' := [some (.ref 19), some (.ref 4), some (.ref 25)]) (st' := []) (h' := zH (zui (g_M_copy 4 5 6 7 25 26 27 28 (zui I 19 1 8)) 19 1 (((g_M_copy 4 5 6 7 25 26 27 28 (zui I 19 1 8)) 19 1) - 1)) (zPr 2)) 1 rfl ?_
  refine wp_blk (pc' := 33) (L' := [some (.ref 19), some (.ref 4), some (.ref 25)]) (st' := [.int 1]) (h' := zH (zui (g_M_copy 4 5 6 7 25 26 27 28 (zui I 19 1 8)) 19 1 (((g_M_copy 4 5 6 7 25 26 27 28 (zui I 19 1 8)) 19 1) - 1)) (zPr 2)) 1 rfl ?_
  exact wp_end rfl rfl ⟨rfl, rfl⟩
set_option maxRecDepth 100000 in
theorem sp_put19_3_0 {X : Nat × (Nat → Int32)} (I : Nat → Nat → Int32) : Wf X 65 [some (.ref 19), some (.ref 4), none] (zH (zui I 19 1 0) (zPr 3)) none (zH (zui (g_M_copy 33 34 35 36 4 5 6 7 (zui I 19 1 0)) 19 1 (((g_M_copy 33 34 35 36 4 5 6 7 (zui I 19 1 0)) 19 1) + 1)) (zPr 3)) := by
  unfold Wf
  refine wp_blk (pc' := 1) (L' := [some (.ref 19), some (.ref 4), none]) (st' := [.ref 19]) (h' := zH (zui I 19 1 0) (zPr 3)) 1 rfl ?_
  refine wp_callf (d := 66) (as := [.ref 19]) (rest := []) (Ld := [some (.ref 19)]) (pc' := 4) (st' := [.int 0]) (r := some (.int 0)) (h1 := zH (zui I 19 1 0) (zPr 3)) rfl rfl rfl rfl rfl rfl rfl rfl rfl (sp_H1_isFull (X := X) (zui I 19 1 0) (zPr 3)) ?_
  refine wp_blk (pc' := 11) (L' := [some (.ref 19), some (.ref 4), none]) (st' := []) (h' := zH (zui I 19 1 0) (zPr 3)) 1 rfl ?_
  refine wp_blk (pc' := 12) (L' := [some (.ref 19), some (.ref 4), none]) (st' := [.ref 19]) (h' := zH (zui I 19 1 0) (zPr 3)) 1 rfl ?_
  refine wp_blk (pc' := 13) (L' := [some (.ref 19), some (.ref 4), none]) (st' := [.ref 19, .ref 19]) (h' := zH (zui I 19 1 0) (zPr 3)) 1 rfl ?_
  refine wp_blk (pc' := 16) (L' := [some (.ref 19), some (.ref 4), none]) (st' := [.int 0, .ref 19]) (h' := zH (zui I 19 1 0) (zPr 3)) 1 rfl ?_
  refine wp_callf (d := 68) (as := [.ref 19, .int 0]) (rest := []) (Ld := [some (.ref 19), some (.int 0)]) (pc' := 19) (st' := [.ref 33]) (r := some (.ref 33)) (h1 := zH (zui I 19 1 0) (zPr 3)) rfl rfl rfl rfl rfl rfl rfl rfl rfl (sp_at19_3_0 (X := X) (zui I 19 1 0)) ?_
  refine wp_blk (pc' := 20) (L' := [some (.ref 19), some (.ref 4), some (.ref 33)]) (st' := []) (h' := zH (zui I 19 1 0) (zPr 3)) 1 rfl ?_
  refine wp_blk (pc' := 21) (L' := [some (.ref 19), some (.ref 4), some (.ref 33)]) (st' := [.ref 33]) (h' := zH (zui I 19 1 0) (zPr 3)) 1 rfl ?_
  refine wp_blk (pc' := 24) (L' := [some (.ref 19), some (.ref 4), some (.ref 33)]) (st' := []) (h' := zH (zui I 19 1 0) (zPr 3)) 1 rfl ?_
  refine wp_blk (pc' := 25) (L' := [some (.ref 19), some (.ref 4), some (.ref 33)]) (st' := [.ref 33]) (h' := zH (zui I 19 1 0) (zPr 3)) 1 rfl ?_
  refine wp_blk (pc' := 26) (L' := [some (.ref 19), some (.ref 4), some (.ref 33)]) (st' := [.ref 4, .ref 33]) (h' := zH (zui I 19 1 0) (zPr 3)) 1 rfl ?_
  refine wp_callf (d := 37) (as := [.ref 33, .ref 4]) (rest := []) (Ld := [some (.ref 33), some (.ref 4)]) (pc' := 29) (st' := []) (r := none) (h1 := zH (g_M_copy 33 34 35 36 4 5 6 7 (zui I 19 1 0)) (zPr 3)) rfl rfl rfl rfl rfl rfl rfl rfl rfl (xp_M_copy_33_4 _ _ (0, (g_M_copy 33 34 35 36 4 5 6 7 (zui I 19 1 0))) rfl) ?_
  refine wp_blk (pc' := 30) (L' := [some (.ref 19), some (.ref 4), some (.ref 33)]) (st' := [.ref 19]) (h' := zH (g_M_copy 33 34 35 36 4 5 6 7 (zui I 19 1 0)) (zPr 3)) 1 rfl ?_
  refine wp_blk (pc' := 31) (L' := [some (.ref 19), some (.ref 4), some (.ref 33)]) (st' := [.ref 19, .ref 19]) (h' := zH (g_M_copy 33 34 35 36 4 5 6 7 (zui I 19 1 0)) (zPr 3)) 1 rfl ?_
  refine wp_blk (pc' := 34) (L' := [some (.ref 19), some (.ref 4), some (.ref 33)]) (st' := [.int ((g_M_copy 33 34 35 36 4 5 6 7 (zui I 19 1 0)) 19 1), .ref 19]) (h' := zH (g_M_copy 33 34 35 36 4 5 6 7 (zui I 19 1 0)) (zPr 3)) 1 rfl ?_
  refine wp_blk (pc' := 35) (L' := [some (.ref 19), some (.ref 4), some (.ref 33)]) (st' := [.int 1, .int ((g_M_copy 33 34 35 36 4 5 6 7 (zui I 19 1 0)) 19 1), .ref 19]) (h' := zH (g_M_copy 33 34 35 36 4 5 6 7 (zui I 19 1 0)) (zPr 3)) 1 rfl ?_
  refine wp_blk (pc' := 36) (L' := [some (.ref 19), some (.ref 4), some (.ref 33)]) (st' := [.int (((g_M_copy 33 34 35 36 4 5 6 7 (zui I 19 1 0)) 19 1) + 1), .ref 19]) (h' := zH (g_M_copy 33 34 35 36 4 5 6 7 (zui I 19 1 0)) (zPr 3)) 1 rfl ?_
  refine wp_blk (pc' := 39) (L' := [some (.ref 19), some (.ref 4), some (.ref 33)]) (st' := []) (h' := zH (zui (g_M_copy 33 34 35 36 4 5 6 7 (zui I 19 1 0)) 19 1 (((g_M_copy 33 34 35 36 4 5 6 7 (zui I 19 1 0)) 19 1) + 1)) (zPr 3)) 1 rfl ?_
  exact wp_end rfl rfl ⟨rfl, rfl⟩
set_option maxRecDepth 100000 in
theorem sp_take19_3_0 {X : Nat × (Nat → Int32)} (I : Nat → Nat → Int32) : Wf X 79 [some (.ref 19), some (.ref 4), none] (zH (zui I 19 1 0) (zPr 3)) (some (.int 0)) (zH (zui I 19 1 0) (zPr 3)) := by
  unfold Wf
  refine wp_blk (pc' := 1) (L' := [some (.ref 19), some (.ref 4), none]) (st' := [.ref 19]) (h' := zH (zui I 19 1 0) (zPr 3)) 1 rfl ?_
  refine wp_blk (pc' := 2) (L' := [some (.ref 19), some (.ref 4), none]) (st' := [.ref 19, .ref 19]) (h' := zH (zui I 19 1 0) (zPr 3)) 1 rfl ?_
  refine wp_blk (pc' := 5) (L' := [some (.ref 19), some (.ref 4), none]) (st' := [.int 0, .ref 19]) (h' := zH (zui I 19 1 0) (zPr 3)) 1 rfl ?_
  refine wp_blk (pc' := 6) (L' := [some (.ref 19), some (.ref 4), none]) (st' := [.int 1, .int 0, .ref 19]) (h' := zH (zui I 19 1 0) (zPr 3)) 1 rfl ?_
  refine wp_blk (pc' := 7) (L' := [some (.ref 19), some (.ref 4), none]) (st' := [.int (-1), .ref 19]) (h' := zH (zui I 19 1 0) (zPr 3)) 1 rfl ?_
  refine wp_callf (d := 68) (as := [.ref 19, .int (-1)]) (rest := []) (Ld := [some (.ref 19), some (.int (-1))]) (pc' := 10) (st' := [.null]) (r := some (.null)) (h1 := zH (zui I 19 1 0) (zPr 3)) rfl rfl rfl rfl rfl rfl rfl rfl rfl (sp_at19_3_m (X := X) (zui I 19 1 0)) ?_
  refine wp_blk (pc' := 11) (L' := [some (.ref 19), some (.ref 4), some (.null)]) (st' := []) (h' := zH (zui I 19 1 0) (zPr 3)) 1 rfl ?_
  refine wp_blk (pc' := 12) (L' := [some (.ref 19), some (.ref 4), some (.null)]) (st' := [.null]) (h' := zH (zui I 19 1 0) (zPr 3)) 1 rfl ?_
  refine wp_blk (pc' := 15) (L' := [some (.ref 19), some (.ref 4), some (.null)]) (st' := []) (h' := zH (zui I 19 1 0) (zPr 3)) 1 rfl ?_
  refine wp_blk (pc' := 16) (L' := [some (.ref 19), some (.ref 4), some (.null)]) (st' := [.int 0]) (h' := zH (zui I 19 1 0) (zPr 3)) 1 rfl ?_
  exact wp_end rfl rfl ⟨rfl, rfl⟩
set_option maxRecDepth 100000 in
theorem sp_put19_3_1 {X : Nat × (Nat → Int32)} (I : Nat → Nat → Int32) : Wf X 65 [some (.ref 19), some (.ref 4), none] (zH (zui I 19 1 1) (zPr 3)) none (zH (zui (g_M_copy 37 38 39 40 4 5 6 7 (zui I 19 1 1)) 19 1 (((g_M_copy 37 38 39 40 4 5 6 7 (zui I 19 1 1)) 19 1) + 1)) (zPr 3)) := by
  unfold Wf
  refine wp_blk (pc' := 1) (L' := [some (.ref 19), some (.ref 4), none]) (st' := [.ref 19]) (h' := zH (zui I 19 1 1) (zPr 3)) 1 rfl ?_
  refine wp_callf (d := 66) (as := [.ref 19]) (rest := []) (Ld := [some (.ref 19)]) (pc' := 4) (st' := [.int 0]) (r := some (.int 0)) (h1 := zH (zui I 19 1 1) (zPr 3)) rfl rfl rfl rfl rfl rfl rfl rfl rfl (sp_H1_isFull (X := X) (zui I 19 1 1) (zPr 3)) ?_
  refine wp_blk (pc' := 11) (L' := [some (.ref 19), some (.ref 4), none]) (st' := []) (h' := zH (zui I 19 1 1) (zPr 3)) 1 rfl ?_
  refine wp_blk (pc' := 12) (L' := [some (.ref 19), some (.ref 4), none]) (st' := [.ref 19]) (h' := zH (zui I 19 1 1) (zPr 3)) 1 rfl ?_
  refine wp_blk (pc' := 13) (L' := [some (.ref 19), some (.ref 4), none]) (st' := [.ref 19, .ref 19]) (h' := zH (zui I 19 1 1) (zPr 3)) 1 rfl ?_
  refine wp_blk (pc' := 16) (L' := [some (.ref 19), some (.ref 4), none]) (st' := [.int 1, .ref 19]) (h' := zH (zui I 19 1 1) (zPr 3)) 1 rfl ?_
  refine wp_callf (d := 68) (as := [.ref 19, .int 1]) (rest := []) (Ld := [some (.ref 19), some (.int 1)]) (pc' := 19) (st' := [.ref 37]) (r := some (.ref 37)) (h1 := zH (zui I 19 1 1) (zPr 3)) rfl rfl rfl rfl rfl rfl rfl rfl rfl (sp_at19_3_1 (X := X) (zui I 19 1 1)) ?_
  refine wp_blk (pc' := 20) (L' := [some (.ref 19), some (.ref 4), some (.ref 37)]) (st' := []) (h' := zH (zui I 19 1 1) (zPr 3)) 1 rfl ?_
  refine wp_blk (pc' := 21) (L' := [some (.ref 19), some (.ref 4), some (.ref 37)]) (st' := [.ref 37]) (h' := zH (zui I 19 1 1) (zPr 3)) 1 rfl ?_
  refine wp_blk (pc' := 24) (L' := [some (.ref 19), some (.ref 4), some (.ref 37)]) (st' := []) (h' := zH (zui I 19 1 1) (zPr 3)) 1 rfl ?_
  refine wp_blk (pc' := 25) (L' := [some (.ref 19), some (.ref 4), some (.ref 37)]) (st' := [.ref 37]) (h' := zH (zui I 19 1 1) (zPr 3)) 1 rfl ?_
  refine wp_blk (pc' := 26) (L' := [some (.ref 19), some (.ref 4), some (.ref 37)]) (st' := [.ref 4, .ref 37]) (h' := zH (zui I 19 1 1) (zPr 3)) 1 rfl ?_
  refine wp_callf (d := 37) (as := [.ref 37, .ref 4]) (rest := []) (Ld := [some (.ref 37), some (.ref 4)]) (pc' := 29) (st' := []) (r := none) (h1 := zH (g_M_copy 37 38 39 40 4 5 6 7 (zui I 19 1 1)) (zPr 3)) rfl rfl rfl rfl rfl rfl rfl rfl rfl (xp_M_copy_37_4 _ _ (0, (g_M_copy 37 38 39 40 4 5 6 7 (zui I 19 1 1))) rfl) ?_
  refine wp_blk (pc' := 30) (L' := [some (.ref 19), some (.ref 4), some (.ref 37)]) (st' := [.ref 19]) (h' := zH (g_M_copy 37 38 39 40 4 5 6 7 (zui I 19 1 1)) (zPr 3)) 1 rfl ?_
  refine wp_blk (pc' := 31) (L' := [some (.ref 19), some (.ref 4), some (.ref 37)]) (st' := [.ref 19, .ref 19]) (h' := zH (g_M_copy 37 38 39 40 4 5 6 7 (zui I 19 1 1)) (zPr 3)) 1 rfl ?_
  refine wp_blk (pc' := 34) (L' := [some (.ref 19), some (.ref 4), some (.ref 37)]) (st' := [.int ((g_M_copy 37 38 39 40 4 5 6 7 (zui I 19 1 1)) 19 1), .ref 19]) (h' := zH (g_M_copy 37 38 39 40 4 5 6 7 (zui I 19 1 1)) (zPr 3)) 1 rfl ?_
  refine wp_blk (pc' := 35) (L' := [some (.ref 19), some (.ref 4), some (.ref 37)]) (st' := [.int 1, .int ((g_M_copy 37 38 39 40 4 5 6 7 (zui I 19 1 1)) 19 1), .ref 19]) (h' := zH (g_M_copy 37 38 39 40 4 5 6 7 (zui I 19 1 1)) (zPr 3)) 1 rfl ?_
  refine wp_blk (pc' := 36) (L' := [some (.ref 19), some (.ref 4), some (.ref 37)]) (st' := [.int (((g_M_copy 37 38 39 40 4 5 6 7 (zui I 19 1 1)) 19 1) + 1), .ref 19]) (h' := zH (g_M_copy 37 38 39 40 4 5 6 7 (zui I 19 1 1)) (zPr 3)) 1 rfl ?_
  refine wp_blk (pc' := 39) (L' := [some (.ref 19), some (.ref 4), some (.ref 37)]) (st' := []) (h' := zH (zui (g_M_copy 37 38 39 40 4 5 6 7 (zui I 19 1 1)) 19 1 (((g_M_copy 37 38 39 40 4 5 6 7 (zui I 19 1 1)) 19 1) + 1)) (zPr 3)) 1 rfl ?_
  exact wp_end rfl rfl ⟨rfl, rfl⟩
set_option maxRecDepth 100000 in
theorem sp_take19_3_1 {X : Nat × (Nat → Int32)} (I : Nat → Nat → Int32) : Wf X 79 [some (.ref 19), some (.ref 4), none] (zH (zui I 19 1 1) (zPr 3)) (some (.int 1)) (zH (zui (g_M_copy 4 5 6 7 33 34 35 36 (zui I 19 1 1)) 19 1 (((g_M_copy 4 5 6 7 33 34 35 36 (zui I 19 1 1)) 19 1) - 1)) (zPr 3)) := by
  unfold Wf
  refine wp_blk (pc' := 1) (L' := [some (.ref 19), some (.ref 4), none]) (st' := [.ref 19]) (h' := zH (zui I 19 1 1) (zPr 3)) 1 rfl ?_
  refine wp_blk (pc' := 2) (L' := [some (.ref 19), some (.ref 4), none]) (st' := [.ref 19, .ref 19]) (h' := zH (zui I 19 1 1) (zPr 3)) 1 rfl ?_
  refine wp_blk (pc' := 5) (L' := [some (.ref 19), some (.ref 4), none]) (st' := [.int 1, .ref 19]) (h' := zH (zui I 19 1 1) (zPr 3)) 1 rfl ?_
  refine wp_blk (pc' := 6) (L' := [some (.ref 19), some (.ref 4), none]) (st' := [.int 1, .int 1, .ref 19]) (h' := zH (zui I 19 1 1) (zPr 3)) 1 rfl ?_
  refine wp_blk (pc' := 7) (L' := [some (.ref 19), some (.ref 4), none]) (st' := [.int 0, .ref 19]) (h' := zH (zui I 19 1 1) (zPr 3)) 1 rfl ?_
  refine wp_callf (d := 68) (as := [.ref 19, .int 0]) (rest := []) (Ld := [some (.ref 19), some (.int 0)]) (pc' := 10) (st' := [.ref 33]) (r := some (.ref 33)) (h1 := zH (zui I 19 1 1) (zPr 3)) rfl rfl rfl rfl rfl rfl rfl rfl rfl (sp_at19_3_0 (X := X) (zui I 19 1 1)) ?_
  refine wp_blk (pc' := 11) (L' := [some (.ref 19), some (.ref 4), some (.ref 33)]) (st' := []) (h' := zH (zui I 19 1 1) (zPr 3)) 1 rfl ?_
  refine wp_blk (pc' := 12) (L' := [some (.ref 19), some (.ref 4), some (.ref 33)]) (st' := [.ref 33]) (h' := zH (zui I 19 1 1) (zPr 3)) 1 rfl ?_
  refine wp_blk (pc' := 17) (L' := [some (.ref 19), some (.ref 4), some (.ref 33)]) (st' := []) (h' := zH (zui I 19 1 1) (zPr 3)) 1 rfl ?_
  refine wp_blk (pc' := 18) (L' := [some (.ref 19), some (.ref 4), some (.ref 33)]) (st' := [.ref 4]) (h' := zH (zui I 19 1 1) (zPr 3)) 1 rfl ?_
  refine wp_blk (pc' := 19) (L' := [some (.ref 19), some (.ref 4), some (.ref 33)]) (st' := [.ref 33, .ref 4]) (h' := zH (zui I 19 1 1) (zPr 3)) 1 rfl ?_
  refine wp_callf (d := 37) (as := [.ref 4, .ref 33]) (rest := []) (Ld := [some (.ref 4), some (.ref 33)]) (pc' := 22) (st' := []) (r := none) (h1 := zH (g_M_copy 4 5 6 7 33 34 35 36 (zui I 19 1 1)) (zPr 3)) rfl rfl rfl rfl rfl rfl rfl rfl rfl (xp_M_copy_4_33 _ _ (0, (g_M_copy 4 5 6 7 33 34 35 36 (zui I 19 1 1))) rfl) ?_
  refine wp_blk (pc' := 23) (L' := [some (.ref 19), some (.ref 4), some (.ref 33)]) (st' := [.ref 19]) (h' := zH (g_M_copy 4 5 6 7 33 34 35 36 (zui I 19 1 1)) (zPr 3)) 1 rfl ?_
  refine wp_blk (pc' := 24) (L' := [some (.ref 19), some (.ref 4), some (.ref 33)]) (st' := [.ref 19, .ref 19]) (h' := zH (g_M_copy 4 5 6 7 33 34 35 36 (zui I 19 1 1)) (zPr 3)) 1 rfl ?_
  refine wp_blk (pc' := 27) (L' := [some (.ref 19), some (.ref 4), some (.ref 33)]) (st' := [.int ((g_M_copy 4 5 6 7 33 34 35 36 (zui I 19 1 1)) 19 1), .ref 19]) (h' := zH (g_M_copy 4 5 6 7 33 34 35 36 (zui I 19 1 1)) (zPr 3)) 1 rfl ?_
  refine wp_blk (pc' := 28) (L' := [some (.ref 19), some (.ref 4), some (.ref 33)]) (st' := [.int 1, .int ((g_M_copy 4 5 6 7 33 34 35 36 (zui I 19 1 1)) 19 1), .ref 19]) (h' := zH (g_M_copy 4 5 6 7 33 34 35 36 (zui I 19 1 1)) (zPr 3)) 1 rfl ?_
  refine wp_blk (pc' := 29) (L' := [some (.ref 19), some (.ref 4), some (.ref 33)]) (st' := [.int (((g_M_copy 4 5 6 7 33 34 35 36 (zui I 19 1 1)) 19 1) - 1), .ref 19]) (h' := zH (g_M_copy 4 5 6 7 33 34 35 36 (zui I 19 1 1)) (zPr 3)) 1 rfl ?_
  refine wp_blk (pc' := 32) (L' := [some (.ref 19), some (.ref 4), some (.ref 33)]) (st' := []) (h' := zH (zui (g_M_copy 4 5 6 7 33 34 35 36 (zui I 19 1 1)) 19 1 (((g_M_copy 4 5 6 7 33 34 35 36 (zui I 19 1 1)) 19 1) - 1)) (zPr 3)) 1 rfl ?_
  refine wp_blk (pc' := 33) (L' := [some (.ref 19), some (.ref 4), some (.ref 33)]) (st' := [.int 1]) (h' := zH (zui (g_M_copy 4 5 6 7 33 34 35 36 (zui I 19 1 1)) 19 1 (((g_M_copy 4 5 6 7 33 34 35 36 (zui I 19 1 1)) 19 1) - 1)) (zPr 3)) 1 rfl ?_
  exact wp_end rfl rfl ⟨rfl, rfl⟩
set_option maxRecDepth 100000 in
theorem sp_put19_3_2 {X : Nat × (Nat → Int32)} (I : Nat → Nat → Int32) : Wf X 65 [some (.ref 19), some (.ref 4), none] (zH (zui I 19 1 2) (zPr 3)) none (zH (zui (g_M_copy 41 42 43 44 4 5 6 7 (zui I 19 1 2)) 19 1 (((g_M_copy 41 42 43 44 4 5 6 7 (zui I 19 1 2)) 19 1) + 1)) (zPr 3)) := by
  unfold Wf
  refine wp_blk (pc' := 1) (L' := [some (.ref 19), some (.ref 4), none]) (st' := [.ref 19]) (h' := zH (zui I 19 1 2) (zPr 3)) 1 rfl ?_
  refine wp_callf (d := 66) (as := [.ref 19]) (rest := []) (Ld := [some (.ref 19)]) (pc' := 4) (st' := [.int 0]) (r := some (.int 0)) (h1 := zH (zui I 19 1 2) (zPr 3)) rfl rfl rfl rfl rfl rfl rfl rfl rfl (sp_H1_isFull (X := X) (zui I 19 1 2) (zPr 3)) ?_
  refine wp_blk (pc' := 11) (L' := [some (.ref 19), some (.ref 4), none]) (st' := []) (h' := zH (zui I 19 1 2) (zPr 3)) 1 rfl ?_
  refine wp_blk (pc' := 12) (L' := [some (.ref 19), some (.ref 4), none]) (st' := [.ref 19]) (h' := zH (zui I 19 1 2) (zPr 3)) 1 rfl ?_
  refine wp_blk (pc' := 13) (L' := [some (.ref 19), some (.ref 4), none]) (st' := [.ref 19, .ref 19]) (h' := zH (zui I 19 1 2) (zPr 3)) 1 rfl ?_
  refine wp_blk (pc' := 16) (L' := [some (.ref 19), some (.ref 4), none]) (st' := [.int 2, .ref 19]) (h' := zH (zui I 19 1 2) (zPr 3)) 1 rfl ?_
  refine wp_callf (d := 68) (as := [.ref 19, .int 2]) (rest := []) (Ld := [some (.ref 19), some (.int 2)]) (pc' := 19) (st' := [.ref 41]) (r := some (.ref 41)) (h1 := zH (zui I 19 1 2) (zPr 3)) rfl rfl rfl rfl rfl rfl rfl rfl rfl (sp_at19_3_2 (X := X) (zui I 19 1 2)) ?_
  refine wp_blk (pc' := 20) (L' := [some (.ref 19), some (.ref 4), some (.ref 41)]) (st' := []) (h' := zH (zui I 19 1 2) (zPr 3)) 1 rfl ?_
  refine wp_blk (pc' := 21) (L' := [some (.ref 19), some (.ref 4), some (.ref 41)]) (st' := [.ref 41]) (h' := zH (zui I 19 1 2) (zPr 3)) 1 rfl ?_
  refine wp_blk (pc' := 24) (L' := [some (.ref 19), some (.ref 4), some (.ref 41)]) (st' := []) (h' := zH (zui I 19 1 2) (zPr 3)) 1 rfl ?_
  refine wp_blk (pc' := 25) (L' := [some (.ref 19), some (.ref 4), some (.ref 41)]) (st' := [.ref 41]) (h' := zH (zui I 19 1 2) (zPr 3)) 1 rfl ?_
  refine wp_blk (pc' := 26) (L' := [some (.ref 19), some (.ref 4), some (.ref 41)]) (st' := [.ref 4, .ref 41]) (h' := zH (zui I 19 1 2) (zPr 3)) 1 rfl ?_
  refine wp_callf (d := 37) (as := [.ref 41, .ref 4]) (rest := []) (Ld := [some (.ref 41), some (.ref 4)]) (pc' := 29) (st' := []) (r := none) (h1 := zH (g_M_copy 41 42 43 44 4 5 6 7 (zui I 19 1 2)) (zPr 3)) rfl rfl rfl rfl rfl rfl rfl rfl rfl (xp_M_copy_41_4 _ _ (0, (g_M_copy 41 42 43 44 4 5 6 7 (zui I 19 1 2))) rfl) ?_
  refine wp_blk (pc' := 30) (L' := [some (.ref 19), some (.ref 4), some (.ref 41)]) (st' := [.ref 19]) (h' := zH (g_M_copy 41 42 43 44 4 5 6 7 (zui I 19 1 2)) (zPr 3)) 1 rfl ?_
  refine wp_blk (pc' := 31) (L' := [some (.ref 19), some (.ref 4), some (.ref 41)]) (st' := [.ref 19, .ref 19]) (h' := zH (g_M_copy 41 42 43 44 4 5 6 7 (zui I 19 1 2)) (zPr 3)) 1 rfl ?_
  refine wp_blk (pc' := 34) (L' := [some (.ref 19), some (.ref 4), some (.ref 41)]) (st' := [.int ((g_M_copy 41 42 43 44 4 5 6 7 (zui I 19 1 2)) 19 1), .ref 19]) (h' := zH (g_M_copy 41 42 43 44 4 5 6 7 (zui I 19 1 2)) (zPr 3)) 1 rfl ?_
  refine wp_blk (pc' := 35) (L' := [some (.ref 19), some (.ref 4), some (.ref 41)]) (st' := [.int 1, .int ((g_M_copy 41 42 43 44 4 5 6 7 (zui I 19 1 2)) 19 1), .ref 19]) (h' := zH (g_M_copy 41 42 43 44 4 5 6 7 (zui I 19 1 2)) (zPr 3)) 1 rfl ?_
  refine wp_blk (pc' := 36) (L' := [some (.ref 19), some (.ref 4), some (.ref 41)]) (st' := [.int (((g_M_copy 41 42 43 44 4 5 6 7 (zui I 19 1 2)) 19 1) + 1), .ref 19]) (h' := zH (g_M_copy 41 42 43 44 4 5 6 7 (zui I 19 1 2)) (zPr 3)) 1 rfl ?_
  refine wp_blk (pc' := 39) (L' := [some (.ref 19), some (.ref 4), some (.ref 41)]) (st' := []) (h' := zH (zui (g_M_copy 41 42 43 44 4 5 6 7 (zui I 19 1 2)) 19 1 (((g_M_copy 41 42 43 44 4 5 6 7 (zui I 19 1 2)) 19 1) + 1)) (zPr 3)) 1 rfl ?_
  exact wp_end rfl rfl ⟨rfl, rfl⟩
set_option maxRecDepth 100000 in
theorem sp_take19_3_2 {X : Nat × (Nat → Int32)} (I : Nat → Nat → Int32) : Wf X 79 [some (.ref 19), some (.ref 4), none] (zH (zui I 19 1 2) (zPr 3)) (some (.int 1)) (zH (zui (g_M_copy 4 5 6 7 37 38 39 40 (zui I 19 1 2)) 19 1 (((g_M_copy 4 5 6 7 37 38 39 40 (zui I 19 1 2)) 19 1) - 1)) (zPr 3)) := by
  unfold Wf
  refine wp_blk (pc' := 1) (L' := [some (.ref 19), some (.ref 4), none]) (st' := [.ref 19]) (h' := zH (zui I 19 1 2) (zPr 3)) 1 rfl ?_
  refine wp_blk (pc' := 2) (L' := [some (.ref 19), some (.ref 4), none]) (st' := [.ref 19, .ref 19]) (h' := zH (zui I 19 1 2) (zPr 3)) 1 rfl ?_
  refine wp_blk (pc' := 5) (L' := [some (.ref 19), some (.ref 4), none]) (st' := [.int 2, .ref 19]) (h' := zH (zui I 19 1 2) (zPr 3)) 1 rfl ?_
  refine wp_blk (pc' := 6) (L' := [some (.ref 19), some (.ref 4), none]) (st' := [.int 1, .int 2, .ref 19]) (h' := zH (zui I 19 1 2) (zPr 3)) 1 rfl ?_
  refine wp_blk (pc' := 7) (L' := [some (.ref 19), some (.ref 4), none]) (st' := [.int 1, .ref 19]) (h' := zH (zui I 19 1 2) (zPr 3)) 1 rfl ?_
  refine wp_callf (d := 68) (as := [.ref 19, .int 1]) (rest := []) (Ld := [some (.ref 19), some (.int 1)]) (pc' := 10) (st' := [.ref 37]) (r := some (.ref 37)) (h1 := zH (zui I 19 1 2) (zPr 3)) rfl rfl rfl rfl rfl rfl rfl rfl rfl (sp_at19_3_1 (X := X) (zui I 19 1 2)) ?_
  refine wp_blk (pc' := 11) (L' := [some (.ref 19), some (.ref 4), some (.ref 37)]) (st' := []) (h' := zH (zui I 19 1 2) (zPr 3)) 1 rfl ?_
  refine wp_blk (pc' := 12) (L' := [some (.ref 19), some (.ref 4), some (.ref 37)]) (st' := [.ref 37]) (h' := zH (zui I 19 1 2) (zPr 3)) 1 rfl ?_
  refine wp_blk (pc' := 17) (L' := [some (.ref 19), some (.ref 4), some (.ref 37)]) (st' := []) (h' := zH (zui I 19 1 2) (zPr 3)) 1 rfl ?_
  refine wp_blk (pc' := 18) (L' := [some (.ref 19), some (.ref 4), some (.ref 37)]) (st' := [.ref 4]) (h' := zH (zui I 19 1 2) (zPr 3)) 1 rfl ?_
  refine wp_blk (pc' := 19) (L' := [some (.ref 19), some (.ref 4), some (.ref 37)]) (st' := [.ref 37, .ref 4]) (h' := zH (zui I 19 1 2) (zPr 3)) 1 rfl ?_
  refine wp_callf (d := 37) (as := [.ref 4, .ref 37]) (rest := []) (Ld := [some (.ref 4), some (.ref 37)]) (pc' := 22) (st' := []) (r := none) (h1 := zH (g_M_copy 4 5 6 7 37 38 39 40 (zui I 19 1 2)) (zPr 3)) rfl rfl rfl rfl rfl rfl rfl rfl rfl (xp_M_copy_4_37 _ _ (0, (g_M_copy 4 5 6 7 37 38 39 40 (zui I 19 1 2))) rfl) ?_
  refine wp_blk (pc' := 23) (L' := [some (.ref 19), some (.ref 4), some (.ref 37)]) (st' := [.ref 19]) (h' := zH (g_M_copy 4 5 6 7 37 38 39 40 (zui I 19 1 2)) (zPr 3)) 1 rfl ?_
  refine wp_blk (pc' := 24) (L' := [some (.ref 19), some (.ref 4), some (.ref 37)]) (st' := [.ref 19, .ref 19]) (h' := zH (g_M_copy 4 5 6 7 37 38 39 40 (zui I 19 1 2)) (zPr 3)) 1 rfl ?_
  refine wp_blk (pc' := 27) (L' := [some (.ref 19), some (.ref 4), some (.ref 37)]) (st' := [.int ((g_M_copy 4 5 6 7 37 38 39 40 (zui I 19 1 2)) 19 1), .ref 19]) (h' := zH (g_M_copy 4 5 6 7 37 38 39 40 (zui I 19 1 2)) (zPr 3)) 1 rfl ?_
  refine wp_blk (pc' := 28) (L' := [some (.ref 19), some (.ref 4), some (.ref 37)]) (st' := [.int 1, .int ((g_M_copy 4 5 6 7 37 38 39 40 (zui I 19 1 2)) 19 1), .ref 19]) (h' := zH (g_M_copy 4 5 6 7 37 38 39 40 (zui I 19 1 2)) (zPr 3)) 1 rfl ?_
  refine wp_blk (pc' := 29) (L' := [some (.ref 19), some (.ref 4), some (.ref 37)]) (st' := [.int (((g_M_copy 4 5 6 7 37 38 39 40 (zui I 19 1 2)) 19 1) - 1), .ref 19]) (h' := zH (g_M_copy 4 5 6 7 37 38 39 40 (zui I 19 1 2)) (zPr 3)) 1 rfl ?_
  refine wp_blk (pc' := 32) (L' := [some (.ref 19), some (.ref 4), some (.ref 37)]) (st' := []) (h' := zH (zui (g_M_copy 4 5 6 7 37 38 39 40 (zui I 19 1 2)) 19 1 (((g_M_copy 4 5 6 7 37 38 39 40 (zui I 19 1 2)) 19 1) - 1)) (zPr 3)) 1 rfl ?_
  refine wp_blk (pc' := 33) (L' := [some (.ref 19), some (.ref 4), some (.ref 37)]) (st' := [.int 1]) (h' := zH (zui (g_M_copy 4 5 6 7 37 38 39 40 (zui I 19 1 2)) 19 1 (((g_M_copy 4 5 6 7 37 38 39 40 (zui I 19 1 2)) 19 1) - 1)) (zPr 3)) 1 rfl ?_
  exact wp_end rfl rfl ⟨rfl, rfl⟩
set_option maxRecDepth 100000 in
theorem sp_put19_3_3 {X : Nat × (Nat → Int32)} (I : Nat → Nat → Int32) : Wf X 65 [some (.ref 19), some (.ref 4), none] (zH (zui I 19 1 3) (zPr 3)) none (zH (zui (g_M_copy 45 46 47 48 4 5 6 7 (zui I 19 1 3)) 19 1 (((g_M_copy 45 46 47 48 4 5 6 7 (zui I 19 1 3)) 19 1) + 1)) (zPr 3)) := by
  unfold Wf
  refine wp_blk (pc' := 1) (L' := [some (.ref 19), some (.ref 4), none]) (st' := [.ref 19]) (h' := zH (zui I 19 1 3) (zPr 3)) 1 rfl ?_
  refine wp_callf (d := 66) (as := [.ref 19]) (rest := []) (Ld := [some (.ref 19)]) (pc' := 4) (st' := [.int 0]) (r := some (.int 0)) (h1 := zH (zui I 19 1 3) (zPr 3)) rfl rfl rfl rfl rfl rfl rfl rfl rfl (sp_H1_isFull (X := X) (zui I 19 1 3) (zPr 3)) ?_
  refine wp_blk (pc' := 11) (L' := [some (.ref 19), some (.ref 4), none]) (st' := []) (h' := zH (zui I 19 1 3) (zPr 3)) 1 rfl ?_
  refine wp_blk (pc' := 12) (L' := [some (.ref 19), some (.ref 4), none]) (st' := [.ref 19]) (h' := zH (zui I 19 1 3) (zPr 3)) 1 rfl ?_
  refine wp_blk (pc' := 13) (L' := [some (.ref 19), some (.ref 4), none]) (st' := [.ref 19, .ref 19]) (h' := zH (zui I 19 1 3) (zPr 3)) 1 rfl ?_
  refine wp_blk (pc' := 16) (L' := [some (.ref 19), some (.ref 4), none]) (st' := [.int 3, .ref 19]) (h' := zH (zui I 19 1 3) (zPr 3)) 1 rfl ?_
  refine wp_callf (d := 68) (as := [.ref 19, .int 3]) (rest := []) (Ld := [some (.ref 19), some (.int 3)]) (pc' := 19) (st' := [.ref 45]) (r := some (.ref 45)) (h1 := zH (zui I 19 1 3) (zPr 3)) rfl rfl rfl rfl rfl rfl rfl rfl rfl (sp_at19_3_3 (X := X) (zui I 19 1 3)) ?_
  refine wp_blk (pc' := 20) (L' := [some (.ref 19), some (.ref 4), some (.ref 45)]) (st' := []) (h' := zH (zui I 19 1 3) (zPr 3)) 1 rfl ?_
  refine wp_blk (pc' := 21) (L' := [some (.ref 19), some (.ref 4), some (.ref 45)]) (st' := [.ref 45]) (h' := zH (zui I 19 1 3) (zPr 3)) 1 rfl ?_
  refine wp_blk (pc' := 24) (L' := [some (.ref 19), some (.ref 4), some (.ref 45)]) (st' := []) (h' := zH (zui I 19 1 3) (zPr 3)) 1 rfl ?_
  refine wp_blk (pc' := 25) (L' := [some (.ref 19), some (.ref 4), some (.ref 45)]) (st' := [.ref 45]) (h' := zH (zui I 19 1 3) (zPr 3)) 1 rfl ?_
  refine wp_blk (pc' := 26) (L' := [some (.ref 19), some (.ref 4), some (.ref 45)]) (st' := [.ref 4, .ref 45]) (h' := zH (zui I 19 1 3) (zPr 3)) 1 rfl ?_
  refine wp_callf (d := 37) (as := [.ref 45, .ref 4]) (rest := []) (Ld := [some (.ref 45), some (.ref 4)]) (pc' := 29) (st' := []) (r := none) (h1 := zH (g_M_copy 45 46 47 48 4 5 6 7 (zui I 19 1 3)) (zPr 3)) rfl rfl rfl rfl rfl rfl rfl rfl rfl (xp_M_copy_45_4 _ _ (0, (g_M_copy 45 46 47 48 4 5 6 7 (zui I 19 1 3))) rfl) ?_
  refine wp_blk (pc' := 30) (L' := [some (.ref 19), some (.ref 4), some (.ref 45)]) (st' := [.ref 19]) (h' := zH (g_M_copy 45 46 47 48 4 5 6 7 (zui I 19 1 3)) (zPr 3)) 1 rfl ?_
  refine wp_blk (pc' := 31) (L' := [some (.ref 19), some (.ref 4), some (.ref 45)]) (st' := [.ref 19, .ref 19]) (h' := zH (g_M_copy 45 46 47 48 4 5 6 7 (zui I 19 1 3)) (zPr 3)) 1 rfl ?_
  refine wp_blk (pc' := 34) (L' := [some (.ref 19), some (.ref 4), some (.ref 45)]) (st' := [.int ((g_M_copy 45 46 47 48 4 5 6 7 (zui I 19 1 3)) 19 1), .ref 19]) (h' := zH (g_M_copy 45 46 47 48 4 5 6 7 (zui I 19 1 3)) (zPr 3)) 1 rfl ?_
  refine wp_blk (pc' := 35) (L' := [some (.ref 19), some (.ref 4), some (.ref 45)]) (st' := [.int 1, .int ((g_M_copy 45 46 47 48 4 5 6 7 (zui I 19 1 3)) 19 1), .ref 19]) (h' := zH (g_M_copy 45 46 47 48 4 5 6 7 (zui I 19 1 3)) (zPr 3)) 1 rfl ?_
  refine wp_blk (pc' := 36) (L' := [some (.ref 19), some (.ref 4), some (.ref 45)]) (st' := [.int (((g_M_copy 45 46 47 48 4 5 6 7 (zui I 19 1 3)) 19 1) + 1), .ref 19]) (h' := zH (g_M_copy 45 46 47 48 4 5 6 7 (zui I 19 1 3)) (zPr 3)) 1 rfl ?_
  refine wp_blk (pc' := 39) (L' := [some (.ref 19), some (.ref 4), some (.ref 45)]) (st' := []) (h' := zH (zui (g_M_copy 45 46 47 48 4 5 6 7 (zui I 19 1 3)) 19 1 (((g_M_copy 45 46 47 48 4 5 6 7 (zui I 19 1 3)) 19 1) + 1)) (zPr 3)) 1 rfl ?_
  exact wp_end rfl rfl ⟨rfl, rfl⟩
set_option maxRecDepth 100000 in
theorem sp_take19_3_3 {X : Nat × (Nat → Int32)} (I : Nat → Nat → Int32) : Wf X 79 [some (.ref 19), some (.ref 4), none] (zH (zui I 19 1 3) (zPr 3)) (some (.int 1)) (zH (zui (g_M_copy 4 5 6 7 41 42 43 44 (zui I 19 1 3)) 19 1 (((g_M_copy 4 5 6 7 41 42 43 44 (zui I 19 1 3)) 19 1) - 1)) (zPr 3)) := by
  unfold Wf
  refine wp_blk (pc' := 1) (L' := [some (.ref 19), some (.ref 4), none]) (st' := [.ref 19]) (h' := zH (zui I 19 1 3) (zPr 3)) 1 rfl ?_
  refine wp_blk (pc' := 2) (L' := [some (.ref 19), some (.ref 4), none]) (st' := [.ref 19, .ref 19]) (h' := zH (zui I 19 1 3) (zPr 3)) 1 rfl ?_
  refine wp_blk (pc' := 5) (L' := [some (.ref 19), some (.ref 4), none]) (st' := [.int 3, .ref 19]) (h' := zH (zui I 19 1 3) (zPr 3)) 1 rfl ?_
  refine wp_blk (pc' := 6) (L' := [some (.ref 19), some (.ref 4), none]) (st' := [.int 1, .int 3, .ref 19]) (h' := zH (zui I 19 1 3) (zPr 3)) 1 rfl ?_
  refine wp_blk (pc' := 7) (L' := [some (.ref 19), some (.ref 4), none]) (st' := [.int 2, .ref 19]) (h' := zH (zui I 19 1 3) (zPr 3)) 1 rfl ?_
  refine wp_callf (d := 68) (as := [.ref 19, .int 2]) (rest := []) (Ld := [some (.ref 19), some (.int 2)]) (pc' := 10) (st' := [.ref 41]) (r := some (.ref 41)) (h1 := zH (zui I 19 1 3) (zPr 3)) rfl rfl rfl rfl rfl rfl rfl rfl rfl (sp_at19_3_2 (X := X) (zui I 19 1 3)) ?_
  refine wp_blk (pc' := 11) (L' := [some (.ref 19), some (.ref 4), some (.ref 41)]) (st' := []) (h' := zH (zui I 19 1 3) (zPr 3)) 1 rfl ?_
  refine wp_blk (pc' := 12) (L' := [some (.ref 19), some (.ref 4), some (.ref 41)]) (st' := [.ref 41]) (h' := zH (zui I 19 1 3) (zPr 3)) 1 rfl ?_
  refine wp_blk (pc' := 17) (L' := [some (.ref 19), some (.ref 4), some (.ref 41)]) (st' := []) (h' := zH (zui I 19 1 3) (zPr 3)) 1 rfl ?_
  refine wp_blk (pc' := 18) (L' := [some (.ref 19), some (.ref 4), some (.ref 41)]) (st' := [.ref 4]) (h' := zH (zui I 19 1 3) (zPr 3)) 1 rfl ?_
  refine wp_blk (pc' := 19) (L' := [some (.ref 19), some (.ref 4), some (.ref 41)]) (st' := [.ref 41, .ref 4]) (h' := zH (zui I 19 1 3) (zPr 3)) 1 rfl ?_
  refine wp_callf (d := 37) (as := [.ref 4, .ref 41]) (rest := []) (Ld := [some (.ref 4), some (.ref 41)]) (pc' := 22) (st' := []) (r := none) (h1 := zH (g_M_copy 4 5 6 7 41 42 43 44 (zui I 19 1 3)) (zPr 3)) rfl rfl rfl rfl rfl rfl rfl rfl rfl (xp_M_copy_4_41 _ _ (0, (g_M_copy 4 5 6 7 41 42 43 44 (zui I 19 1 3))) rfl) ?_
  refine wp_blk (pc' := 23) (L' := [some (.ref 19), some (.ref 4), some (.ref 41)]) (st' := [.ref 19]) (h' := zH (g_M_copy 4 5 6 7 41 42 43 44 (zui I 19 1 3)) (zPr 3)) 1 rfl ?_
  refine wp_blk (pc' := 24) (L' := [some (.ref 19), some (.ref 4), some (.ref 41)]) (st' := [.ref 19, .ref 19]) (h' := zH (g_M_copy 4 5 6 7 41 42 43 44 (zui I 19 1 3)) (zPr 3)) 1 rfl ?_
  refine wp_blk (pc' := 27) (L' := [some (.ref 19), some (.ref 4), some (.ref 41)]) (st' := [.int ((g_M_copy 4 5 6 7 41 42 43 44 (zui I 19 1 3)) 19 1), .ref 19]) (h' := zH (g_M_copy 4 5 6 7 41 42 43 44 (zui I 19 1 3)) (zPr 3)) 1 rfl ?_
  refine wp_blk (pc' := 28) (L' := [some (.ref 19), some (.ref 4), some (.ref 41)]) (st' := [.int 1, .int ((g_M_copy 4 5 6 7 41 42 43 44 (zui I 19 1 3)) 19 1), .ref 19]) (h' := zH (g_M_copy 4 5 6 7 41 42 43 44 (zui I 19 1 3)) (zPr 3)) 1 rfl ?_
  refine wp_blk (pc' := 29) (L' := [some (.ref 19), some (.ref 4), some (.ref 41)]) (st' := [.int (((g_M_copy 4 5 6 7 41 42 43 44 (zui I 19 1 3)) 19 1) - 1), .ref 19]) (h' := zH (g_M_copy 4 5 6 7 41 42 43 44 (zui I 19 1 3)) (zPr 3)) 1 rfl ?_
  refine wp_blk (pc' := 32) (L' := [some (.ref 19), some (.ref 4), some (.ref 41)]) (st' := []) (h' := zH (zui (g_M_copy 4 5 6 7 41 42 43 44 (zui I 19 1 3)) 19 1 (((g_M_copy 4 5 6 7 41 42 43 44 (zui I 19 1 3)) 19 1) - 1)) (zPr 3)) 1 rfl ?_
  refine wp_blk (pc' := 33) (L' := [some (.ref 19), some (.ref 4), some (.ref 41)]) (st' := [.int 1]) (h' := zH (zui (g_M_copy 4 5 6 7 41 42 43 44 (zui I 19 1 3)) 19 1 (((g_M_copy 4 5 6 7 41 42 43 44 (zui I 19 1 3)) 19 1) - 1)) (zPr 3)) 1 rfl ?_
  exact wp_end rfl rfl ⟨rfl, rfl⟩
set_option maxRecDepth 100000 in
theorem sp_put19_3_4 {X : Nat × (Nat → Int32)} (I : Nat → Nat → Int32) : Wf X 65 [some (.ref 19), some (.ref 4), none] (zH (zui I 19 1 4) (zPr 3)) none (zH (zui (g_M_copy 49 50 51 52 4 5 6 7 (zui I 19 1 4)) 19 1 (((g_M_copy 49 50 51 52 4 5 6 7 (zui I 19 1 4)) 19 1) + 1)) (zPr 3)) := by
  unfold Wf
  refine wp_blk (pc' := 1) (L' := [some (.ref 19), some (.ref 4), none]) (st' := [.ref 19]) (h' := zH (zui I 19 1 4) (zPr 3)) 1 rfl ?_
  refine wp_callf (d := 66) (as := [.ref 19]) (rest := []) (Ld := [some (.ref 19)]) (pc' := 4) (st' := [.int 0]) (r := some (.int 0)) (h1 := zH (zui I 19 1 4) (zPr 3)) rfl rfl rfl rfl rfl rfl rfl rfl rfl (sp_H1_isFull (X := X) (zui I 19 1 4) (zPr 3)) ?_
  refine wp_blk (pc' := 11) (L' := [some (.ref 19), some (.ref 4), none]) (st' := []) (h' := zH (zui I 19 1 4) (zPr 3)) 1 rfl ?_
  refine wp_blk (pc' := 12) (L' := [some (.ref 19), some (.ref 4), none]) (st' := [.ref 19]) (h' := zH (zui I 19 1 4) (zPr 3)) 1 rfl ?_
  refine wp_blk (pc' := 13) (L' := [some (.ref 19), some (.ref 4), none]) (st' := [.ref 19, .ref 19]) (h' := zH (zui I 19 1 4) (zPr 3)) 1 rfl ?_
  refine wp_blk (pc' := 16) (L' := [some (.ref 19), some (.ref 4), none]) (st' := [.int 4, .ref 19]) (h' := zH (zui I 19 1 4) (zPr 3)) 1 rfl ?_
  refine wp_callf (d := 68) (as := [.ref 19, .int 4]) (rest := []) (Ld := [some (.ref 19), some (.int 4)]) (pc' := 19) (st' := [.ref 49]) (r := some (.ref 49)) (h1 := zH (zui I 19 1 4) (zPr 3)) rfl rfl rfl rfl rfl rfl rfl rfl rfl (sp_at19_3_4 (X := X) (zui I 19 1 4)) ?_
  refine wp_blk (pc' := 20) (L' := [some (.ref 19), some (.ref 4), some (.ref 49)]) (st' := []) (h' := zH (zui I 19 1 4) (zPr 3)) 1 rfl ?_
  refine wp_blk (pc' := 21) (L' := [some (.ref 19), some (.ref 4), some (.ref 49)]) (st' := [.ref 49]) (h' := zH (zui I 19 1 4) (zPr 3)) 1 rfl ?_
  refine wp_blk (pc' := 24) (L' := [some (.ref 19), some (.ref 4), some (.ref 49)]) (st' := []) (h' := zH (zui I 19 1 4) (zPr 3)) 1 rfl ?_
  refine wp_blk (pc' := 25) (L' := [some (.ref 19), some (.ref 4), some (.ref 49)]) (st' := [.ref 49]) (h' := zH (zui I 19 1 4) (zPr 3)) 1 rfl ?_
  refine wp_blk (pc' := 26) (L' := [some (.ref 19), some (.ref 4), some (.ref 49)]) (st' := [.ref 4, .ref 49]) (h' := zH (zui I 19 1 4) (zPr 3)) 1 rfl ?_
  refine wp_callf (d := 37) (as := [.ref 49, .ref 4]) (rest := []) (Ld := [some (.ref 49), some (.ref 4)]) (pc' := 29) (st' := []) (r := none) (h1 := zH (g_M_copy 49 50 51 52 4 5 6 7 (zui I 19 1 4)) (zPr 3)) rfl rfl rfl rfl rfl rfl rfl rfl rfl (xp_M_copy_49_4 _ _ (0, (g_M_copy 49 50 51 52 4 5 6 7 (zui I 19 1 4))) rfl) ?_
  refine wp_blk (pc' := 30) (L' := [some (.ref 19), some (.ref 4), some (.ref 49)]) (st' := [.ref 19]) (h' := zH (g_M_copy 49 50 51 52 4 5 6 7 (zui I 19 1 4)) (zPr 3)) 1 rfl ?_
  refine wp_blk (pc' := 31) (L' := [some (.ref 19), some (.ref 4), some (.ref 49)]) (st' := [.ref 19, .ref 19]) (h' := zH (g_M_copy 49 50 51 52 4 5 6 7 (zui I 19 1 4)) (zPr 3)) 1 rfl ?_
  refine wp_blk (pc' := 34) (L' := [some (.ref 19), some (.ref 4), some (.ref 49)]) (st' := [.int ((g_M_copy 49 50 51 52 4 5 6 7 (zui I 19 1 4)) 19 1), .ref 19]) (h' := zH (g_M_copy 49 50 51 52 4 5 6 7 (zui I 19 1 4)) (zPr 3)) 1 rfl ?_
  refine wp_blk (pc' := 35) (L' := [some (.ref 19), some (.ref 4), some (.ref 49)]) (st' := [.int 1, .int ((g_M_copy 49 50 51 52 4 5 6 7 (zui I 19 1 4)) 19 1), .ref 19]) (h' := zH (g_M_copy 49 50 51 52 4 5 6 7 (zui I 19 1 4)) (zPr 3)) 1 rfl ?_
  refine wp_blk (pc' := 36) (L' := [some (.ref 19), some (.ref 4), some (.ref 49)]) (st' := [.int (((g_M_copy 49 50 51 52 4 5 6 7 (zui I 19 1 4)) 19 1) + 1), .ref 19]) (h' := zH (g_M_copy 49 50 51 52 4 5 6 7 (zui I 19 1 4)) (zPr 3)) 1 rfl ?_
  refine wp_blk (pc' := 39) (L' := [some (.ref 19), some (.ref 4), some (.ref 49)]) (st' := []) (h' := zH (zui (g_M_copy 49 50 51 52 4 5 6 7 (zui I 19 1 4)) 19 1 (((g_M_copy 49 50 51 52 4 5 6 7 (zui I 19 1 4)) 19 1) + 1)) (zPr 3)) 1 rfl ?_
  exact wp_end rfl rfl ⟨rfl, rfl⟩
set_option maxRecDepth 100000 in
theorem sp_take19_3_4 {X : Nat × (Nat → Int32)} (I : Nat → Nat → Int32) : Wf X 79 [some (.ref 19), some (.ref 4), none] (zH (zui I 19 1 4) (zPr 3)) (some (.int 1)) (zH (zui (g_M_copy 4 5 6 7 45 46 47 48 (zui I 19 1 4)) 19 1 (((g_M_copy 4 5 6 7 45 46 47 48 (zui I 19 1 4)) 19 1) - 1)) (zPr 3)) := by
  unfold Wf
  refine wp_blk (pc' := 1) (L' := [some (.ref 19), some (.ref 4), none]) (st' := [.ref 19]) (h' := zH (zui I 19 1 4) (zPr 3)) 1 rfl ?_
  refine wp_blk (pc' := 2) (L' := [some (.ref 19), some (.ref 4), none]) (st' := [.ref 19, .ref 19]) (h' := zH (zui I 19 1 4) (zPr 3)) 1 rfl ?_
  refine wp_blk (pc' := 5) (L' := [some (.ref 19), some (.ref 4), none]) (st' := [.int 4, .ref 19]) (h' := zH (zui I 19 1 4) (zPr 3)) 1 rfl ?_
  refine wp_blk (pc' := 6) (L' := [some (.ref 19), some (.ref 4), none]) (st' := [.int 1, .int 4, .ref 19]) (h' := zH (zui I 19 1 4) (zPr 3)) 1 rfl ?_
  refine wp_blk (pc' := 7) (L' := [some (.ref 19), some (.ref 4), none]) (st' := [.int 3, .ref 19]) (h' := zH (zui I 19 1 4) (zPr 3)) 1 rfl ?_
  refine wp_callf (d := 68) (as := [.ref 19, .int 3]) (rest := []) (Ld := [some (.ref 19), some (.int 3)]) (pc' := 10) (st' := [.ref 45]) (r := some (.ref 45)) (h1 := zH (zui I 19 1 4) (zPr 3)) rfl rfl rfl rfl rfl rfl rfl rfl rfl (sp_at19_3_3 (X := X) (zui I 19 1 4)) ?_
  refine wp_blk (pc' := 11) (L' := [some (.ref 19), some (.ref 4), some (.ref 45)]) (st' := []) (h' := zH (zui I 19 1 4) (zPr 3)) 1 rfl ?_
  refine wp_blk (pc' := 12) (L' := [some (.ref 19), some (.ref 4), some (.ref 45)]) (st' := [.ref 45]) (h' := zH (zui I 19 1 4) (zPr 3)) 1 rfl ?_
  refine wp_blk (pc' := 17) (L' := [some (.ref 19), some (.ref 4), some (.ref 45)]) (st' := []) (h' := zH (zui I 19 1 4) (zPr 3)) 1 rfl ?_
  refine wp_blk (pc' := 18) (L' := [some (.ref 19), some (.ref 4), some (.ref 45)]) (st' := [.ref 4]) (h' := zH (zui I 19 1 4) (zPr 3)) 1 rfl ?_
  refine wp_blk (pc' := 19) (L' := [some (.ref 19), some (.ref 4), some (.ref 45)]) (st' := [.ref 45, .ref 4]) (h' := zH (zui I 19 1 4) (zPr 3)) 1 rfl ?_
  refine wp_callf (d := 37) (as := [.ref 4, .ref 45]) (rest := []) (Ld := [some (.ref 4), some (.ref 45)]) (pc' := 22) (st' := []) (r := none) (h1 := zH (g_M_copy 4 5 6 7 45 46 47 48 (zui I 19 1 4)) (zPr 3)) rfl rfl rfl rfl rfl rfl rfl rfl rfl (xp_M_copy_4_45 _ _ (0, (g_M_copy 4 5 6 7 45 46 47 48 (zui I 19 1 4))) rfl) ?_
  refine wp_blk (pc' := 23) (L' := [some (.ref 19), some (.ref 4), some (.ref 45)]) (st' := [.ref 19]) (h' := zH (g_M_copy 4 5 6 7 45 46 47 48 (zui I 19 1 4)) (zPr 3)) 1 rfl ?_
  refine wp_blk (pc' := 24) (L' := [some (.ref 19), some (.ref 4), some (.ref 45)]) (st' := [.ref 19, .ref 19]) (h' := zH (g_M_copy 4 5 6 7 45 46 47 48 (zui I 19 1 4)) (zPr 3)) 1 rfl ?_
  refine wp_blk (pc' := 27) (L' := [some (.ref 19), some (.ref 4), some (.ref 45)]) (st' := [.int ((g_M_copy 4 5 6 7 45 46 47 48 (zui I 19 1 4)) 19 1), .ref 19]) (h' := zH (g_M_copy 4 5 6 7 45 46 47 48 (zui I 19 1 4)) (zPr 3)) 1 rfl ?_
  refine wp_blk (pc' := 28) (L' := [some (.ref 19), some (.ref 4), some (.ref 45)]) (st' := [.int 1, .int ((g_M_copy 4 5 6 7 45 46 47 48 (zui I 19 1 4)) 19 1), .ref 19]) (h' := zH (g_M_copy 4 5 6 7 45 46 47 48 (zui I 19 1 4)) (zPr 3)) 1 rfl ?_
  refine wp_blk (pc' := 29) (L' := [some (.ref 19), some (.ref 4), some (.ref 45)]) (st' := [.int (((g_M_copy 4 5 6 7 45 46 47 48 (zui I 19 1 4)) 19 1) - 1), .ref 19]) (h' := zH (g_M_copy 4 5 6 7 45 46 47 48 (zui I 19 1 4)) (zPr 3)) 1 rfl ?_
  refine wp_blk (pc' := 32) (L' := [some (.ref 19), some (.ref 4), some (.ref 45)]) (st' := []) (h' := zH (zui (g_M_copy 4 5 6 7 45 46 47 48 (zui I 19 1 4)) 19 1 (((g_M_copy 4 5 6 7 45 46 47 48 (zui I 19 1 4)) 19 1) - 1)) (zPr 3)) 1 rfl ?_
  refine wp_blk (pc' := 33) (L' := [some (.ref 19), some (.ref 4), some (.ref 45)]) (st' := [.int 1]) (h' := zH (zui (g_M_copy 4 5 6 7 45 46 47 48 (zui I 19 1 4)) 19 1 (((g_M_copy 4 5 6 7 45 46 47 48 (zui I 19 1 4)) 19 1) - 1)) (zPr 3)) 1 rfl ?_
  exact wp_end rfl rfl ⟨rfl, rfl⟩
set_option maxRecDepth 100000 in
theorem sp_put19_3_5 {X : Nat × (Nat → Int32)} (I : Nat → Nat → Int32) : Wf X 65 [some (.ref 19), some (.ref 4), none] (zH (zui I 19 1 5) (zPr 3)) none (zH (zui (g_M_copy 21 22 23 24 4 5 6 7 (zui I 19 1 5)) 19 1 (((g_M_copy 21 22 23 24 4 5 6 7 (zui I 19 1 5)) 19 1) + 1)) (zPr 3)) := by
  unfold Wf
  refine wp_blk (pc' := 1) (L' := [some (.ref 19), some (.ref 4), none]) (st' := [.ref 19]) (h' := zH (zui I 19 1 5) (zPr 3)) 1 rfl ?_
  refine wp_callf (d := 66) (as := [.ref 19]) (rest := []) (Ld := [some (.ref 19)]) (pc' := 4) (st' := [.int 0]) (r := some (.int 0)) (h1 := zH (zui I 19 1 5) (zPr 3)) rfl rfl rfl rfl rfl rfl rfl rfl rfl (sp_H1_isFull (X := X) (zui I 19 1 5) (zPr 3)) ?_
  refine wp_blk (pc' := 11) (L' := [some (.ref 19), some (.ref 4), none]) (st' := []) (h' := zH (zui I 19 1 5) (zPr 3)) 1 rfl ?_
  refine wp_blk (pc' := 12) (L' := [some (.ref 19), some (.ref 4), none]) (st' := [.ref 19]) (h' := zH (zui I 19 1 5) (zPr 3)) 1 rfl ?_
  refine wp_blk (pc' := 13) (L' := [some (.ref 19), some (.ref 4), none]) (st' := [.ref 19, .ref 19]) (h' := zH (zui I 19 1 5) (zPr 3)) 1 rfl ?_
  refine wp_blk (pc' := 16) (L' := [some (.ref 19), some (.ref 4), none]) (st' := [.int 5, .ref 19]) (h' := zH (zui I 19 1 5) (zPr 3)) 1 rfl ?_
  refine wp_callf (d := 68) (as := [.ref 19, .int 5]) (rest := []) (Ld := [some (.ref 19), some (.int 5)]) (pc' := 19) (st' := [.ref 21]) (r := some (.ref 21)) (h1 := zH (zui I 19 1 5) (zPr 3)) rfl rfl rfl rfl rfl rfl rfl rfl rfl (sp_at19_3_5 (X := X) (zui I 19 1 5)) ?_
  refine wp_blk (pc' := 20) (L' := [some (.ref 19), some (.ref 4), some (.ref 21)]) (st' := []) (h' := zH (zui I 19 1 5) (zPr 3)) 1 rfl ?_
  refine wp_blk (pc' := 21) (L' := [some (.ref 19), some (.ref 4), some (.ref 21)]) (st' := [.ref 21]) (h' := zH (zui I 19 1 5) (zPr 3)) 1 rfl ?_
  refine wp_blk (pc' := 24) (L' := [some (.ref 19), some (.ref 4), some (.ref 21)]) (st' := []) (h' := zH (zui I 19 1 5) (zPr 3)) 1 rfl ?_
  refine wp_blk (pc' := 25) (L' := [some (.ref 19), some (.ref 4), some (.ref 21)]) (st' := [.ref 21]) (h' := zH (zui I 19 1 5) (zPr 3)) 1 rfl ?_
  refine wp_blk (pc' := 26) (L' := [some (.ref 19), some (.ref 4), some (.ref 21)]) (st' := [.ref 4, .ref 21]) (h' := zH (zui I 19 1 5) (zPr 3)) 1 rfl ?_
  refine wp_callf (d := 37) (as := [.ref 21, .ref 4]) (rest := []) (Ld := [some (.ref 21), some (.ref 4)]) (pc' := 29) (st' := []) (r := none) (h1 := zH (g_M_copy 21 22 23 24 4 5 6 7 (zui I 19 1 5)) (zPr 3)) rfl rfl rfl rfl rfl rfl rfl rfl rfl (xp_M_copy_21_4 _ _ (0, (g_M_copy 21 22 23 24 4 5 6 7 (zui I 19 1 5))) rfl) ?_
  refine wp_blk (pc' := 30) (L' := [some (.ref 19), some (.ref 4), some (.ref 21)]) (st' := [.ref 19]) (h' := zH (g_M_copy 21 22 23 24 4 5 6 7 (zui I 19 1 5)) (zPr 3)) 1 rfl ?_
  refine wp_blk (pc' := 31) (L' := [some (.ref 19), some (.ref 4), some (.ref 21)]) (st' := [.ref 19, .ref 19]) (h' := zH (g_M_copy 21 22 23 24 4 5 6 7 (zui I 19 1 5)) (zPr 3)) 1 rfl ?_
  refine wp_blk (pc' := 34) (L' := [some (.ref 19), some (.ref 4), some (.ref 21)]) (st' := [.int ((g_M_copy 21 22 23 24 4 5 6 7 (zui I 19 1 5)) 19 1), .ref 19]) (h' := zH (g_M_copy 21 22 23 24 4 5 6 7 (zui I 19 1 5)) (zPr 3)) 1 rfl ?_
  refine wp_blk (pc' := 35) (L' := [some (.ref 19), some (.ref 4), some (.ref 21)]) (st' := [.int 1, .int ((g_M_copy 21 22 23 24 4 5 6 7 (zui I 19 1 5)) 19 1), .ref 19]) (h' := zH (g_M_copy 21 22 23 24 4 5 6 7 (zui I 19 1 5)) (zPr 3)) 1 rfl ?_
  refine wp_blk (pc' := 36) (L' := [some (.ref 19), some (.ref 4), some (.ref 21)]) (st' := [.int (((g_M_copy 21 22 23 24 4 5 6 7 (zui I 19 1 5)) 19 1) + 1), .ref 19]) (h' := zH (g_M_copy 21 22 23 24 4 5 6 7 (zui I 19 1 5)) (zPr 3)) 1 rfl ?_
  refine wp_blk (pc' := 39) (L' := [some (.ref 19), some (.ref 4), some (.ref 21)]) (st' := []) (h' := zH (zui (g_M_copy 21 22 23 24 4 5 6 7 (zui I 19 1 5)) 19 1 (((g_M_copy 21 22 23 24 4 5 6 7 (zui I 19 1 5)) 19 1) + 1)) (zPr 3)) 1 rfl ?_
  exact wp_end rfl rfl ⟨rfl, rfl⟩
set_option maxRecDepth 100000 in
theorem sp_take19_3_5 {X : Nat × (Nat → Int32)} (I : Nat → Nat → Int32) : Wf X 79 [some (.ref 19), some (.ref 4), none] (zH (zui I 19 1 5) (zPr 3)) (some (.int 1)) (zH (zui (g_M_copy 4 5 6 7 49 50 51 52 (zui I 19 1 5)) 19 1 (((g_M_copy 4 5 6 7 49 50 51 52 (zui I 19 1 5)) 19 1) - 1)) (zPr 3)) := by
  unfold Wf
  refine wp_blk (pc' := 1) (L' := [some (.ref 19), some (.ref 4), none]) (st' := [.ref 19]) (h' := zH (zui I 19 1 5) (zPr 3)) 1 rfl ?_
  refine wp_blk (pc' := 2) (L' := [some (.ref 19), some (.ref 4), none]) (st' := [.ref 19, .ref 19]) (h' := zH (zui I 19 1 5) (zPr 3)) 1 rfl ?_
  refine wp_blk (pc' := 5) (L' := [some (.ref 19), some (.ref 4), none]) (st' := [.int 5, .ref 19]) (h' := zH (zui I 19 1 5) (zPr 3)) 1 rfl ?_
  refine wp_blk (pc' := 6) (L' := [some (.ref 19), some (.ref 4), none]) (st' := [.int 1, .int 5, .ref 19]) (h' := zH (zui I 19 1 5) (zPr 3)) 1 rfl ?_
  refine wp_blk (pc' := 7) (L' := [some (.ref 19), some (.ref 4), none]) (st' := [.int 4, .ref 19]) (h' := zH (zui I 19 1 5) (zPr 3)) 1 rfl ?_
  refine wp_callf (d := 68) (as := [.ref 19, .int 4]) (rest := []) (Ld := [some (.ref 19), some (.int 4)]) (pc' := 10) (st' := [.ref 49]) (r := some (.ref 49)) (h1 := zH (zui I 19 1 5) (zPr 3)) rfl rfl rfl rfl rfl rfl rfl rfl rfl (sp_at19_3_4 (X := X) (zui I 19 1 5)) ?_
  refine wp_blk (pc' := 11) (L' := [some (.ref 19), some (.ref 4), some (.ref 49)]) (st' := []) (h' := zH (zui I 19 1 5) (zPr 3)) 1 rfl ?_
  refine wp_blk (pc' := 12) (L' := [some (.ref 19), some (.ref 4), some (.ref 49)]) (st' := [.ref 49]) (h' := zH (zui I 19 1 5) (zPr 3)) 1 rfl ?_
  refine wp_blk (pc' := 17) (L' := [some (.ref 19), some (.ref 4), some (.ref 49)]) (st' := []) (h' := zH (zui I 19 1 5) (zPr 3)) 1 rfl ?_
  refine wp_blk (pc' := 18) (L' := [some (.ref 19), some (.ref 4), some (.ref 49)]) (st' := [.ref 4]) (h' := zH (zui I 19 1 5) (zPr 3)) 1 rfl ?_
  refine wp_blk (pc' := 19) (L' := [some (.ref 19), some (.ref 4), some (.ref 49)]) (st' := [.ref 49, .ref 4]) (h' := zH (zui I 19 1 5) (zPr 3)) 1 rfl ?_
  refine wp_callf (d := 37) (as := [.ref 4, .ref 49]) (rest := []) (Ld := [some (.ref 4), some (.ref 49)]) (pc' := 22) (st' := []) (r := none) (h1 := zH (g_M_copy 4 5 6 7 49 50 51 52 (zui I 19 1 5)) (zPr 3)) rfl rfl rfl rfl rfl rfl rfl rfl rfl (xp_M_copy_4_49 _ _ (0, (g_M_copy 4 5 6 7 49 50 51 52 (zui I 19 1 5))) rfl) ?_
  refine wp_blk (pc' := 23) (L' := [some (.ref 19), some (.ref 4), some (.ref 49)]) (st' := [.ref 19]) (h' := zH (g_M_copy 4 5 6 7 49 50 51 52 (zui I 19 1 5)) (zPr 3)) 1 rfl ?_
  refine wp_blk (pc' := 24) (L' := [some (.ref 19), some (.ref 4), some (.ref 49)]) (st' := [.ref 19, .ref 19]) (h' := zH (g_M_copy 4 5 6 7 49 50 51 52 (zui I 19 1 5)) (zPr 3)) 1 rfl ?_
  refine wp_blk (pc' := 27) (L' := [some (.ref 19), some (.ref 4), some (.ref 49)]) (st' := [.int ((g_M_copy 4 5 6 7 49 50 51 52 (zui I 19 1 5)) 19 1), .ref 19]) (h' := zH (g_M_copy 4 5 6 7 49 50 51 52 (zui I 19 1 5)) (zPr 3)) 1 rfl ?_
  refine wp_blk (pc' := 28) (L' := [some (.ref 19), some (.ref 4), some (.ref 49)]) (st' := [.int 1, .int ((g_M_copy 4 5 6 7 49 50 51 52 (zui I 19 1 5)) 19 1), .ref 19]) (h' := zH (g_M_copy 4 5 6 7 49 50 51 52 (zui I 19 1 5)) (zPr 3)) 1 rfl ?_
  refine wp_blk (pc' := 29) (L' := [some (.ref 19), some (.ref 4), some (.ref 49)]) (st' := [.int (((g_M_copy 4 5 6 7 49 50 51 52 (zui I 19 1 5)) 19 1) - 1), .ref 19]) (h' := zH (g_M_copy 4 5 6 7 49 50 51 52 (zui I 19 1 5)) (zPr 3)) 1 rfl ?_
  refine wp_blk (pc' := 32) (L' := [some (.ref 19), some (.ref 4), some (.ref 49)]) (st' := []) (h' := zH (zui (g_M_copy 4 5 6 7 49 50 51 52 (zui I 19 1 5)) 19 1 (((g_M_copy 4 5 6 7 49 50 51 52 (zui I 19 1 5)) 19 1) - 1)) (zPr 3)) 1 rfl ?_
  refine wp_blk (pc' := 33) (L' := [some (.ref 19), some (.ref 4), some (.ref 49)]) (st' := [.int 1]) (h' := zH (zui (g_M_copy 4 5 6 7 49 50 51 52 (zui I 19 1 5)) 19 1 (((g_M_copy 4 5 6 7 49 50 51 52 (zui I 19 1 5)) 19 1) - 1)) (zPr 3)) 1 rfl ?_
  exact wp_end rfl rfl ⟨rfl, rfl⟩
set_option maxRecDepth 100000 in
theorem sp_put19_3_6 {X : Nat × (Nat → Int32)} (I : Nat → Nat → Int32) : Wf X 65 [some (.ref 19), some (.ref 4), none] (zH (zui I 19 1 6) (zPr 3)) none (zH (zui (g_M_copy 25 26 27 28 4 5 6 7 (zui I 19 1 6)) 19 1 (((g_M_copy 25 26 27 28 4 5 6 7 (zui I 19 1 6)) 19 1) + 1)) (zPr 3)) := by
  unfold Wf
  refine wp_blk (pc' := 1) (L' := [some (.ref 19), some (.ref 4), none]) (st' := [.ref 19]) (h' := zH (zui I 19 1 6) (zPr 3)) 1 rfl ?_
  refine wp_callf (d := 66) (as := [.ref 19]) (rest := []) (Ld := [some (.ref 19)]) (pc' := 4) (st' := [.int 0]) (r := some (.int 0)) (h1 := zH (zui I 19 1 6) (zPr 3)) rfl rfl rfl rfl rfl rfl rfl rfl rfl (sp_H1_isFull (X := X) (zui I 19 1 6) (zPr 3)) ?_
  refine wp_blk (pc' := 11) (L' := [some (.ref 19), some (.ref 4), none]) (st' := []) (h' := zH (zui I 19 1 6) (zPr 3)) 1 rfl ?_
  refine wp_blk (pc' := 12) (L' := [some (.ref 19), some (.ref 4), none]) (st' := [.ref 19]) (h' := zH (zui I 19 1 6) (zPr 3)) 1 rfl ?_
  refine wp_blk (pc' := 13) (L' := [some (.ref 19), some (.ref 4), none]) (st' := [.ref 19, .ref 19]) (h' := zH (zui I 19 1 6) (zPr 3)) 1 rfl ?_
  refine wp_blk (pc' := 16) (L' := [some (.ref 19), some (.ref 4), none]) (st' := [.int 6, .ref 19]) (h' := zH (zui I 19 1 6) (zPr 3)) 1 rfl ?_
  refine wp_callf (d := 68) (as := [.ref 19, .int 6]) (rest := []) (Ld := [some (.ref 19), some (.int 6)]) (pc' := 19) (st' := [.ref 25]) (r := some (.ref 25)) (h1 := zH (zui I 19 1 6) (zPr 3)) rfl rfl rfl rfl rfl rfl rfl rfl rfl (sp_at19_3_6 (X := X) (zui I 19 1 6)) ?_
  refine wp_blk (pc' := 20) (L' := [some (.ref 19), some (.ref 4), some (.ref 25)]) (st' := []) (h' := zH (zui I 19 1 6) (zPr 3)) 1 rfl ?_
  refine wp_blk (pc' := 21) (L' := [some (.ref 19), some (.ref 4), some (.ref 25)]) (st' := [.ref 25]) (h' := zH (zui I 19 1 6) (zPr 3)) 1 rfl ?_
  refine wp_blk (pc' := 24) (L' := [some (.ref 19), some (.ref 4), some (.ref 25)]) (st' := []) (h' := zH (zui I 19 1 6) (zPr 3)) 1 rfl ?_
  refine wp_blk (pc' := 25) (L' := [some (.ref 19), some (.ref 4), some (.ref 25)]) (st' := [.ref 25]) (h' := zH (zui I 19 1 6) (zPr 3)) 1 rfl ?_
  refine wp_blk (pc' := 26) (L' := [some (.ref 19), some (.ref 4), some (.ref 25)]) (st' := [.ref 4, .ref 25]) (h' := zH (zui I 19 1 6) (zPr 3)) 1 rfl ?_
  refine wp_callf (d := 37) (as := [.ref 25, .ref 4]) (rest := []) (Ld := [some (.ref 25), some (.ref 4)]) (pc' := 29) (st' := []) (r := none) (h1 := zH (g_M_copy 25 26 27 28 4 5 6 7 (zui I 19 1 6)) (zPr 3)) rfl rfl rfl rfl rfl rfl rfl rfl rfl (xp_M_copy_25_4 _ _ (0, (g_M_copy 25 26 27 28 4 5 6 7 (zui I 19 1 6))) rfl) ?_
  refine wp_blk (pc' := 30) (L' := [some (.ref 19), some (.ref 4), some (.ref 25)]) (st' := [.ref 19]) (h' := zH (g_M_copy 25 26 27 28 4 5 6 7 (zui I 19 1 6)) (zPr 3)) 1 rfl ?_
  refine wp_blk (pc' := 31) (L' := [some (.ref 19), some (.ref 4), some (.ref 25)]) (st' := [.ref 19, .ref 19]) (h' := zH (g_M_copy 25 26 27 28 4 5 6 7 (zui I 19 1 6)) (zPr 3)) 1 rfl ?_
  refine wp_blk (pc' := 34) (L' := [some (.ref 19), some (.ref 4), some (.ref 25)]) (st' := [.int ((g_M_copy 25 26 27 28 4 5 6 7 (zui I 19 1 6)) 19 1), .ref 19]) (h' := zH (g_M_copy 25 26 27 28 4 5 6 7 (zui I 19 1 6)) (zPr 3)) 1 rfl ?_
  refine wp_blk (pc' := 35) (L' := [some (.ref 19), some (.ref 4), some (.ref 25)]) (st' := [.int 1, .int ((g_M_copy 25 26 27 28 4 5 6 7 (zui I 19 1 6)) 19 1), .ref 19]) (h' := zH (g_M_copy 25 26 27 28 4 5 6 7 (zui I 19 1 6)) (zPr 3)) 1 rfl ?_
  refine wp_blk (pc' := 36) (L' := [some (.ref 19), some (.ref 4), some (.ref 25)]) (st' := [.int (((g_M_copy 25 26 27 28 4 5 6 7 (zui I 19 1 6)) 19 1) + 1), .ref 19]) (h' := zH (g_M_copy 25 26 27 28 4 5 6 7 (zui I 19 1 6)) (zPr 3)) 1 rfl ?_
  refine wp_blk (pc' := 39) (L' := [some (.ref 19), some (.ref 4), some (.ref 25)]) (st' := []) (h' := zH (zui (g_M_copy 25 26 27 28 4 5 6 7 (zui I 19 1 6)) 19 1 (((g_M_copy 25 26 27 28 4 5 6 7 (zui I 19 1 6)) 19 1) + 1)) (zPr 3)) 1 rfl ?_
  exact wp_end rfl rfl ⟨rfl, rfl⟩
set_option maxRecDepth 100000 in
theorem sp_take19_3_6 {X : Nat × (Nat → Int32)} (I : Nat → Nat → Int32) : Wf X 79 [some (.ref 19), some (.ref 4), none] (zH (zui I 19 1 6) (zPr 3)) (some (.int 1)) (zH (zui (g_M_copy 4 5 6 7 21 22 23 24 (zui I 19 1 6)) 19 1 (((g_M_copy 4 5 6 7 21 22 23 24 (zui I 19 1 6)) 19 1) - 1)) (zPr 3)) := by
  unfold Wf
  refine wp_blk (pc' := 1) (L' := [some (.ref 19), some (.ref 4), none]) (st' := [.ref 19]) (h' := zH (zui I 19 1 6) (zPr 3)) 1 rfl ?_
  refine wp_blk (pc' := 2) (L' := [some (.ref 19), some (.ref 4), none]) (st' := [.ref 19, .ref 19]) (h' := zH (zui I 19 1 6) (zPr 3)) 1 rfl ?_
  refine wp_blk (pc' := 5) (L' := [some (.ref 19), some (.ref 4), none]) (st' := [.int 6, .ref 19]) (h' := zH (zui I 19 1 6) (zPr 3)) 1 rfl ?_
  refine wp_blk (pc' := 6) (L' := [some (.ref 19), some (.ref 4), none]) (st' := [.int 1, .int 6, .ref 19]) (h' := zH (zui I 19 1 6) (zPr 3)) 1 rfl ?_
  refine wp_blk (pc' := 7) (L' := [some (.ref 19), some (.ref 4), none]) (st' := [.int 5, .ref 19]) (h' := zH (zui I 19 1 6) (zPr 3)) 1 rfl ?_
  refine wp_callf (d := 68) (as := [.ref 19, .int 5]) (rest := []) (Ld := [some (.ref 19), some (.int 5)]) (pc' := 10) (st' := [.ref 21]) (r := some (.ref 21)) (h1 := zH (zui I 19 1 6) (zPr 3)) rfl rfl rfl rfl rfl rfl rfl rfl rfl (sp_at19_3_5 (X := X) (zui I 19 1 6)) ?_
  refine wp_blk (pc' := 11) (L' := [some (.ref 19), some (.ref 4), some (.ref 21)]) (st' := []) (h' := zH (zui I 19 1 6) (zPr 3)) 1 rfl ?_
  refine wp_blk (pc' := 12) (L' := [some (.ref 19), some (.ref 4), some (.ref 21)]) (st' := [.ref 21]) (h' := zH (zui I 19 1 6) (zPr 3)) 1 rfl ?_
  refine wp_blk (pc' := 17) (L' := [some (.ref 19), some (.ref 4), some (.ref 21)]) (st' := []) (h' := zH (zui I 19 1 6) (zPr 3)) 1 rfl ?_
  refine wp_blk (pc' := 18) (L' := [some (.ref 19), some (.ref 4), some (.ref 21)]) (st' := [.ref 4]) (h' := zH (zui I 19 1 6) (zPr 3)) 1 rfl ?_
  refine wp_blk (pc' := 19) (L' := [some (.ref 19), some (.ref 4), some (.ref 21)]) (st' := [.ref 21, .ref 4]) (h' := zH (zui I 19 1 6) (zPr 3)) 1 rfl ?_
  refine wp_callf (d := 37) (as := [.ref 4, .ref 21]) (rest := []) (Ld := [some (.ref 4), some (.ref 21)]) (pc' := 22) (st' := []) (r := none) (h1 := zH (g_M_copy 4 5 6 7 21 22 23 24 (zui I 19 1 6)) (zPr 3)) rfl rfl rfl rfl rfl rfl rfl rfl rfl (xp_M_copy_4_21 _ _ (0, (g_M_copy 4 5 6 7 21 22 23 24 (zui I 19 1 6))) rfl) ?_
  refine wp_blk (pc' := 23) (L' := [some (.ref 19), some (.ref 4), some (.ref 21)]) (st' := [.ref 19]) (h' := zH (g_M_copy 4 5 6 7 21 22 23 24 (zui I 19 1 6)) (zPr 3)) 1 rfl ?_
  refine wp_blk (pc' := 24) (L' := [some (.ref 19), some (.ref 4), some (.ref 21)]) (st' := [.ref 19, .ref 19]) (h' := zH (g_M_copy 4 5 6 7 21 22 23 24 (zui I 19 1 6)) (zPr 3)) 1 rfl ?_
  refine wp_blk (pc' := 27) (L' := [some (.ref 19), some (.ref 4), some (.ref 21)]) (st' := [.int ((g_M_copy 4 5 6 7 21 22 23 24 (zui I 19 1 6)) 19 1), .ref 19]) (h' := zH (g_M_copy 4 5 6 7 21 22 23 24 (zui I 19 1 6)) (zPr 3)) 1 rfl ?_
  refine wp_blk (pc' := 28) (L' := [some (.ref 19), some (.ref 4), some (.ref 21)]) (st' := [.int 1, .int ((g_M_copy 4 5 6 7 21 22 23 24 (zui I 19 1 6)) 19 1), .ref 19]) (h' := zH (g_M_copy 4 5 6 7 21 22 23 24 (zui I 19 1 6)) (zPr 3)) 1 rfl ?_
  refine wp_blk (pc' := 29) (L' := [some (.ref 19), some (.ref 4), some (.ref 21)]) (st' := [.int (((g_M_copy 4 5 6 7 21 22 23 24 (zui I 19 1 6)) 19 1) - 1), .ref 19]) (h' := zH (g_M_copy 4 5 6 7 21 22 23 24 (zui I 19 1 6)) (zPr 3)) 1 rfl ?_
  refine wp_blk (pc' := 32) (L' := [some (.ref 19), some (.ref 4), some (.ref 21)]) (st' := []) (h' := zH (zui (g_M_copy 4 5 6 7 21 22 23 24 (zui I 19 1 6)) 19 1 (((g_M_copy 4 5 6 7 21 22 23 24 (zui I 19 1 6)) 19 1) - 1)) (zPr 3)) 1 rfl ?_
  refine wp_blk (pc' := 33) (L' := [some (.ref 19), some (.ref 4), some (.ref 21)]) (st' := [.int 1]) (h' := zH (zui (g_M_copy 4 5 6 7 21 22 23 24 (zui I 19 1 6)) 19 1 (((g_M_copy 4 5 6 7 21 22 23 24 (zui I 19 1 6)) 19 1) - 1)) (zPr 3)) 1 rfl ?_
  exact wp_end rfl rfl ⟨rfl, rfl⟩
set_option maxRecDepth 100000 in
theorem sp_put19_3_7 {X : Nat × (Nat → Int32)} (I : Nat → Nat → Int32) : Wf X 65 [some (.ref 19), some (.ref 4), none] (zH (zui I 19 1 7) (zPr 3)) none (zH (zui (g_M_copy 29 30 31 32 4 5 6 7 (zui I 19 1 7)) 19 1 (((g_M_copy 29 30 31 32 4 5 6 7 (zui I 19 1 7)) 19 1) + 1)) (zPr 3)) := by
  unfold Wf
  refine wp_blk (pc' := 1) (L' := [some (.ref 19), some (.ref 4), none]) (st' := [.ref 19]) (h' := zH (zui I 19 1 7) (zPr 3)) 1 rfl ?_
  refine wp_callf (d := 66) (as := [.ref 19]) (rest := []) (Ld := [some (.ref 19)]) (pc' := 4) (st' := [.int 0]) (r := some (.int 0)) (h1 := zH (zui I 19 1 7) (zPr 3)) rfl rfl rfl rfl rfl rfl rfl rfl rfl (sp_H1_isFull (X := X) (zui I 19 1 7) (zPr 3)) ?_
  refine wp_blk (pc' := 11) (L' := [some (.ref 19), some (.ref 4), none]) (st' := []) (h' := zH (zui I 19 1 7) (zPr 3)) 1 rfl ?_
  refine wp_blk (pc' := 12) (L' := [some (.ref 19), some (.ref 4), none]) (st' := [.ref 19]) (h' := zH (zui I 19 1 7) (zPr 3)) 1 rfl ?_
  refine wp_blk (pc' := 13) (L' := [some (.ref 19), some (.ref 4), none]) (st' := [.ref 19, .ref 19]) (h' := zH (zui I 19 1 7) (zPr 3)) 1 rfl ?_
  refine wp_blk (pc' := 16) (L' := [some (.ref 19), some (.ref 4), none]) (st' := [.int 7, .ref 19]) (h' := zH (zui I 19 1 7) (zPr 3)) 1 rfl ?_
  refine wp_callf (d := 68) (as := [.ref 19, .int 7]) (rest := []) (Ld := [some (.ref 19), some (.int 7)]) (pc' := 19) (st' := [.ref 29]) (r := some (.ref 29)) (h1 := zH (zui I 19 1 7) (zPr 3)) rfl rfl rfl rfl rfl rfl rfl rfl rfl (sp_at19_3_7 (X := X) (zui I 19 1 7)) ?_
  refine wp_blk (pc' := 20) (L' := [some (.ref 19), some (.ref 4), some (.ref 29)]) (st' := []) (h' := zH (zui I 19 1 7) (zPr 3)) 1 rfl ?_
  refine wp_blk (pc' := 21) (L' := [some (.ref 19), some (.ref 4), some (.ref 29)]) (st' := [.ref 29]) (h' := zH (zui I 19 1 7) (zPr 3)) 1 rfl ?_
  refine wp_blk (pc' := 24) (L' := [some (.ref 19), some (.ref 4), some (.ref 29)]) (st' := []) (h' := zH (zui I 19 1 7) (zPr 3)) 1 rfl ?_
  refine wp_blk (pc' := 25) (L' := [some (.ref 19), some (.ref 4), some (.ref 29)]) (st' := [.ref 29]) (h' := zH (zui I 19 1 7) (zPr 3)) 1 rfl ?_
  refine wp_blk (pc' := 26) (L' := [some (.ref 19), some (.ref 4), some (.ref 29)]) (st' := [.ref 4, .ref 29]) (h' := zH (zui I 19 1 7) (zPr 3)) 1 rfl ?_
  refine wp_callf (d := 37) (as := [.ref 29, .ref 4]) (rest := []) (Ld := [some (.ref 29), some (.ref 4)]) (pc' := 29) (st' := []) (r := none) (h1 := zH (g_M_copy 29 30 31 32 4 5 6 7 (zui I 19 1 7)) (zPr 3)) rfl rfl rfl rfl rfl rfl rfl rfl rfl (xp_M_copy_29_4 _ _ (0, (g_M_copy 29 30 31 32 4 5 6 7 (zui I 19 1 7))) rfl) ?_
  refine wp_blk (pc' := 30) (L' := [some (.ref 19), some (.ref 4), some (.ref 29)]) (st' := [.ref 19]) (h' := zH (g_M_copy 29 30 31 32 4 5 6 7 (zui I 19 1 7)) (zPr 3)) 1 rfl ?_
  refine wp_blk (pc' := 31) (L' := [some (.ref 19), some (.ref 4), some (.ref 29)]) (st' := [.ref 19, .ref 19]) (h' := zH (g_M_copy 29 30 31 32 4 5 6 7 (zui I 19 1 7)) (zPr 3)) 1 rfl ?_
  refine wp_blk (pc' := 34) (L' := [some (.ref 19), some (.ref 4), some (.ref 29)]) (st' := [.int ((g_M_copy 29 30 31 32 4 5 6 7 (zui I 19 1 7)) 19 1), .ref 19]) (h' := zH (g_M_copy 29 30 31 32 4 5 6 7 (zui I 19 1 7)) (zPr 3)) 1 rfl ?_
  refine wp_blk (pc' := 35) (L' := [some (.ref 19), some (.ref 4), some (.ref 29)]) (st' := [.int 1, .int ((g_M_copy 29 30 31 32 4 5 6 7 (zui I 19 1 7)) 19 1), .ref 19]) (h' := zH (g_M_copy 29 30 31 32 4 5 6 7 (zui I 19 1 7)) (zPr 3)) 1 rfl ?_
  refine wp_blk (pc' := 36) (L' := [some (.ref 19), some (.ref 4), some (.ref 29)]) (st' := [.int (((g_M_copy 29 30 31 32 4 5 6 7 (zui I 19 1 7)) 19 1) + 1), .ref 19]) (h' := zH (g_M_copy 29 30 31 32 4 5 6 7 (zui I 19 1 7)) (zPr 3)) 1 rfl ?_
  refine wp_blk (pc' := 39) (L' := [some (.ref 19), some (.ref 4), some (.ref 29)]) (st' := []) (h' := zH (zui (g_M_copy 29 30 31 32 4 5 6 7 (zui I 19 1 7)) 19 1 (((g_M_copy 29 30 31 32 4 5 6 7 (zui I 19 1 7)) 19 1) + 1)) (zPr 3)) 1 rfl ?_
  exact wp_end rfl rfl ⟨rfl, rfl⟩
set_option maxRecDepth 100000 in
theorem sp_take19_3_7 {X : Nat × (Nat → Int32)} (I : Nat → Nat → Int32) : Wf X 79 [some (.ref 19), some (.ref 4), none] (zH (zui I 19 1 7) (zPr 3)) (some (.int 1)) (zH (zui (g_M_copy 4 5 6 7 25 26 27 28 (zui I 19 1 7)) 19 1 (((g_M_copy 4 5 6 7 25 26 27 28 (zui I 19 1 7)) 19 1) - 1)) (zPr 3)) := by
  unfold Wf
  refine wp_blk (pc' := 1) (L' := [some (.ref 19), some (.ref 4), none]) (st' := [.ref 19]) (h' := zH (zui I 19 1 7) (zPr 3)) 1 rfl ?_
  refine wp_blk (pc' := 2) (L' := [some (.ref 19), some (.ref 4), none]) (st' := [.ref 19, .ref 19]) (h' := zH (zui I 19 1 7) (zPr 3)) 1 rfl ?_
  refine wp_blk (pc' := 5) (L' := [some (.ref 19), some (.ref 4), none]) (st' := [.int 7, .ref 19]) (h' := zH (zui I 19 1 7) (zPr 3)) 1 rfl ?_
  refine wp_blk (pc' := 6) (L' := [some (.ref 19), some (.ref 4), none]) (st' := [.int 1, .int 7, .ref 19]) (h' := zH (zui I 19 1 7) (zPr 3)) 1 rfl ?_
  refine wp_blk (pc' := 7) (L' := [some (.ref 19), some (.ref 4), none]) (st' := [.int 6, .ref 19]) (h' := zH (zui I 19 1 7) (zPr 3)) 1 rfl ?_
  refine wp_callf (d := 68) (as := [.ref 19, .int 6]) (rest := []) (Ld := [some (.ref 19), some (.int 6)]) (pc' := 10) (st' := [.ref 25]) (r := some (.ref 25)) (h1 := zH (zui I 19 1 7) (zPr 3)) rfl rfl rfl rfl rfl rfl rfl rfl rfl (sp_at19_3_6 (X := X) (zui I 19 1 7)) ?_
  refine wp_blk (pc' := 11) (L' := [some (.ref 19), some (.ref 4), some (.ref 25)]) (st' := []) (h' := zH (zui I 19 1 7) (zPr 3)) 1 rfl ?_
  refine wp_blk (pc' := 12) (L' := [some (.ref 19), some (.ref 4), some (.ref 25)]) (st' := [.ref 25]) (h' := zH (zui I 19 1 7) (zPr 3)) 1 rfl ?_
  refine wp_blk (pc' := 17) (L' := [some (.ref 19), some (.ref 4), some (.ref 25)]) (st' := []) (h' := zH (zui I 19 1 7) (zPr 3)) 1 rfl ?_
  refine wp_blk (pc' := 18) (L' := [some (.ref 19), some (.ref 4), some (.ref 25)]) (st' := [.ref 4]) (h' := zH (zui I 19 1 7) (zPr 3)) 1 rfl ?_
  refine wp_blk (pc' := 19) (L' := [some (.ref 19), some (.ref 4), some (.ref 25)]) (st' := [.ref 25, .ref 4]) (h' := zH (zui I 19 1 7) (zPr 3)) 1 rfl ?_
  refine wp_callf (d := 37) (as := [.ref 4, .ref 25]) (rest := []) (Ld := [some (.ref 4), some (.ref 25)]) (pc' := 22) (st' := []) (r := none) (h1 := zH (g_M_copy 4 5 6 7 25 26 27 28 (zui I 19 1 7)) (zPr 3)) rfl rfl rfl rfl rfl rfl rfl rfl rfl (xp_M_copy_4_25 _ _ (0, (g_M_copy 4 5 6 7 25 26 27 28 (zui I 19 1 7))) rfl) ?_
  refine wp_blk (pc' := 23) (L' := [some (.ref 19), some (.ref 4), some (.ref 25)]) (st' := [.ref 19]) (h' := zH (g_M_copy 4 5 6 7 25 26 27 28 (zui I 19 1 7)) (zPr 3)) 1 rfl ?_
  refine wp_blk (pc' := 24) (L' := [some (.ref 19), some (.ref 4), some (.ref 25)]) (st' := [.ref 19, .ref 19]) (h' := zH (g_M_copy 4 5 6 7 25 26 27 28 (zui I 19 1 7)) (zPr 3)) 1 rfl ?_
  refine wp_blk (pc' := 27) (L' := [some (.ref 19), some (.ref 4), some (.ref 25)]) (st' := [.int ((g_M_copy 4 5 6 7 25 26 27 28 (zui I 19 1 7)) 19 1), .ref 19]) (h' := zH (g_M_copy 4 5 6 7 25 26 27 28 (zui I 19 1 7)) (zPr 3)) 1 rfl ?_
  refine wp_blk (pc' := 28) (L' := [some (.ref 19), some (.ref 4), some (.ref 25)]) (st' := [.int 1, .int ((g_M_copy 4 5 6 7 25 26 27 28 (zui I 19 1 7)) 19 1), .ref 19]) (h' := zH (g_M_copy 4 5 6 7 25 26 27 28 (zui I 19 1 7)) (zPr 3)) 1 rfl ?_
  refine wp_blk (pc' := 29) (L' := [some (.ref 19), some (.ref 4), some (.ref 25)]) (st' := [.int (((g_M_copy 4 5 6 7 25 26 27 28 (zui I 19 1 7)) 19 1) - 1), .ref 19]) (h' := zH (g_M_copy 4 5 6 7 25 26 27 28 (zui I 19 1 7)) (zPr 3)) 1 rfl ?_
  refine wp_blk (pc' := 32) (L' := [some (.ref 19), some (.ref 4), some (.ref 25)]) (st' := []) (h' := zH (zui (g_M_copy 4 5 6 7 25 26 27 28 (zui I 19 1 7)) 19 1 (((g_M_copy 4 5 6 7 25 26 27 28 (zui I 19 1 7)) 19 1) - 1)) (zPr 3)) 1 rfl ?_
  refine wp_blk (pc' := 33) (L' := [some (.ref 19), some (.ref 4), some (.ref 25)]) (st' := [.int 1]) (h' := zH (zui (g_M_copy 4 5 6 7 25 26 27 28 (zui I 19 1 7)) 19 1 (((g_M_copy 4 5 6 7 25 26 27 28 (zui I 19 1 7)) 19 1) - 1)) (zPr 3)) 1 rfl ?_
  exact wp_end rfl rfl ⟨rfl, rfl⟩
set_option maxRecDepth 100000 in
theorem sp_put19_3_8 {X : Nat × (Nat → Int32)} (I : Nat → Nat → Int32) : Wf X 65 [some (.ref 19), some (.ref 4), none] (zH (zui I 19 1 8) (zPr 3)) none (zH (zui (g_M_copy 33 34 35 36 4 5 6 7 (zui (zui I 19 1 8) 19 1 7)) 19 1 (((g_M_copy 33 34 35 36 4 5 6 7 (zui (zui I 19 1 8) 19 1 7)) 19 1) + 1)) (zPr 4)) := by
  unfold Wf
  refine wp_blk (pc' := 1) (L' := [some (.ref 19), some (.ref 4), none]) (st' := [.ref 19]) (h' := zH (zui I 19 1 8) (zPr 3)) 1 rfl ?_
  refine wp_callf (d := 66) (as := [.ref 19]) (rest := []) (Ld := [some (.ref 19)]) (pc' := 4) (st' := [.int 1]) (r := some (.int 1)) (h1 := zH (zui I 19 1 8) (zPr 3)) rfl rfl rfl rfl rfl rfl rfl rfl rfl (sp_H1_isFull (X := X) (zui I 19 1 8) (zPr 3)) ?_
  refine wp_blk (pc' := 7) (L' := [some (.ref 19), some (.ref 4), none]) (st' := []) (h' := zH (zui I 19 1 8) (zPr 3)) 1 rfl ?_
  refine wp_blk (pc' := 8) (L' := [some (.ref 19), some (.ref 4), none]) (st' := [.ref 19]) (h' := zH (zui I 19 1 8) (zPr 3)) 1 rfl ?_
  refine wp_callf (d := 67) (as := [.ref 19]) (rest := []) (Ld := [some (.ref 19), none, none]) (pc' := 11) (st' := []) (r := none) (h1 := zH (zui (zui I 19 1 8) 19 1 7) (zPr 4)) rfl rfl rfl rfl rfl rfl rfl rfl rfl (sp_drop_3 (X := X) (zui I 19 1 8)) ?_
  refine wp_blk (pc' := 12) (L' := [some (.ref 19), some (.ref 4), none]) (st' := [.ref 19]) (h' := zH (zui (zui I 19 1 8) 19 1 7) (zPr 4)) 1 rfl ?_
  refine wp_blk (pc' := 13) (L' := [some (.ref 19), some (.ref 4), none]) (st' := [.ref 19, .ref 19]) (h' := zH (zui (zui I 19 1 8) 19 1 7) (zPr 4)) 1 rfl ?_
  refine wp_blk (pc' := 16) (L' := [some (.ref 19), some (.ref 4), none]) (st' := [.int 7, .ref 19]) (h' := zH (zui (zui I 19 1 8) 19 1 7) (zPr 4)) 1 rfl ?_
  refine wp_callf (d := 68) (as := [.ref 19, .int 7]) (rest := []) (Ld := [some (.ref 19), some (.int 7)]) (pc' := 19) (st' := [.ref 33]) (r := some (.ref 33)) (h1 := zH (zui (zui I 19 1 8) 19 1 7) (zPr 4)) rfl rfl rfl rfl rfl rfl rfl rfl rfl (sp_at19_4_7 (X := X) (zui (zui I 19 1 8) 19 1 7)) ?_
  refine wp_blk (pc' := 20) (L' := [some (.ref 19), some (.ref 4), some (.ref 33)]) (st' := []) (h' := zH (zui (zui I 19 1 8) 19 1 7) (zPr 4)) 1 rfl ?_
  refine wp_blk (pc' := 21) (L' := [some (.ref 19), some (.ref 4), some (.ref 33)]) (st' := [.ref 33]) (h' := zH (zui (zui I 19 1 8) 19 1 7) (zPr 4)) 1 rfl ?_
  refine wp_blk (pc' := 24) (L' := [some (.ref 19), some (.ref 4), some (.ref 33)]) (st' := []) (h' := zH (zui (zui I 19 1 8) 19 1 7) (zPr 4)) 1 rfl ?_
  refine wp_blk (pc' := 25) (L' := [some (.ref 19), some (.ref 4), some (.ref 33)]) (st' := [.ref 33]) (h' := zH (zui (zui I 19 1 8) 19 1 7) (zPr 4)) 1 rfl ?_
  refine wp_blk (pc' := 26) (L' := [some (.ref 19), some (.ref 4), some (.ref 33)]) (st' := [.ref 4, .ref 33]) (h' := zH (zui (zui I 19 1 8) 19 1 7) (zPr 4)) 1 rfl ?_
  refine wp_callf (d := 37) (as := [.ref 33, .ref 4]) (rest := []) (Ld := [some (.ref 33), some (.ref 4)]) (pc' := 29) (st' := []) (r := none) (h1 := zH (g_M_copy 33 34 35 36 4 5 6 7 (zui (zui I 19 1 8) 19 1 7)) (zPr 4)) rfl rfl rfl rfl rfl rfl rfl rfl rfl (xp_M_copy_33_4 _ _ (0, (g_M_copy 33 34 35 36 4 5 6 7 (zui (zui I 19 1 8) 19 1 7))) rfl) ?_
  refine wp_blk (pc' := 30) (L' := [some (.ref 19), some (.ref 4), some (.ref 33)]) (st' := [.ref 19]) (h' := zH (g_M_copy 33 34 35 36 4 5 6 7 (zui (zui I 19 1 8) 19 1 7)) (zPr 4)) 1 rfl ?_
  refine wp_blk (pc' := 31) (L' := [some (.ref 19), some (.ref 4), some (.ref 33)]) (st' := [.ref 19, .ref 19]) (h' := zH (g_M_copy 33 34 35 36 4 5 6 7 (zui (zui I 19 1 8) 19 1 7)) (zPr 4)) 1 rfl ?_
  refine wp_blk (pc' := 34) (L' := [some (.ref 19), some (.ref 4), some (.ref 33)]) (st' := [.int ((g_M_copy 33 34 35 36 4 5 6 7 (zui (zui I 19 1 8) 19 1 7)) 19 1), .ref 19]) (h' := zH (g_M_copy 33 34 35 36 4 5 6 7 (zui (zui I 19 1 8) 19 1 7)) (zPr 4)) 1 rfl ?_
  refine wp_blk (pc' := 35) (L' := [some (.ref 19), some (.ref 4), some (.ref 33)]) (st' := [.int 1, .int ((g_M_copy 33 34 35 36 4 5 6 7 (zui (zui I 19 1 8) 19 1 7)) 19 1), .ref 19]) (h' := zH (g_M_copy 33 34 35 36 4 5 6 7 (zui (zui I 19 1 8) 19 1 7)) (zPr 4)) 1 rfl ?_
  refine wp_blk (pc' := 36) (L' := [some (.ref 19), some (.ref 4), some (.ref 33)]) (st' := [.int (((g_M_copy 33 34 35 36 4 5 6 7 (zui (zui I 19 1 8) 19 1 7)) 19 1) + 1), .ref 19]) (h' := zH (g_M_copy 33 34 35 36 4 5 6 7 (zui (zui I 19 1 8) 19 1 7)) (zPr 4)) 1 rfl ?_
  refine wp_blk (pc' := 39) (L' := [some (.ref 19), some (.ref 4), some (.ref 33)]) (st' := []) (h' := zH (zui (g_M_copy 33 34 35 36 4 5 6 7 (zui (zui I 19 1 8) 19 1 7)) 19 1 (((g_M_copy 33 34 35 36 4 5 6 7 (zui (zui I 19 1 8) 19 1 7)) 19 1) + 1)) (zPr 4)) 1 rfl ?_
  exact wp_end rfl rfl ⟨rfl, rfl⟩
set_option maxRecDepth 100000 in
theorem sp_take19_3_8 {X : Nat × (Nat → Int32)} (I : Nat → Nat → Int32) : Wf X 79 [some (.ref 19), some (.ref 4), none] (zH (zui I 19 1 8) (zPr 3)) (some (.int 1)) (zH (zui (g_M_copy 4 5 6 7 29 30 31 32 (zui I 19 1 8)) 19 1 (((g_M_copy 4 5 6 7 29 30 31 32 (zui I 19 1 8)) 19 1) - 1)) (zPr 3)) := by
  unfold Wf
  refine wp_blk (pc' := 1) (L' := [some (.ref 19), some (.ref 4), none]) (st' := [.ref 19]) (h' := zH (zui I 19 1 8) (zPr 3)) 1 rfl ?_
  refine wp_blk (pc' := 2) (L' := [some (.ref 19), some (.ref 4), none]) (st' := [.ref 19, .ref 19]) (h' := zH (zui I 19 1 8) (zPr 3)) 1 rfl ?_
  refine wp_blk (pc' := 5) (L' := [some (.ref 19), some (.ref 4), none]) (st' := [.int 8, .ref 19]) (h' := zH (zui I 19 1 8) (zPr 3)) 1 rfl ?_
  refine wp_blk (pc' := 6) (L' := [some (.ref 19), some (.ref 4), none]) (st' := [.int 1, .int 8, .ref 19]) (h' := zH (zui I 19 1 8) (zPr 3)) 1 rfl ?_
  refine wp_blk (pc' := 7) (L' := [some (.ref 19), some (.ref 4), none]) (st' := [.int 7, .ref 19]) (h' := zH (zui I 19 1 8) (zPr 3)) 1 rfl ?_
  refine wp_callf (d := 68) (as := [.ref 19, .int 7]) (rest := []) (Ld := [some (.ref 19), some (.int 7)]) (pc' := 10) (st' := [.ref 29]) (r := some (.ref 29)) (h1 := zH (zui I 19 1 8) (zPr 3)) rfl rfl rfl rfl rfl rfl rfl rfl rfl (sp_at19_3_7 (X := X) (zui I 19 1 8)) ?_
  refine wp_blk (pc' := 11) (L' := [some (.ref 19), some (.ref 4), some (.ref 29)]) (st' := []) (h' := zH (zui I 19 1 8) (zPr 3)) 1 rfl ?_
  refine wp_blk (pc' := 12) (L' := [some (.ref 19), some (.ref 4), some (.ref 29)]) (st' := [.ref 29]) (h' := zH (zui I 19 1 8) (zPr 3)) 1 rfl ?_
  refine wp_blk (pc' := 17) (L' := [some (.ref 19), some (.ref 4), some (.ref 29)]) (st' := []) (h' := zH (zui I 19 1 8) (zPr 3)) 1 rfl ?_
  refine wp_blk (pc' := 18) (L' := [some (.ref 19), some (.ref 4), some (.ref 29)]) (st' := [.ref 4]) (h' := zH (zui I 19 1 8) (zPr 3)) 1 rfl ?_
  refine wp_blk (pc' := 19) (L' := [some (.ref 19), some (.ref 4), some (.ref 29)]) (st' := [.ref 29, .ref 4]) (h' := zH (zui I 19 1 8) (zPr 3)) 1 rfl ?_
  refine wp_callf (d := 37) (as := [.ref 4, .ref 29]) (rest := []) (Ld := [some (.ref 4), some (.ref 29)]) (pc' := 22) (st' := []) (r := none) (h1 := zH (g_M_copy 4 5 6 7 29 30 31 32 (zui I 19 1 8)) (zPr 3)) rfl rfl rfl rfl rfl rfl rfl rfl rfl (xp_M_copy_4_29 _ _ (0, (g_M_copy 4 5 6 7 29 30 31 32 (zui I 19 1 8))) rfl) ?_
  refine wp_blk (pc' := 23) (L' := [some (.ref 19), some (.ref 4), some (.ref 29)]) (st' := [.ref 19]) (h' := zH (g_M_copy 4 5 6 7 29 30 31 32 (zui I 19 1 8)) (zPr 3)) 1 rfl ?_
  refine wp_blk (pc' := 24) (L' := [some (.ref 19), some (.ref 4), some (.ref 29)]) (st' := [.ref 19, .ref 19]) (h' := zH (g_M_copy 4 5 6 7 29 30 31 32 (zui I 19 1 8)) (zPr 3)) 1 rfl ?_
  refine wp_blk (pc' := 27) (L' := [some (.ref 19), some (.ref 4), some (.ref 29)]) (st' := [.int ((g_M_copy 4 5 6 7 29 30 31 32 (zui I 19 1 8)) 19 1), .ref 19]) (h' := zH (g_M_copy 4 5 6 7 29 30 31 32 (zui I 19 1 8)) (zPr 3)) 1 rfl ?_
  refine wp_blk (pc' := 28) (L' := [some (.ref 19), some (.ref 4), some (.ref 29)]) (st' := [.int 1, .int ((g_M_copy 4 5 6 7 29 30 31 32 (zui I 19 1 8)) 19 1), .ref 19]) (h' := zH (g_M_copy 4 5 6 7 29 30 31 32 (zui I 19 1 8)) (zPr 3)) 1 rfl ?_
  refine wp_blk (pc' := 29) (L' := [some (.ref 19), some (.ref 4), some (.ref 29)]) (st' := [.int (((g_M_copy 4 5 6 7 29 30 31 32 (zui I 19 1 8)) 19 1) - 1), .ref 19]) (h' := zH (g_M_copy 4 5 6 7 29 30 31 32 (zui I 19 1 8)) (zPr 3)) 1 rfl ?_
  refine wp_blk (pc' := 32) (L' := [some (.ref 19), some (.ref 4), some (.ref 29)]) (st' := []) (h' := zH (zui (g_M_copy 4 5 6 7 29 30 31 32 (zui I 19 1 8)) 19 1 (((g_M_copy 4 5 6 7 29 30 31 32 (zui I 19 1 8)) 19 1) - 1)) (zPr 3)) 1 rfl ?_
  refine wp_blk (pc' := 33) (L' := [some (.ref 19), some (.ref 4), some (.ref 29)]) (st' := [.int 1]) (h' := zH (zui (g_M_copy 4 5 6 7 29 30 31 32 (zui I 19 1 8)) 19 1 (((g_M_copy 4 5 6 7 29 30 31 32 (zui I 19 1 8)) 19 1) - 1)) (zPr 3)) 1 rfl ?_
  exact wp_end rfl rfl ⟨rfl, rfl⟩
set_option maxRecDepth 100000 in
theorem sp_put19_4_0 {X : Nat × (Nat → Int32)} (I : Nat → Nat → Int32) : Wf X 65 [some (.ref 19), some (.ref 4), none] (zH (zui I 19 1 0) (zPr 4)) none (zH (zui (g_M_copy 37 38 39 40 4 5 6 7 (zui I 19 1 0)) 19 1 (((g_M_copy 37 38 39 40 4 5 6 7 (zui I 19 1 0)) 19 1) + 1)) (zPr 4)) := by
  unfold Wf
  refine wp_blk (pc' := 1) (L' := [some (.ref 19), some (.ref 4), none]) (st' := [.ref 19]) (h' := zH (zui I 19 1 0) (zPr 4)) 1 rfl ?_
  refine wp_callf (d := 66) (as := [.ref 19]) (rest := []) (Ld := [some (.ref 19)]) (pc' := 4) (st' := [.int 0]) (r := some (.int 0)) (h1 := zH (zui I 19 1 0) (zPr 4)) rfl rfl rfl rfl rfl rfl rfl rfl rfl (sp_H1_isFull (X := X) (zui I 19 1 0) (zPr 4)) ?_
  refine wp_blk (pc' := 11) (L' := [some (.ref 19), some (.ref 4), none]) (st' := []) (h' := zH (zui I 19 1 0) (zPr 4)) 1 rfl ?_
  refine wp_blk (pc' := 12) (L' := [some (.ref 19), some (.ref 4), none]) (st' := [.ref 19]) (h' := zH (zui I 19 1 0) (zPr 4)) 1 rfl ?_
  refine wp_blk (pc' := 13) (L' := [some (.ref 19), some (.ref 4), none]) (st' := [.ref 19, .ref 19]) (h' := zH (zui I 19 1 0) (zPr 4)) 1 rfl ?_
  refine wp_blk (pc' := 16) (L' := [some (.ref 19), some (.ref 4), none]) (st' := [.int 0, .ref 19]) (h' := zH (zui I 19 1 0) (zPr 4)) 1 rfl ?_
  refine wp_callf (d := 68) (as := [.ref 19, .int 0]) (rest := []) (Ld := [some (.ref 19), some (.int 0)]) (pc' := 19) (st' := [.ref 37]) (r := some (.ref 37)) (h1 := zH (zui I 19 1 0) (zPr 4)) rfl rfl rfl rfl rfl rfl rfl rfl rfl (sp_at19_4_0 (X := X) (zui I 19 1 0)) ?_
  refine wp_blk (pc' := 20) (L' := [some (.ref 19), some (.ref 4), some (.ref 37)]) (st' := []) (h' := zH (zui I 19 1 0) (zPr 4)) 1 rfl ?_
  refine wp_blk (pc' := 21) (L' := [some (.ref 19), some (.ref 4), some (.ref 37)]) (st' := [.ref 37]) (h' := zH (zui I 19 1 0) (zPr 4)) 1 rfl ?_
  refine wp_blk (pc' := 24) (L' := [some (.ref 19), some (.ref 4), some (.ref 37)]) (st' := []) (h' := zH (zui I 19 1 0) (zPr 4)) 1 rfl ?_
  refine wp_blk (pc' := 25) (L' := [some (.ref 19), some (.ref 4), some (.ref 37)]) (st' := [.ref 37]) (h' := zH (zui I 19 1 0) (zPr 4)) 1 rfl ?_
  refine wp_blk (pc' := 26) (L' := [some (.ref 19), some (.ref 4), some (.ref 37)]) (st' := [.ref 4, .ref 37]) (h' := zH (zui I 19 1 0) (zPr 4)) 1 rfl ?_
  refine wp_callf (d := 37) (as := [.ref 37, .ref 4]) (rest := []) (Ld := [some (.ref 37), some (.ref 4)]) (pc' := 29) (st' := []) (r := none) (h1 := zH (g_M_copy 37 38 39 40 4 5 6 7 (zui I 19 1 0)) (zPr 4)) rfl rfl rfl rfl rfl rfl rfl rfl rfl (xp_M_copy_37_4 _ _ (0, (g_M_copy 37 38 39 40 4 5 6 7 (zui I 19 1 0))) rfl) ?_
  refine wp_blk (pc' := 30) (L' := [some (.ref 19), some (.ref 4), some (.ref 37)]) (st' := [.ref 19]) (h' := zH (g_M_copy 37 38 39 40 4 5 6 7 (zui I 19 1 0)) (zPr 4)) 1 rfl ?_
  refine wp_blk (pc' := 31) (L' := [some (.ref 19), some (.ref 4), some (.ref 37)]) (st' := [.ref 19, .ref 19]) (h' := zH (g_M_copy 37 38 39 40 4 5 6 7 (zui I 19 1 0)) (zPr 4)) 1 rfl ?_
  refine wp_blk (pc' := 34) (L' := [some (.ref 19), some (.ref 4), some (.ref 37)]) (st' := [.int ((g_M_copy 37 38 39 40 4 5 6 7 (zui I 19 1 0)) 19 1), .ref 19]) (h' := zH (g_M_copy 37 38 39 40 4 5 6 7 (zui I 19 1 0)) (zPr 4)) 1 rfl ?_
  refine wp_blk (pc' := 35) (L' := [some (.ref 19), some (.ref 4), some (.ref 37)]) (st' := [.int 1, .int ((g_M_copy 37 38 39 40 4 5 6 7 (zui I 19 1 0)) 19 1), .ref 19]) (h' := zH (g_M_copy 37 38 39 40 4 5 6 7 (zui I 19 1 0)) (zPr 4)) 1 rfl ?_
  refine wp_blk (pc' := 36) (L' := [some (.ref 19), some (.ref 4), some (.ref 37)]) (st' := [.int (((g_M_copy 37 38 39 40 4 5 6 7 (zui I 19 1 0)) 19 1) + 1), .ref 19]) (h' := zH (g_M_copy 37 38 39 40 4 5 6 7 (zui I 19 1 0)) (zPr 4)) 1 rfl ?_
  refine wp_blk (pc' := 39) (L' := [some (.ref 19), some (.ref 4), some (.ref 37)]) (st' := []) (h' := zH (zui (g_M_copy 37 38 39 40 4 5 6 7 (zui I 19 1 0)) 19 1 (((g_M_copy 37 38 39 40 4 5 6 7 (zui I 19 1 0)) 19 1) + 1)) (zPr 4)) 1 rfl ?_
  exact wp_end rfl rfl ⟨rfl, rfl⟩
set_option maxRecDepth 100000 in
theorem sp_take19_4_0 {X : Nat × (Nat → Int32)} (I : Nat → Nat → Int32) : Wf X 79 [some (.ref 19), some (.ref 4), none] (zH (zui I 19 1 0) (zPr 4)) (some (.int 0)) (zH (zui I 19 1 0) (zPr 4)) := by
  unfold Wf
  refine wp_blk (pc' := 1) (L' := [some (.ref 19), some (.ref 4), none]) (st' := [.ref 19]) (h' := zH (zui I 19 1 0) (zPr 4)) 1 rfl ?_
  refine wp_blk (pc' := 2) (L' := [some (.ref 19), some (.ref 4), none]) (st' := [.ref 19, .ref 19]) (h' := zH (zui I 19 1 0) (zPr 4)) 1 rfl ?_
  refine wp_blk (pc' := 5) (L' := [some (.ref 19), some (.ref 4), none]) (st' := [.int 0, .ref 19]) (h' := zH (zui I 19 1 0) (zPr 4)) 1 rfl ?_
  refine wp_blk (pc' := 6) (L' := [some (.ref 19), some (.ref 4), none]) (st' := [.int 1, .int 0, .ref 19]) (h' := zH (zui I 19 1 0) (zPr 4)) 1 rfl ?_
  refine wp_blk (pc' := 7) (L' := [some (.ref 19), some (.ref 4), none]) (st' := [.int (-1), .ref 19]) (h' := zH (zui I 19 1 0) (zPr 4)) 1 rfl ?_
  refine wp_callf (d := 68) (as := [.ref 19, .int (-1)]) (rest := []) (Ld := [some (.ref 19), some (.int (-1))]) (pc' := 10) (st' := [.null]) (r := some (.null)) (h1 := zH (zui I 19 1 0) (zPr 4)) rfl rfl rfl rfl rfl rfl rfl rfl rfl (sp_at19_4_m (X := X) (zui I 19 1 0)) ?_
  refine wp_blk (pc' := 11) (L' := [some (.ref 19), some (.ref 4), some (.null)]) (st' := []) (h' := zH (zui I 19 1 0) (zPr 4)) 1 rfl ?_
  refine wp_blk (pc' := 12) (L' := [some (.ref 19), some (.ref 4), some (.null)]) (st' := [.null]) (h' := zH (zui I 19 1 0) (zPr 4)) 1 rfl ?_
  refine wp_blk (pc' := 15) (L' := [some (.ref 19), some (.ref 4), some (.null)]) (st' := []) (h' := zH (zui I 19 1 0) (zPr 4)) 1 rfl ?_
  refine wp_blk (pc' := 16) (L' := [some (.ref 19), some (.ref 4), some (.null)]) (st' := [.int 0]) (h' := zH (zui I 19 1 0) (zPr 4)) 1 rfl ?_
  exact wp_end rfl rfl ⟨rfl, rfl⟩
set_option maxRecDepth 100000 in
theorem sp_put19_4_1 {X : Nat × (Nat → Int32)} (I : Nat → Nat → Int32) : Wf X 65 [some (.ref 19), some (.ref 4), none] (zH (zui I 19 1 1) (zPr 4)) none (zH (zui (g_M_copy 41 42 43 44 4 5 6 7 (zui I 19 1 1)) 19 1 (((g_M_copy 41 42 43 44 4 5 6 7 (zui I 19 1 1)) 19 1) + 1)) (zPr 4)) := by
  unfold Wf
  refine wp_blk (pc' := 1) (L' := [some (.ref 19), some (.ref 4), none]) (st' := [.ref 19]) (h' := zH (zui I 19 1 1) (zPr 4)) 1 rfl ?_
  refine wp_callf (d := 66) (as := [.ref 19]) (rest := []) (Ld := [some (.ref 19)]) (pc' := 4) (st' := [.int 0]) (r := some (.int 0)) (h1 := zH (zui I 19 1 1) (zPr 4)) rfl rfl rfl rfl rfl rfl rfl rfl rfl (sp_H1_isFull (X := X) (zui I 19 1 1) (zPr 4)) ?_
  refine wp_blk (pc' := 11) (L' := [some (.ref 19), some (.ref 4), none]) (st' := []) (h' := zH (zui I 19 1 1) (zPr 4)) 1 rfl ?_
  refine wp_blk (pc' := 12) (L' := [some (.ref 19), some (.ref 4), none]) (st' := [.ref 19]) (h' := zH (zui I 19 1 1) (zPr 4)) 1 rfl ?_
  refine wp_blk (pc' := 13) (L' := [some (.ref 19), some (.ref 4), none]) (st' := [.ref 19, .ref 19]) (h' := zH (zui I 19 1 1) (zPr 4)) 1 rfl ?_
  refine wp_blk (pc' := 16) (L' := [some (.ref 19), some (.ref 4), none]) (st' := [.int 1, .ref 19]) (h' := zH (zui I 19 1 1) (zPr 4)) 1 rfl ?_
  refine wp_callf (d := 68) (as := [.ref 19, .int 1]) (rest := []) (Ld := [some (.ref 19), some (.int 1)]) (pc' := 19) (st' := [.ref 41]) (r := some (.ref 41)) (h1 := zH (zui I 19 1 1) (zPr 4)) rfl rfl rfl rfl rfl rfl rfl rfl rfl (sp_at19_4_1 (X := X) (zui I 19 1 1)) ?_
  refine wp_blk (pc' := 20) (L' := [some (.ref 19), some (.ref 4), some (.ref 41)]) (st' := []) (h' := zH (zui I 19 1 1) (zPr 4)) 1 rfl ?_
  refine wp_blk (pc' := 21) (L' := [some (.ref 19), some (.ref 4), some (.ref 41)]) (st' := [.ref 41]) (h' := zH (zui I 19 1 1) (zPr 4)) 1 rfl ?_
  refine wp_blk (pc' := 24) (L' := [some (.ref 19), some (.ref 4), some (.ref 41)]) (st' := []) (h' := zH (zui I 19 1 1) (zPr 4)) 1 rfl ?_
  refine wp_blk (pc' := 25) (L' := [some (.ref 19), some (.ref 4), some (.ref 41)]) (st' := [.ref 41]) (h' := zH (zui I 19 1 1) (zPr 4)) 1 rfl ?_
  refine wp_blk (pc' := 26) (L' := [some (.ref 19), some (.ref 4), some (.ref 41)]) (st' := [.ref 4, .ref 41]) (h' := zH (zui I 19 1 1) (zPr 4)) 1 rfl ?_
  refine wp_callf (d := 37) (as := [.ref 41, .ref 4]) (rest := []) (Ld := [some (.ref 41), some (.ref 4)]) (pc' := 29) (st' := []) (r := none) (h1 := zH (g_M_copy 41 42 43 44 4 5 6 7 (zui I 19 1 1)) (zPr 4)) rfl rfl rfl rfl rfl rfl rfl rfl rfl (xp_M_copy_41_4 _ _ (0, (g_M_copy 41 42 43 44 4 5 6 7 (zui I 19 1 1))) rfl) ?_
  refine wp_blk (pc' := 30) (L' := [some (.ref 19), some (.ref 4), some (.ref 41)]) (st' := [.ref 19]) (h' := zH (g_M_copy 41 42 43 44 4 5 6 7 (zui I 19 1 1)) (zPr 4)) 1 rfl ?_
  refine wp_blk (pc' := 31) (L' := [some (.ref 19), some (.ref 4), some (.ref 41)]) (st' := [.ref 19, .ref 19]) (h' := zH (g_M_copy 41 42 43 44 4 5 6 7 (zui I 19 1 1)) (zPr 4)) 1 rfl ?_
  refine wp_blk (pc' := 34) (L' := [some (.ref 19), some (.ref 4), some (.ref 41)]) (st' := [.int ((g_M_copy 41 42 43 44 4 5 6 7 (zui I 19 1 1)) 19 1), .ref 19]) (h' := zH (g_M_copy 41 42 43 44 4 5 6 7 (zui I 19 1 1)) (zPr 4)) 1 rfl ?_
  refine wp_blk (pc' := 35) (L' := [some (.ref 19), some (.ref 4), some (.ref 41)]) (st' := [.int 1, .int ((g_M_copy 41 42 43 44 4 5 6 7 (zui I 19 1 1)) 19 1), .ref 19]) (h' := zH (g_M_copy 41 42 43 44 4 5 6 7 (zui I 19 1 1)) (zPr 4)) 1 rfl ?_
  refine wp_blk (pc' := 36) (L' := [some (.ref 19), some (.ref 4), some (.ref 41)]) (st' := [.int (((g_M_copy 41 42 43 44 4 5 6 7 (zui I 19 1 1)) 19 1) + 1), .ref 19]) (h' := zH (g_M_copy 41 42 43 44 4 5 6 7 (zui I 19 1 1)) (zPr 4)) 1 rfl ?_
  refine wp_blk (pc' := 39) (L' := [some (.ref 19), some (.ref 4), some (.ref 41)]) (st' := []) (h' := zH (zui (g_M_copy 41 42 43 44 4 5 6 7 (zui I 19 1 1)) 19 1 (((g_M_copy 41 42 43 44 4 5 6 7 (zui I 19 1 1)) 19 1) + 1)) (zPr 4)) 1 rfl ?_
  exact wp_end rfl rfl ⟨rfl, rfl⟩
set_option maxRecDepth 100000 in
theorem sp_take19_4_1 {X : Nat × (Nat → Int32)} (I : Nat → Nat → Int32) : Wf X 79 [some (.ref 19), some (.ref 4), none] (zH (zui I 19 1 1) (zPr 4)) (some (.int 1)) (zH (zui (g_M_copy 4 5 6 7 37 38 39 40 (zui I 19 1 1)) 19 1 (((g_M_copy 4 5 6 7 37 38 39 40 (zui I 19 1 1)) 19 1) - 1)) (zPr 4)) := by
  unfold Wf
  refine wp_blk (pc' := 1) (L' := [some (.ref 19), some (.ref 4), none]) (st' := [.ref 19]) (h' := zH (zui I 19 1 1) (zPr 4)) 1 rfl ?_
  refine wp_blk (pc' := 2) (L' := [some (.ref 19), some (.ref 4), none]) (st' := [.ref 19, .ref 19]) (h' := zH (zui I 19 1 1) (zPr 4)) 1 rfl ?_
  refine wp_blk (pc' := 5) (L' := [some (.ref 19), some (.ref 4), none]) (st' := [.int 1, .ref 19]) (h' := zH (zui I 19 1 1) (zPr 4)) 1 rfl ?_
  refine wp_blk (pc' := 6) (L' := [some (.ref 19), some (.ref 4), none]) (st' := [.int 1, .int 1, .ref 19]) (h' := zH (zui I 19 1 1) (zPr 4)) 1 rfl ?_
  refine wp_blk (pc' := 7) (L' := [some (.ref 19), some (.ref 4), none]) (st' := [.int 0, .ref 19]) (h' := zH (zui I 19 1 1) (zPr 4)) 1 rfl ?_
  refine wp_callf (d := 68) (as := [.ref 19, .int 0]) (rest := []) (Ld := [some (.ref 19), some (.int 0)]) (pc' := 10) (st' := [.ref 37]) (r := some (.ref 37)) (h1 := zH (zui I 19 1 1) (zPr 4)) rfl rfl rfl rfl rfl rfl rfl rfl rfl (sp_at19_4_0 (X := X) (zui I 19 1 1)) ?_
  refine wp_blk (pc' := 11) (L' := [some (.ref 19), some (.ref 4), some (.ref 37)]) (st' := []) (h' := zH (zui I 19 1 1) (zPr 4)) 1 rfl ?_
  refine wp_blk (pc' := 12) (L' := [some (.ref 19), some (.ref 4), some (.ref 37)]) (st' := [.ref 37]) (h' := zH (zui I 19 1 1) (zPr 4)) 1 rfl ?_
  refine wp_blk (pc' := 17) (L' := [some (.ref 19), some (.ref 4), some (.ref 37)]) (st' := []) (h' := zH (zui I 19 1 1) (zPr 4)) 1 rfl ?_
  refine wp_blk (pc' := 18) (L' := [some (.ref 19), some (.ref 4), some (.ref 37)]) (st' := [.ref 4]) (h' := zH (zui I 19 1 1) (zPr 4)) 1 rfl ?_
  refine wp_blk (pc' := 19) (L' := [some (.ref 19), some (.ref 4), some (.ref 37)]) (st' := [.ref 37, .ref 4]) (h' := zH (zui I 19 1 1) (zPr 4)) 1 rfl ?_
  refine wp_callf (d := 37) (as := [.ref 4, .ref 37]) (rest := []) (Ld := [some (.ref 4), some (.ref 37)]) (pc' := 22) (st' := []) (r := none) (h1 := zH (g_M_copy 4 5 6 7 37 38 39 40 (zui I 19 1 1)) (zPr 4)) rfl rfl rfl rfl rfl rfl rfl rfl rfl (xp_M_copy_4_37 _ _ (0, (g_M_copy 4 5 6 7 37 38 39 40 (zui I 19 1 1))) rfl) ?_
  refine wp_blk (pc' := 23) (L' := [some (.ref 19), some (.ref 4), some (.ref 37)]) (st' := [.ref 19]) (h' := zH (g_M_copy 4 5 6 7 37 38 39 40 (zui I 19 1 1)) (zPr 4)) 1 rfl ?_
  refine wp_blk (pc' := 24) (L' := [some (.ref 19), some (.ref 4), some (.ref 37)]) (st' := [.ref 19, .ref 19]) (h' := zH (g_M_copy 4 5 6 7 37 38 39 40 (zui I 19 1 1)) (zPr 4)) 1 rfl ?_
  refine wp_blk (pc' := 27) (L' := [some (.ref 19), some (.ref 4), some (.ref 37)]) (st' := [.int ((g_M_copy 4 5 6 7 37 38 39 40 (zui I 19 1 1)) 19 1), .ref 19]) (h' := zH (g_M_copy 4 5 6 7 37 38 39 40 (zui I 19 1 1)) (zPr 4)) 1 rfl ?_
  refine wp_blk (pc' := 28) (L' := [some (.ref 19), some (.ref 4), some (.ref 37)]) (st' := [.int 1, .int ((g_M_copy 4 5 6 7 37 38 39 40 (zui I 19 1 1)) 19 1), .ref 19]) (h' := zH (g_M_copy 4 5 6 7 37 38 39 40 (zui I 19 1 1)) (zPr 4)) 1 rfl ?_
  refine wp_blk (pc' := 29) (L' := [some (.ref 19), some (.ref 4), some (.ref 37)]) (st' := [.int (((g_M_copy 4 5 6 7 37 38 39 40 (zui I 19 1 1)) 19 1) - 1), .ref 19]) (h' := zH (g_M_copy 4 5 6 7 37 38 39 40 (zui I 19 1 1)) (zPr 4)) 1 rfl ?_
  refine wp_blk (pc' := 32) (L' := [some (.ref 19), some (.ref 4), some (.ref 37)]) (st' := []) (h' := zH (zui (g_M_copy 4 5 6 7 37 38 39 40 (zui I 19 1 1)) 19 1 (((g_M_copy 4 5 6 7 37 38 39 40 (zui I 19 1 1)) 19 1) - 1)) (zPr 4)) 1 rfl ?_
  refine wp_blk (pc' := 33) (L' := [some (.ref 19), some (.ref 4), some (.ref 37)]) (st' := [.int 1]) (h' := zH (zui (g_M_copy 4 5 6 7 37 38 39 40 (zui I 19 1 1)) 19 1 (((g_M_copy 4 5 6 7 37 38 39 40 (zui I 19 1 1)) 19 1) - 1)) (zPr 4)) 1 rfl ?_
  exact wp_end rfl rfl ⟨rfl, rfl⟩
set_option maxRecDepth 100000 in
theorem sp_put19_4_2 {X : Nat × (Nat → Int32)} (I : Nat → Nat → Int32) : Wf X 65 [some (.ref 19), some (.ref 4), none] (zH (zui I 19 1 2) (zPr 4)) none (zH (zui (g_M_copy 45 46 47 48 4 5 6 7 (zui I 19 1 2)) 19 1 (((g_M_copy 45 46 47 48 4 5 6 7 (zui I 19 1 2)) 19 1) + 1)) (zPr 4)) := by
  unfold Wf
  refine wp_blk (pc' := 1) (L' := [some (.ref 19), some (.ref 4), none]) (st' := [.ref 19]) (h' := zH (zui I 19 1 2) (zPr 4)) 1 rfl ?_
  refine wp_callf (d := 66) (as := [.ref 19]) (rest := []) (Ld := [some (.ref 19)]) (pc' := 4) (st' := [.int 0]) (r := some (.int 0)) (h1 := zH (zui I 19 1 2) (zPr 4)) rfl rfl rfl rfl rfl rfl rfl rfl rfl (sp_H1_isFull (X := X) (zui I 19 1 2) (zPr 4)) ?_
  refine wp_blk (pc' := 11) (L' := [some (.ref 19), some (.ref 4), none]) (st' := []) (h' := zH (zui I 19 1 2) (zPr 4)) 1 rfl ?_
  refine wp_blk (pc' := 12) (L' := [some (.ref 19), some (.ref 4), none]) (st' := [.ref 19]) (h' := zH (zui I 19 1 2) (zPr 4)) 1 rfl ?_
  refine wp_blk (pc' := 13) (L' := [some (.ref 19), some (.ref 4), none]) (st' := [.ref 19, .ref 19]) (h' := zH (zui I 19 1 2) (zPr 4)) 1 rfl ?_
  refine wp_blk (pc' := 16) (L' := [some (.ref 19), some (.ref 4), none]) (st' := [.int 2, .ref 19]) (h' := zH (zui I 19 1 2) (zPr 4)) 1 rfl ?_
  refine wp_callf (d := 68) (as := [.ref 19, .int 2]) (rest := []) (Ld := [some (.ref 19), some (.int 2)]) (pc' := 19) (st' := [.ref 45]) (r := some (.ref 45)) (h1 := zH (zui I 19 1 2) (zPr 4)) rfl rfl rfl rfl rfl rfl rfl rfl rfl (sp_at19_4_2 (X := X) (zui I 19 1 2)) ?_
  refine wp_blk (pc' := 20) (L' := [some (.ref 19), some (.ref 4), some (.ref 45)]) (st' := []) (h' := zH (zui I 19 1 2) (zPr 4)) 1 rfl ?_
  refine wp_blk (pc' := 21) (L' := [some (.ref 19), some (.ref 4), some (.ref 45)]) (st' := [.ref 45]) (h' := zH (zui I 19 1 2) (zPr 4)) 1 rfl ?_
  refine wp_blk (pc' := 24) (L' := [some (.ref 19), some (.ref 4), some (.ref 45)]) (st' := []) (h' := zH (zui I 19 1 2) (zPr 4)) 1 rfl ?_
  refine wp_blk (pc' := 25) (L' := [some (.ref 19), some (.ref 4), some (.ref 45)]) (st' := [.ref 45]) (h' := zH (zui I 19 1 2) (zPr 4)) 1 rfl ?_
  refine wp_blk (pc' := 26) (L' := [some (.ref 19), some (.ref 4), some (.ref 45)]) (st' := [.ref 4, .ref 45]) (h' := zH (zui I 19 1 2) (zPr 4)) 1 rfl ?_
  refine wp_callf (d := 37) (as := [.ref 45, .ref 4]) (rest := []) (Ld := [some (.ref 45), some (.ref 4)]) (pc' := 29) (st' := []) (r := none) (h1 := zH (g_M_copy 45 46 47 48 4 5 6 7 (zui I 19 1 2)) (zPr 4)) rfl rfl rfl rfl rfl rfl rfl rfl rfl (xp_M_copy_45_4 _ _ (0, (g_M_copy 45 46 47 48 4 5 6 7 (zui I 19 1 2))) rfl) ?_
  refine wp_blk (pc' := 30) (L' := [some (.ref 19), some (.ref 4), some (.ref 45)]) (st' := [.ref 19]) (h' := zH (g_M_copy 45 46 47 48 4 5 6 7 (zui I 19 1 2)) (zPr 4)) 1 rfl ?_
  refine wp_blk (pc' := 31) (L' := [some (.ref 19), some (.ref 4), some (.ref 45)]) (st' := [.ref 19, .ref 19]) (h' := zH (g_M_copy 45 46 47 48 4 5 6 7 (zui I 19 1 2)) (zPr 4)) 1 rfl ?_
  refine wp_blk (pc' := 34) (L' := [some (.ref 19), some (.ref 4), some (.ref 45)]) (st' := [.int ((g_M_copy 45 46 47 48 4 5 6 7 (zui I 19 1 2)) 19 1), .ref 19]) (h' := zH (g_M_copy 45 46 47 48 4 5 6 7 (zui I 19 1 2)) (zPr 4)) 1 rfl ?_
  refine wp_blk (pc' := 35) (L' := [some (.ref 19), some (.ref 4), some (.ref 45)]) (st' := [.int 1, .int ((g_M_copy 45 46 47 48 4 5 6 7 (zui I 19 1 2)) 19 1), .ref 19]) (h' := zH (g_M_copy 45 46 47 48 4 5 6 7 (zui I 19 1 2)) (zPr 4)) 1 rfl ?_
  refine wp_blk (pc' := 36) (L' := [some (.ref 19), some (.ref 4), some (.ref 45)]) (st' := [.int (((g_M_copy 45 46 47 48 4 5 6 7 (zui I 19 1 2)) 19 1) + 1), .ref 19]) (h' := zH (g_M_copy 45 46 47 48 4 5 6 7 (zui I 19 1 2)) (zPr 4)) 1 rfl ?_
  refine wp_blk (pc' := 39) (L' := [some (.ref 19), some (.ref 4), some (.ref 45)]) (st' := []) (h' := zH (zui (g_M_copy 45 46 47 48 4 5 6 7 (zui I 19 1 2)) 19 1 (((g_M_copy 45 46 47 48 4 5 6 7 (zui I 19 1 2)) 19 1) + 1)) (zPr 4)) 1 rfl ?_
  exact wp_end rfl rfl ⟨rfl, rfl⟩
set_option maxRecDepth 100000 in
theorem sp_take19_4_2 {X : Nat × (Nat → Int32)} (I : Nat → Nat → Int32) : Wf X 79 [some (.ref 19), some (.ref 4), none] (zH (zui I 19 1 2) (zPr 4)) (some (.int 1)) (zH (zui (g_M_copy 4 5 6 7 41 42 43 44 (zui I 19 1 2)) 19 1 (((g_M_copy 4 5 6 7 41 42 43 44 (zui I 19 1 2)) 19 1) - 1)) (zPr 4)) := by
  unfold Wf
  refine wp_blk (pc' := 1) (L' := [some (.ref 19), some (.ref 4), none]) (st' := [.ref 19]) (h' := zH (zui I 19 1 2) (zPr 4)) 1 rfl ?_
  refine wp_blk (pc' := 2) (L' := [some (.ref 19), some (.ref 4), none]) (st' := [.ref 19, .ref 19]) (h' := zH (zui I 19 1 2) (zPr 4)) 1 rfl ?_
  refine wp_blk (pc' := 5) (L' := [some (.ref 19), some (.ref 4), none]) (st' := [.int 2, .ref 19]) (h' := zH (zui I 19 1 2) (zPr 4)) 1 rfl ?_
  refine wp_blk (pc' := 6) (L' := [some (.ref 19), some (.ref 4), none]) (st' := [.int 1, .int 2, .ref 19]) (h' := zH (zui I 19 1 2) (zPr 4)) 1 rfl ?_
  refine wp_blk (pc' := 7) (L' := [some (.ref 19), some (.ref 4), none]) (st' := [.int 1, .ref 19]) (h' := zH (zui I 19 1 2) (zPr 4)) 1 rfl ?_
  refine wp_callf (d := 68) (as := [.ref 19, .int 1]) (rest := []) (Ld := [some (.ref 19), some (.int 1)]) (pc' := 10) (st' := [.ref 41]) (r := some (.ref 41)) (h1 := zH (zui I 19 1 2) (zPr 4)) rfl rfl rfl rfl rfl rfl rfl rfl rfl (sp_at19_4_1 (X := X) (zui I 19 1 2)) ?_
  refine wp_blk (pc' := 11) (L' := [some (.ref 19), some (.ref 4), some (.ref 41)]) (st' := []) (h' := zH (zui I 19 1 2) (zPr 4)) 1 rfl ?_
  refine wp_blk (pc' := 12) (L' := [some (.ref 19), some (.ref 4), some (.ref 41)]) (st' := [.ref 41]) (h' := zH (zui I 19 1 2) (zPr 4)) 1 rfl ?_
  refine wp_blk (pc' := 17) (L' := [some (.ref 19), some (.ref 4), some (.ref 41)]) (st' := []) (h' := zH (zui I 19 1 2) (zPr 4)) 1 rfl ?_
  refine wp_blk (pc' := 18) (L' := [some (.ref 19), some (.ref 4), some (.ref 41)]) (st' := [.ref 4]) (h' := zH (zui I 19 1 2) (zPr 4)) 1 rfl ?_
  refine wp_blk (pc' := 19) (L' := [some (.ref 19), some (.ref 4), some (.ref 41)]) (st' := [.ref 41, .ref 4]) (h' := zH (zui I 19 1 2) (zPr 4)) 1 rfl ?_
  refine wp_callf (d := 37) (as := [.ref 4, .ref 41]) (rest := []) (Ld := [some (.ref 4), some (.ref 41)]) (pc' := 22) (st' := []) (r := none) (h1 := zH (g_M_copy 4 5 6 7 41 42 43 44 (zui I 19 1 2)) (zPr 4)) rfl rfl rfl rfl rfl rfl rfl rfl rfl (xp_M_copy_4_41 _ _ (0, (g_M_copy 4 5 6 7 41 42 43 44 (zui I 19 1 2))) rfl) ?_
  refine wp_blk (pc' := 23) (L' := [some (.ref 19), some (.ref 4), some (.ref 41)]) (st' := [.ref 19]) (h' := zH (g_M_copy 4 5 6 7 41 42 43 44 (zui I 19 1 2)) (zPr 4)) 1 rfl ?_
  refine wp_blk (pc' := 24) (L' := [some (.ref 19), some (.ref 4), some (.ref 41)]) (st' := [.ref 19, .ref 19]) (h' := zH (g_M_copy 4 5 6 7 41 42 43 44 (zui I 19 1 2)) (zPr 4)) 1 rfl ?_
  refine wp_blk (pc' := 27) (L' := [some (.ref 19), some (.ref 4), some (.ref 41)]) (st' := [.int ((g_M_copy 4 5 6 7 41 42 43 44 (zui I 19 1 2)) 19 1), .ref 19]) (h' := zH (g_M_copy 4 5 6 7 41 42 43 44 (zui I 19 1 2)) (zPr 4)) 1 rfl ?_
  refine wp_blk (pc' := 28) (L' := [some (.ref 19), some (.ref 4), some (.ref 41)]) (st' := [.int 1, .int ((g_M_copy 4 5 6 7 41 42 43 44 (zui I 19 1 2)) 19 1), .ref 19]) (h' := zH (g_M_copy 4 5 6 7 41 42 43 44 (zui I 19 1 2)) (zPr 4)) 1 rfl ?_
  refine wp_blk (pc' := 29) (L' := [some (.ref 19), some (.ref 4), some (.ref 41)]) (st' := [.int (((g_M_copy 4 5 6 7 41 42 43 44 (zui I 19 1 2)) 19 1) - 1), .ref 19]) (h' := zH (g_M_copy 4 5 6 7 41 42 43 44 (zui I 19 1 2)) (zPr 4)) 1 rfl ?_
  refine wp_blk (pc' := 32) (L' := [some (.ref 19), some (.ref 4), some (.ref 41)]) (st' := []) (h' := zH (zui (g_M_copy 4 5 6 7 41 42 43 44 (zui I 19 1 2)) 19 1 (((g_M_copy 4 5 6 7 41 42 43 44 (zui I 19 1 2)) 19 1) - 1)) (zPr 4)) 1 rfl ?_
  refine wp_blk (pc' := 33) (L' := [some (.ref 19), some (.ref 4), some (.ref 41)]) (st' := [.int 1]) (h' := zH (zui (g_M_copy 4 5 6 7 41 42 43 44 (zui I 19 1 2)) 19 1 (((g_M_copy 4 5 6 7 41 42 43 44 (zui I 19 1 2)) 19 1) - 1)) (zPr 4)) 1 rfl ?_
  exact wp_end rfl rfl ⟨rfl, rfl⟩
set_option maxRecDepth 100000 in
theorem sp_put19_4_3 {X : Nat × (Nat → Int32)} (I : Nat → Nat → Int32) : Wf X 65 [some (.ref 19), some (.ref 4), none] (zH (zui I 19 1 3) (zPr 4)) none (zH (zui (g_M_copy 49 50 51 52 4 5 6 7 (zui I 19 1 3)) 19 1 (((g_M_copy 49 50 51 52 4 5 6 7 (zui I 19 1 3)) 19 1) + 1)) (zPr 4)) := by
  unfold Wf
  refine wp_blk (pc' := 1) (L' := [some (.ref 19), some (.ref 4), none]) (st' := [.ref 19]) (h' := zH (zui I 19 1 3) (zPr 4)) 1 rfl ?_
  refine wp_callf (d := 66) (as := [.ref 19]) (rest := []) (Ld := [some (.ref 19)]) (pc' := 4) (st' := [.int 0]) (r := some (.int 0)) (h1 := zH (zui I 19 1 3) (zPr 4)) rfl rfl rfl rfl rfl rfl rfl rfl rfl (sp_H1_isFull (X := X) (zui I 19 1 3) (zPr 4)) ?_
  refine wp_blk (pc' := 11) (L' := [some (.ref 19), some (.ref 4), none]) (st' := []) (h' := zH (zui I 19 1 3) (zPr 4)) 1 rfl ?_
  refine wp_blk (pc' := 12) (L' := [some (.ref 19), some (.ref 4), none]) (st' := [.ref 19]) (h' := zH (zui I 19 1 3) (zPr 4)) 1 rfl ?_
  refine wp_blk (pc' := 13) (L' := [some (.ref 19), some (.ref 4), none]) (st' := [.ref 19, .ref 19]) (h' := zH (zui I 19 1 3) (zPr 4)) 1 rfl ?_
  refine wp_blk (pc' := 16) (L' := [some (.ref 19), some (.ref 4), none]) (st' := [.int 3, .ref 19]) (h' := zH (zui I 19 1 3) (zPr 4)) 1 rfl ?_
  refine wp_callf (d := 68) (as := [.ref 19, .int 3]) (rest := []) (Ld := [some (.ref 19), some (.int 3)]) (pc' := 19) (st' := [.ref 49]) (r := some (.ref 49)) (h1 := zH (zui I 19 1 3) (zPr 4)) rfl rfl rfl rfl rfl rfl rfl rfl rfl (sp_at19_4_3 (X := X) (zui I 19 1 3)) ?_
  refine wp_blk (pc' := 20) (L' := [some (.ref 19), some (.ref 4), some (.ref 49)]) (st' := []) (h' := zH (zui I 19 1 3) (zPr 4)) 1 rfl ?_
  refine wp_blk (pc' := 21) (L' := [some (.ref 19), some (.ref 4), some (.ref 49)]) (st' := [.ref 49]) (h' := zH (zui I 19 1 3) (zPr 4)) 1 rfl ?_
  refine wp_blk (pc' := 24) (L' := [some (.ref 19), some (.ref 4), some (.ref 49)]) (st' := []) (h' := zH (zui I 19 1 3) (zPr 4)) 1 rfl ?_
  refine wp_blk (pc' := 25) (L' := [some (.ref 19), some (.ref 4), some (.ref 49)]) (st' := [.ref 49]) (h' := zH (zui I 19 1 3) (zPr 4)) 1 rfl ?_
  refine wp_blk (pc' := 26) (L' := [some (.ref 19), some (.ref 4), some (.ref 49)]) (st' := [.ref 4, .ref 49]) (h' := zH (zui I 19 1 3) (zPr 4)) 1 rfl ?_
  refine wp_callf (d := 37) (as := [.ref 49, .ref 4]) (rest := []) (Ld := [some (.ref 49), some (.ref 4)]) (pc' := 29) (st' := []) (r := none) (h1 := zH (g_M_copy 49 50 51 52 4 5 6 7 (zui I 19 1 3)) (zPr 4)) rfl rfl rfl rfl rfl rfl rfl rfl rfl (xp_M_copy_49_4 _ _ (0, (g_M_copy 49 50 51 52 4 5 6 7 (zui I 19 1 3))) rfl) ?_
  refine wp_blk (pc' := 30) (L' := [some (.ref 19), some (.ref 4), some (.ref 49)]) (st' := [.ref 19]) (h' := zH (g_M_copy 49 50 51 52 4 5 6 7 (zui I 19 1 3)) (zPr 4)) 1 rfl ?_
  refine wp_blk (pc' := 31) (L' := [some (.ref 19), some (.ref 4), some (.ref 49)]) (st' := [.ref 19, .ref 19]) (h' := zH (g_M_copy 49 50 51 52 4 5 6 7 (zui I 19 1 3)) (zPr 4)) 1 rfl ?_
  refine wp_blk (pc' := 34) (L' := [some (.ref 19), some (.ref 4), some (.ref 49)]) (st' := [.int ((g_M_copy 49 50 51 52 4 5 6 7 (zui I 19 1 3)) 19 1), .ref 19]) (h' := zH (g_M_copy 49 50 51 52 4 5 6 7 (zui I 19 1 3)) (zPr 4)) 1 rfl ?_
  refine wp_blk (pc' := 35) (L' := [some (.ref 19), some (.ref 4), some (.ref 49)]) (st' := [.int 1, .int ((g_M_copy 49 50 51 52 4 5 6 7 (zui I 19 1 3)) 19 1), .ref 19]) (h' := zH (g_M_copy 49 50 51 52 4 5 6 7 (zui I 19 1 3)) (zPr 4)) 1 rfl ?_
  refine wp_blk (pc' := 36) (L' := [some (.ref 19), some (.ref 4), some (.ref 49)]) (st' := [.int (((g_M_copy 49 50 51 52 4 5 6 7 (zui I 19 1 3)) 19 1) + 1), .ref 19]) (h' := zH (g_M_copy 49 50 51 52 4 5 6 7 (zui I 19 1 3)) (zPr 4)) 1 rfl ?_
  refine wp_blk (pc' := 39) (L' := [some (.ref 19), some (.ref 4), some (.ref 49)]) (st' := []) (h' := zH (zui (g_M_copy 49 50 51 52 4 5 6 7 (zui I 19 1 3)) 19 1 (((g_M_copy 49 50 51 52 4 5 6 7 (zui I 19 1 3)) 19 1) + 1)) (zPr 4)) 1 rfl ?_
  exact wp_end rfl rfl ⟨rfl, rfl⟩
set_option maxRecDepth 100000 in
theorem sp_take19_4_3 {X : Nat × (Nat → Int32)} (I : Nat → Nat → Int32) : Wf X 79 [some (.ref 19), some (.ref 4), none] (zH (zui I 19 1 3) (zPr 4)) (some (.int 1)) (zH (zui (g_M_copy 4 5 6 7 45 46 47 48 (zui I 19 1 3)) 19 1 (((g_M_copy 4 5 6 7 45 46 47 48 (zui I 19 1 3)) 19 1) - 1)) (zPr 4)) := by
  unfold Wf
  refine wp_blk (pc' := 1) (L' := [some (.ref 19), some (.ref 4), none]) (st' := [.ref 19]) (h' := zH (zui I 19 1 3) (zPr 4)) 1 rfl ?_
  refine wp_blk (pc' := 2) (L' := [some (.ref 19), some (.ref 4), none]) (st' := [.ref 19, .ref 19]) (h' := zH (zui I 19 1 3) (zPr 4)) 1 rfl ?_
  refine wp_blk (pc' := 5) (L' := [some (.ref 19), some (.ref 4), none]) (st' := [.int 3, .ref 19]) (h' := zH (zui I 19 1 3) (zPr 4)) 1 rfl ?_
  refine wp_blk (pc' := 6) (L' := [some (.ref 19), some (.ref 4), none]) (st' := [.int 1, .int 3, .ref 19]) (h' := zH (zui I 19 1 3) (zPr 4)) 1 rfl ?_
  refine wp_blk (pc' := 7) (L' := [some (.ref 19), some (.ref 4), none]) (st' := [.int 2, .ref 19]) (h' := zH (zui I 19 1 3) (zPr 4)) 1 rfl ?_
  refine wp_callf (d := 68) (as := [.ref 19, .int 2]) (rest := []) (Ld := [some (.ref 19), some (.int 2)]) (pc' := 10) (st' := [.ref 45]) (r := some (.ref 45)) (h1 := zH (zui I 19 1 3) (zPr 4)) rfl rfl rfl rfl rfl rfl rfl rfl rfl (sp_at19_4_2 (X := X) (zui I 19 1 3)) ?_
  refine wp_blk (pc' := 11) (L' := [some (.ref 19), some (.ref 4), some (.ref 45)]) (st' := []) (h' := zH (zui I 19 1 3) (zPr 4)) 1 rfl ?_
  refine wp_blk (pc' := 12) (L' := [some (.ref 19), some (.ref 4), some (.ref 45)]) (st' := [.ref 45]) (h' := zH (zui I 19 1 3) (zPr 4)) 1 rfl ?_
  refine wp_blk (pc' := 17) (L' := [some (.ref 19), some (.ref 4), some (.ref 45)]) (st' := []) (h' := zH (zui I 19 1 3) (zPr 4)) 1 rfl ?_
  refine wp_blk (pc' := 18) (L' := [some (.ref 19), some (.ref 4), some (.ref 45)]) (st' := [.ref 4]) (h' := zH (zui I 19 1 3) (zPr 4)) 1 rfl ?_
  refine wp_blk (pc' := 19) (L' := [some (.ref 19), some (.ref 4), some (.ref 45)]) (st' := [.ref 45, .ref 4]) (h' := zH (zui I 19 1 3) (zPr 4)) 1 rfl ?_
  refine wp_callf (d := 37) (as := [.ref 4, .ref 45]) (rest := []) (Ld := [some (.ref 4), some (.ref 45)]) (pc' := 22) (st' := []) (r := none) (h1 := zH (g_M_copy 4 5 6 7 45 46 47 48 (zui I 19 1 3)) (zPr 4)) rfl rfl rfl rfl rfl rfl rfl rfl rfl (xp_M_copy_4_45 _ _ (0, (g_M_copy 4 5 6 7 45 46 47 48 (zui I 19 1 3))) rfl) ?_
  refine wp_blk (pc' := 23) (L' := [some (.ref 19), some (.ref 4), some (.ref 45)]) (st' := [.ref 19]) (h' := zH (g_M_copy 4 5 6 7 45 46 47 48 (zui I 19 1 3)) (zPr 4)) 1 rfl ?_
  refine wp_blk (pc' := 24) (L' := [some (.ref 19), some (.ref 4), some (.ref 45)]) (st' := [.ref 19, .ref 19]) (h' := zH (g_M_copy 4 5 6 7 45 46 47 48 (zui I 19 1 3)) (zPr 4)) 1 rfl ?_
  refine wp_blk (pc' := 27) (L' := [some (.ref 19), some (.ref 4), some (.ref 45)]) (st' := [.int ((g_M_copy 4 5 6 7 45 46 47 48 (zui I 19 1 3)) 19 1), .ref 19]) (h' := zH (g_M_copy 4 5 6 7 45 46 47 48 (zui I 19 1 3)) (zPr 4)) 1 rfl ?_
  refine wp_blk (pc' := 28) (L' := [some (.ref 19), some (.ref 4), some (.ref 45)]) (st' := [.int 1, .int ((g_M_copy 4 5 6 7 45 46 47 48 (zui I 19 1 3)) 19 1), .ref 19]) (h' := zH (g_M_copy 4 5 6 7 45 46 47 48 (zui I 19 1 3)) (zPr 4)) 1 rfl ?_
  refine wp_blk (pc' := 29) (L' := [some (.ref 19), some (.ref 4), some (.ref 45)]) (st' := [.int (((g_M_copy 4 5 6 7 45 46 47 48 (zui I 19 1 3)) 19 1) - 1), .ref 19]) (h' := zH (g_M_copy 4 5 6 7 45 46 47 48 (zui I 19 1 3)) (zPr 4)) 1 rfl ?_
  refine wp_blk (pc' := 32) (L' := [some (.ref 19), some (.ref 4), some (.ref 45)]) (st' := []) (h' := zH (zui (g_M_copy 4 5 6 7 45 46 47 48 (zui I 19 1 3)) 19 1 (((g_M_copy 4 5 6 7 45 46 47 48 (zui I 19 1 3)) 19 1) - 1)) (zPr 4)) 1 rfl ?_
  refine wp_blk (pc' := 33) (L' := [some (.ref 19), some (.ref 4), some (.ref 45)]) (st' := [.int 1]) (h' := zH (zui (g_M_copy 4 5 6 7 45 46 47 48 (zui I 19 1 3)) 19 1 (((g_M_copy 4 5 6 7 45 46 47 48 (zui I 19 1 3)) 19 1) - 1)) (zPr 4)) 1 rfl ?_
  exact wp_end rfl rfl ⟨rfl, rfl⟩
set_option maxRecDepth 100000 in
theorem sp_put19_4_4 {X : Nat × (Nat → Int32)} (I : Nat → Nat → Int32) : Wf X 65 [some (.ref 19), some (.ref 4), none] (zH (zui I 19 1 4) (zPr 4)) none (zH (zui (g_M_copy 21 22 23 24 4 5 6 7 (zui I 19 1 4)) 19 1 (((g_M_copy 21 22 23 24 4 5 6 7 (zui I 19 1 4)) 19 1) + 1)) (zPr 4)) := by
  unfold Wf
  refine wp_blk (pc' := 1) (L' := [some (.ref 19), some (.ref 4), none]) (st' := [.ref 19]) (h' := zH (zui I 19 1 4) (zPr 4)) 1 rfl ?_
  refine wp_callf (d := 66) (as := [.ref 19]) (rest := []) (Ld := [some (.ref 19)]) (pc' := 4) (st' := [.int 0]) (r := some (.int 0)) (h1 := zH (zui I 19 1 4) (zPr 4)) rfl rfl rfl rfl rfl rfl rfl rfl rfl (sp_H1_isFull (X := X) (zui I 19 1 4) (zPr 4)) ?_
  refine wp_blk (pc' := 11) (L' := [some (.ref 19), some (.ref 4), none]) (st' := []) (h' := zH (zui I 19 1 4) (zPr 4)) 1 rfl ?_
  refine wp_blk (pc' := 12) (L' := [some (.ref 19), some (.ref 4), none]) (st' := [.ref 19]) (h' := zH (zui I 19 1 4) (zPr 4)) 1 rfl ?_
  refine wp_blk (pc' := 13) (L' := [some (.ref 19), some (.ref 4), none]) (st' := [.ref 19, .ref 19]) (h' := zH (zui I 19 1 4) (zPr 4)) 1 rfl ?_
  refine wp_blk (pc' := 16) (L' := [some (.ref 19), some (.ref 4), none]) (st' := [.int 4, .ref 19]) (h' := zH (zui I 19 1 4) (zPr 4)) 1 rfl ?_
  refine wp_callf (d := 68) (as := [.ref 19, .int 4]) (rest := []) (Ld := [some (.ref 19), some (.int 4)]) (pc' := 19) (st' := [.ref 21]) (r := some (.ref 21)) (h1 := zH (zui I 19 1 4) (zPr 4)) rfl rfl rfl rfl rfl rfl rfl rfl rfl (sp_at19_4_4 (X := X) (zui I 19 1 4)) ?_
  refine wp_blk (pc' := 20) (L' := [some (.ref 19), some (.ref 4), some (.ref 21)]) (st' := []) (h' := zH (zui I 19 1 4) (zPr 4)) 1 rfl ?_
  refine wp_blk (pc' := 21) (L' := [some (.ref 19), some (.ref 4), some (.ref 21)]) (st' := [.ref 21]) (h' := zH (zui I 19 1 4) (zPr 4)) 1 rfl ?_
  refine wp_blk (pc' := 24) (L' := [some (.ref 19), some (.ref 4), some (.ref 21)]) (st' := []) (h' := zH (zui I 19 1 4) (zPr 4)) 1 rfl ?_
  refine wp_blk (pc' := 25) (L' := [some (.ref 19), some (.ref 4), some (.ref 21)]) (st' := [.ref 21]) (h' := zH (zui I 19 1 4) (zPr 4)) 1 rfl ?_
  refine wp_blk (pc' := 26) (L' := [some (.ref 19), some (.ref 4), some (.ref 21)]) (st' := [.ref 4, .ref 21]) (h' := zH (zui I 19 1 4) (zPr 4)) 1 rfl ?_
  refine wp_callf (d := 37) (as := [.ref 21, .ref 4]) (rest := []) (Ld := [some (.ref 21), some (.ref 4)]) (pc' := 29) (st' := []) (r := none) (h1 := zH (g_M_copy 21 22 23 24 4 5 6 7 (zui I 19 1 4)) (zPr 4)) rfl rfl rfl rfl rfl rfl rfl rfl rfl (xp_M_copy_21_4 _ _ (0, (g_M_copy 21 22 23 24 4 5 6 7 (zui I 19 1 4))) rfl) ?_
  refine wp_blk (pc' := 30) (L' := [some (.ref 19), some (.ref 4), some (.ref 21)]) (st' := [.ref 19]) (h' := zH (g_M_copy 21 22 23 24 4 5 6 7 (zui I 19 1 4)) (zPr 4)) 1 rfl ?_
  refine wp_blk (pc' := 31) (L' := [some (.ref 19), some (.ref 4), some (.ref 21)]) (st' := [.ref 19, .ref 19]) (h' := zH (g_M_copy 21 22 23 24 4 5 6 7 (zui I 19 1 4)) (zPr 4)) 1 rfl ?_
  refine wp_blk (pc' := 34) (L' := [some (.ref 19), some (.ref 4), some (.ref 21)]) (st' := [.int ((g_M_copy 21 22 23 24 4 5 6 7 (zui I 19 1 4)) 19 1), .ref 19]) (h' := zH (g_M_copy 21 22 23 24 4 5 6 7 (zui I 19 1 4)) (zPr 4)) 1 rfl ?_
  refine wp_blk (pc' := 35) (L' := [some (.ref 19), some (.ref 4), some (.ref 21)]) (st' := [.int 1, .int ((g_M_copy 21 22 23 24 4 5 6 7 (zui I 19 1 4)) 19 1), .ref 19]) (h' := zH (g_M_copy 21 22 23 24 4 5 6 7 (zui I 19 1 4)) (zPr 4)) 1 rfl ?_
  refine wp_blk (pc' := 36) (L' := [some (.ref 19), some (.ref 4), some (.ref 21)]) (st' := [.int (((g_M_copy 21 22 23 24 4 5 6 7 (zui I 19 1 4)) 19 1) + 1), .ref 19]) (h' := zH (g_M_copy 21 22 23 24 4 5 6 7 (zui I 19 1 4)) (zPr 4)) 1 rfl ?_
  refine wp_blk (pc' := 39) (L' := [some (.ref 19), some (.ref 4), some (.ref 21)]) (st' := []) (h' := zH (zui (g_M_copy 21 22 23 24 4 5 6 7 (zui I 19 1 4)) 19 1 (((g_M_copy 21 22 23 24 4 5 6 7 (zui I 19 1 4)) 19 1) + 1)) (zPr 4)) 1 rfl ?_
  exact wp_end rfl rfl ⟨rfl, rfl⟩
set_option maxRecDepth 100000 in
theorem sp_take19_4_4 {X : Nat × (Nat → Int32)} (I : Nat → Nat → Int32) : Wf X 79 [some (.ref 19), some (.ref 4), none] (zH (zui I 19 1 4) (zPr 4)) (some (.int 1)) (zH (zui (g_M_copy 4 5 6 7 49 50 51 52 (zui I 19 1 4)) 19 1 (((g_M_copy 4 5 6 7 49 50 51 52 (zui I 19 1 4)) 19 1) - 1)) (zPr 4)) := by
  unfold Wf
  refine wp_blk (pc' := 1) (L' := [some (.ref 19), some (.ref 4), none]) (st' := [.ref 19]) (h' := zH (zui I 19 1 4) (zPr 4)) 1 rfl ?_
  refine wp_blk (pc' := 2) (L' := [some (.ref 19), some (.ref 4), none]) (st' := [.ref 19, .ref 19]) (h' := zH (zui I 19 1 4) (zPr 4)) 1 rfl ?_
  refine wp_blk (pc' := 5) (L' := [some (.ref 19), some (.ref 4), none]) (st' := [.int 4, .ref 19]) (h' := zH (zui I 19 1 4) (zPr 4)) 1 rfl ?_
  refine wp_blk (pc' := 6) (L' := [some (.ref 19), some (.ref 4), none]) (st' := [.int 1, .int 4, .ref 19]) (h' := zH (zui I 19 1 4) (zPr 4)) 1 rfl ?_
  refine wp_blk (pc' := 7) (L' := [some (.ref 19), some (.ref 4), none]) (st' := [.int 3, .ref 19]) (h' := zH (zui I 19 1 4) (zPr 4)) 1 rfl ?_
  refine wp_callf (d := 68) (as := [.ref 19, .int 3]) (rest := []) (Ld := [some (.ref 19), some (.int 3)]) (pc' := 10) (st' := [.ref 49]) (r := some (.ref 49)) (h1 := zH (zui I 19 1 4) (zPr 4)) rfl rfl rfl rfl rfl rfl rfl rfl rfl (sp_at19_4_3 (X := X) (zui I 19 1 4)) ?_
  refine wp_blk (pc' := 11) (L' := [some (.ref 19), some (.ref 4), some (.ref 49)]) (st' := []) (h' := zH (zui I 19 1 4) (zPr 4)) 1 rfl ?_
  refine wp_blk (pc' := 12) (L' := [some (.ref 19), some (.ref 4), some (.ref 49)]) (st' := [.ref 49]) (h' := zH (zui I 19 1 4) (zPr 4)) 1 rfl ?_
  refine wp_blk (pc' := 17) (L' := [some (.ref 19), some (.ref 4), some (.ref 49)]) (st' := []) (h' := zH (zui I 19 1 4) (zPr 4)) 1 rfl ?_
  refine wp_blk (pc' := 18) (L' := [some (.ref 19), some (.ref 4), some (.ref 49)]) (st' := [.ref 4]) (h' := zH (zui I 19 1 4) (zPr 4)) 1 rfl ?_
  refine wp_blk (pc' := 19) (L' := [some (.ref 19), some (.ref 4), some (.ref 49)]) (st' := [.ref 49, .ref 4]) (h' := zH (zui I 19 1 4) (zPr 4)) 1 rfl ?_
  refine wp_callf (d := 37) (as := [.ref 4, .ref 49]) (rest := []) (Ld := [some (.ref 4), some (.ref 49)]) (pc' := 22) (st' := []) (r := none) (h1 := zH (g_M_copy 4 5 6 7 49 50 51 52 (zui I 19 1 4)) (zPr 4)) rfl rfl rfl rfl rfl rfl rfl rfl rfl (xp_M_copy_4_49 _ _ (0, (g_M_copy 4 5 6 7 49 50 51 52 (zui I 19 1 4))) rfl) ?_
  refine wp_blk (pc' := 23) (L' := [some (.ref 19), some (.ref 4), some (.ref 49)]) (st' := [.ref 19]) (h' := zH (g_M_copy 4 5 6 7 49 50 51 52 (zui I 19 1 4)) (zPr 4)) 1 rfl ?_
  refine wp_blk (pc' := 24) (L' := [some (.ref 19), some (.ref 4), some (.ref 49)]) (st' := [.ref 19, .ref 19]) (h' := zH (g_M_copy 4 5 6 7 49 50 51 52 (zui I 19 1 4)) (zPr 4)) 1 rfl ?_
  refine wp_blk (pc' := 27) (L' := [some (.ref 19), some (.ref 4), some (.ref 49)]) (st' := [.int ((g_M_copy 4 5 6 7 49 50 51 52 (zui I 19 1 4)) 19 1), .ref 19]) (h' := zH (g_M_copy 4 5 6 7 49 50 51 52 (zui I 19 1 4)) (zPr 4)) 1 rfl ?_
  refine wp_blk (pc' := 28) (L' := [some (.ref 19), some (.ref 4), some (.ref 49)]) (st' := [.int 1, .int ((g_M_copy 4 5 6 7 49 50 51 52 (zui I 19 1 4)) 19 1), .ref 19]) (h' := zH (g_M_copy 4 5 6 7 49 50 51 52 (zui I 19 1 4)) (zPr 4)) 1 rfl ?_
  refine wp_blk (pc' := 29) (L' := [some (.ref 19), some (.ref 4), some (.ref 49)]) (st' := [.int (((g_M_copy 4 5 6 7 49 50 51 52 (zui I 19 1 4)) 19 1) - 1), .ref 19]) (h' := zH (g_M_copy 4 5 6 7 49 50 51 52 (zui I 19 1 4)) (zPr 4)) 1 rfl ?_
  refine wp_blk (pc' := 32) (L' := [some (.ref 19), some (.ref 4), some (.ref 49)]) (st' := []) (h' := zH (zui (g_M_copy 4 5 6 7 49 50 51 52 (zui I 19 1 4)) 19 1 (((g_M_copy 4 5 6 7 49 50 51 52 (zui I 19 1 4)) 19 1) - 1)) (zPr 4)) 1 rfl ?_
  refine wp_blk (pc' := 33) (L' := [some (.ref 19), some (.ref 4), some (.ref 49)]) (st' := [.int 1]) (h' := zH (zui (g_M_copy 4 5 6 7 49 50 51 52 (zui I 19 1 4)) 19 1 (((g_M_copy 4 5 6 7 49 50 51 52 (zui I 19 1 4)) 19 1) - 1)) (zPr 4)) 1 rfl ?_
  exact wp_end rfl rfl ⟨rfl, rfl⟩
set_option maxRecDepth 100000 in
theorem sp_put19_4_5 {X : Nat × (Nat → Int32)} (I : Nat → Nat → Int32) : Wf X 65 [some (.ref 19), some (.ref 4), none] (zH (zui I 19 1 5) (zPr 4)) none (zH (zui (g_M_copy 25 26 27 28 4 5 6 7 (zui I 19 1 5)) 19 1 (((g_M_copy 25 26 27 28 4 5 6 7 (zui I 19 1 5)) 19 1) + 1)) (zPr 4)) := by
  unfold Wf
  refine wp_blk (pc' := 1) (L' := [some (.ref 19), some (.ref 4), none]) (st' := [.ref 19]) (h' := zH (zui I 19 1 5) (zPr 4)) 1 rfl ?_
  refine wp_callf (d := 66) (as := [.ref 19]) (rest := []) (Ld := [some (.ref 19)]) (pc' := 4) (st' := [.int 0]) (r := some (.int 0)) (h1 := zH (zui I 19 1 5) (zPr 4)) rfl rfl rfl rfl rfl rfl rfl rfl rfl (sp_H1_isFull (X := X) (zui I 19 1 5) (zPr 4)) ?_
  refine wp_blk (pc' := 11) (L' := [some (.ref 19), some (.ref 4), none]) (st' := []) (h' := zH (zui I 19 1 5) (zPr 4)) 1 rfl ?_
  refine wp_blk (pc' := 12) (L' := [some (.ref 19), some (.ref 4), none]) (st' := [.ref 19]) (h' := zH (zui I 19 1 5) (zPr 4)) 1 rfl ?_
  refine wp_blk (pc' := 13) (L' := [some (.ref 19), some (.ref 4), none]) (st' := [.ref 19, .ref 19]) (h' := zH (zui I 19 1 5) (zPr 4)) 1 rfl ?_
  refine wp_blk (pc' := 16) (L' := [some (.ref 19), some (.ref 4), none]) (st' := [.int 5, .ref 19]) (h' := zH (zui I 19 1 5) (zPr 4)) 1 rfl ?_
  refine wp_callf (d := 68) (as := [.ref 19, .int 5]) (rest := []) (Ld := [some (.ref 19), some (.int 5)]) (pc' := 19) (st' := [.ref 25]) (r := some (.ref 25)) (h1 := zH (zui I 19 1 5) (zPr 4)) rfl rfl rfl rfl rfl rfl rfl rfl rfl (sp_at19_4_5 (X := X) (zui I 19 1 5)) ?_
  refine wp_blk (pc' := 20) (L' := [some (.ref 19), some (.ref 4), some (.ref 25)]) (st' := []) (h' := zH (zui I 19 1 5) (zPr 4)) 1 rfl ?_
  refine wp_blk (pc' := 21) (L' := [some (.ref 19), some (.ref 4), some (.ref 25)]) (st' := [.ref 25]) (h' := zH (zui I 19 1 5) (zPr 4)) 1 rfl ?_
  refine wp_blk (pc' := 24) (L' := [some (.ref 19), some (.ref 4), some (.ref 25)]) (st' := []) (h' := zH (zui I 19 1 5) (zPr 4)) 1 rfl ?_
  refine wp_blk (pc' := 25) (L' := [some (.ref 19), some (.ref 4), some (.ref 25)]) (st' := [.ref 25]) (h' := zH (zui I 19 1 5) (zPr 4)) 1 rfl ?_
  refine wp_blk (pc' := 26) (L' := [some (.ref 19), some (.ref 4), some (.ref 25)]) (st' := [.ref 4, .ref 25]) (h' := zH (zui I 19 1 5) (zPr 4)) 1 rfl ?_
  refine wp_callf (d := 37) (as := [.ref 25, .ref 4]) (rest := []) (Ld := [some (.ref 25), some (.ref 4)]) (pc' := 29) (st' := []) (r := none) (h1 := zH (g_M_copy 25 26 27 28 4 5 6 7 (zui I 19 1 5)) (zPr 4)) rfl rfl rfl rfl rfl rfl rfl rfl rfl (xp_M_copy_25_4 _ _ (0, (g_M_copy 25 26 27 28 4 5 6 7 (zui I 19 1 5))) rfl) ?_
  refine wp_blk (pc' := 30) (L' := [some (.ref 19), some (.ref 4), some (.ref 25)]) (st' := [.ref 19]) (h' := zH (g_M_copy 25 26 27 28 4 5 6 7 (zui I 19 1 5)) (zPr 4)) 1 rfl ?_
  refine wp_blk (pc' := 31) (L' := [some (.ref 19), some (.ref 4), some (.ref 25)]) (st' := [.ref 19, .ref 19]) (h' := zH (g_M_copy 25 26 27 28 4 5 6 7 (zui I 19 1 5)) (zPr 4)) 1 rfl ?_
  refine wp_blk (pc' := 34) (L' := [some (.ref 19), some (.ref 4), some (.ref 25)]) (st' := [.int ((g_M_copy 25 26 27 28 4 5 6 7 (zui I 19 1 5)) 19 1), .ref 19]) (h' := zH (g_M_copy 25 26 27 28 4 5 6 7 (zui I 19 1 5)) (zPr 4)) 1 rfl ?_
  refine wp_blk (pc' := 35) (L' := [some (.ref 19), some (.ref 4), some (.ref 25)]) (st' := [.int 1, .int ((g_M_copy 25 26 27 28 4 5 6 7 (zui I 19 1 5)) 19 1), .ref 19]) (h' := zH (g_M_copy 25 26 27 28 4 5 6 7 (zui I 19 1 5)) (zPr 4)) 1 rfl ?_
  refine wp_blk (pc' := 36) (L' := [some (.ref 19), some (.ref 4), some (.ref 25)]) (st' := [.int (((g_M_copy 25 26 27 28 4 5 6 7 (zui I 19 1 5)) 19 1) + 1), .ref 19]) (h' := zH (g_M_copy 25 26 27 28 4 5 6 7 (zui I 19 1 5)) (zPr 4)) 1 rfl ?_
  refine wp_blk (pc' := 39) (L' := [some (.ref 19), some (.ref 4), some (.ref 25)]) (st' := []) (h' := zH (zui (g_M_copy 25 26 27 28 4 5 6 7 (zui I 19 1 5)) 19 1 (((g_M_copy 25 26 27 28 4 5 6 7 (zui I 19 1 5)) 19 1) + 1)) (zPr 4)) 1 rfl ?_
  exact wp_end rfl rfl ⟨rfl, rfl⟩
set_option maxRecDepth 100000 in
theorem sp_take19_4_5 {X : Nat × (Nat → Int32)} (I : Nat → Nat → Int32) : Wf X 79 [some (.ref 19), some (.ref 4), none] (zH (zui I 19 1 5) (zPr 4)) (some (.int 1)) (zH (zui (g_M_copy 4 5 6 7 21 22 23 24 (zui I 19 1 5)) 19 1 (((g_M_copy 4 5 6 7 21 22 23 24 (zui I 19 1 5)) 19 1) - 1)) (zPr 4)) := by
  unfold Wf
  refine wp_blk (pc' := 1) (L' := [some (.ref 19), some (.ref 4), none]) (st' := [.ref 19]) (h' := zH (zui I 19 1 5) (zPr 4)) 1 rfl ?_
  refine wp_blk (pc' := 2) (L' := [some (.ref 19), some (.ref 4), none]) (st' := [.ref 19, .ref 19]) (h' := zH (zui I 19 1 5) (zPr 4)) 1 rfl ?_
  refine wp_blk (pc' := 5) (L' := [some (.ref 19), some (.ref 4), none]) (st' := [.int 5, .ref 19]) (h' := zH (zui I 19 1 5) (zPr 4)) 1 rfl ?_
  refine wp_blk (pc' := 6) (L' := [some (.ref 19), some (.ref 4), none]) (st' := [.int 1, .int 5, .ref 19]) (h' := zH (zui I 19 1 5) (zPr 4)) 1 rfl ?_
  refine wp_blk (pc' := 7) (L' := [some (.ref 19), some (.ref 4), none]) (st' := [.int 4, .ref 19]) (h' := zH (zui I 19 1 5) (zPr 4)) 1 rfl ?_
  refine wp_callf (d := 68) (as := [.ref 19, .int 4]) (rest := []) (Ld := [some (.ref 19), some (.int 4)]) (pc' := 10) (st' := [.ref 21]) (r := some (.ref 21)) (h1 := zH (zui I 19 1 5) (zPr 4)) rfl rfl rfl rfl rfl rfl rfl rfl rfl (sp_at19_4_4 (X := X) (zui I 19 1 5)) ?_
  refine wp_blk (pc' := 11) (L' := [some (.ref 19), some (.ref 4), some (.ref 21)]) (st' := []) (h' := zH (zui I 19 1 5) (zPr 4)) 1 rfl ?_
  refine wp_blk (pc' := 12) (L' := [some (.ref 19), some (.ref 4), some (.ref 21)]) (st' := [.ref 21]) (h' := zH (zui I 19 1 5) (zPr 4)) 1 rfl ?_
  refine wp_blk (pc' := 17) (L' := [some (.ref 19), some (.ref 4), some (.ref 21)]) (st' := []) (h' := zH (zui I 19 1 5) (zPr 4)) 1 rfl ?_
  refine wp_blk (pc' := 18) (L' := [some (.ref 19), some (.ref 4), some (.ref 21)]) (st' := [.ref 4]) (h' := zH (zui I 19 1 5) (zPr 4)) 1 rfl ?_
  refine wp_blk (pc' := 19) (L' := [some (.ref 19), some (.ref 4), some (.ref 21)]) (st' := [.ref 21, .ref 4]) (h' := zH (zui I 19 1 5) (zPr 4)) 1 rfl ?_
  refine wp_callf (d := 37) (as := [.ref 4, .ref 21]) (rest := []) (Ld := [some (.ref 4), some (.ref 21)]) (pc' := 22) (st' := []) (r := none) (h1 := zH (g_M_copy 4 5 6 7 21 22 23 24 (zui I 19 1 5)) (zPr 4)) rfl rfl rfl rfl rfl rfl rfl rfl rfl (xp_M_copy_4_21 _ _ (0, (g_M_copy 4 5 6 7 21 22 23 24 (zui I 19 1 5))) rfl) ?_
  refine wp_blk (pc' := 23) (L' := [some (.ref 19), some (.ref 4), some (.ref 21)]) (st' := [.ref 19]) (h' := zH (g_M_copy 4 5 6 7 21 22 23 24 (zui I 19 1 5)) (zPr 4)) 1 rfl ?_
  refine wp_blk (pc' := 24) (L' := [some (.ref 19), some (.ref 4), some (.ref 21)]) (st' := [.ref 19, .ref 19]) (h' := zH (g_M_copy 4 5 6 7 21 22 23 24 (zui I 19 1 5)) (zPr 4)) 1 rfl ?_
  refine wp_blk (pc' := 27) (L' := [some (.ref 19), some (.ref 4), some (.ref 21)]) (st' := [.int ((g_M_copy 4 5 6 7 21 22 23 24 (zui I 19 1 5)) 19 1), .ref 19]) (h' := zH (g_M_copy 4 5 6 7 21 22 23 24 (zui I 19 1 5)) (zPr 4)) 1 rfl ?_
  refine wp_blk (pc' := 28) (L' := [some (.ref 19), some (.ref 4), some (.ref 21)]) (st' := [.int 1, .int ((g_M_copy 4 5 6 7 21 22 23 24 (zui I 19 1 5)) 19 1), .ref 19]) (h' := zH (g_M_copy 4 5 6 7 21 22 23 24 (zui I 19 1 5)) (zPr 4)) 1 rfl ?_
  refine wp_blk (pc' := 29) (L' := [some (.ref 19), some (.ref 4), some (.ref 21)]) (st' := [.int (((g_M_copy 4 5 6 7 21 22 23 24 (zui I 19 1 5)) 19 1) - 1), .ref 19]) (h' := zH (g_M_copy 4 5 6 7 21 22 23 24 (zui I 19 1 5)) (zPr 4)) 1 rfl ?_
  refine wp_blk (pc' := 32) (L' := [some (.ref 19), some (.ref 4), some (.ref 21)]) (st' := []) (h' := zH (zui (g_M_copy 4 5 6 7 21 22 23 24 (zui I 19 1 5)) 19 1 (((g_M_copy 4 5 6 7 21 22 23 24 (zui I 19 1 5)) 19 1) - 1)) (zPr 4)) 1 rfl ?_
  refine wp_blk (pc' := 33) (L' := [some (.ref 19), some (.ref 4), some (.ref 21)]) (st' := [.int 1]) (h' := zH (zui (g_M_copy 4 5 6 7 21 22 23 24 (zui I 19 1 5)) 19 1 (((g_M_copy 4 5 6 7 21 22 23 24 (zui I 19 1 5)) 19 1) - 1)) (zPr 4)) 1 rfl ?_
  exact wp_end rfl rfl ⟨rfl, rfl⟩
set_option maxRecDepth 100000 in
theorem sp_put19_4_6 {X : Nat × (Nat → Int32)} (I : Nat → Nat → Int32) : Wf X 65 [some (.ref 19), some (.ref 4), none] (zH (zui I 19 1 6) (zPr 4)) none (zH (zui (g_M_copy 29 30 31 32 4 5 6 7 (zui I 19 1 6)) 19 1 (((g_M_copy 29 30 31 32 4 5 6 7 (zui I 19 1 6)) 19 1) + 1)) (zPr 4)) := by
  unfold Wf
  refine wp_blk (pc' := 1) (L' := [some (.ref 19), some (.ref 4), none]) (st' := [.ref 19]) (h' := zH (zui I 19 1 6) (zPr 4)) 1 rfl ?_
  refine wp_callf (d := 66) (as := [.ref 19]) (rest := []) (Ld := [some (.ref 19)]) (pc' := 4) (st' := [.int 0]) (r := some (.int 0)) (h1 := zH (zui I 19 1 6) (zPr 4)) rfl rfl rfl rfl rfl rfl rfl rfl rfl (sp_H1_isFull (X := X) (zui I 19 1 6) (zPr 4)) ?_
  refine wp_blk (pc' := 11) (L' := [some (.ref 19), some (.ref 4), none]) (st' := []) (h' := zH (zui I 19 1 6) (zPr 4)) 1 rfl ?_
  refine wp_blk (pc' := 12) (L' := [some (.ref 19), some (.ref 4), none]) (st' := [.ref 19]) (h' := zH (zui I 19 1 6) (zPr 4)) 1 rfl ?_
  refine wp_blk (pc' := 13) (L' := [some (.ref 19), some (.ref 4), none]) (st' := [.ref 19, .ref 19]) (h' := zH (zui I 19 1 6) (zPr 4)) 1 rfl ?_
  refine wp_blk (pc' := 16) (L' := [some (.ref 19), some (.ref 4), none]) (st' := [.int 6, .ref 19]) (h' := zH (zui I 19 1 6) (zPr 4)) 1 rfl ?_
  refine wp_callf (d := 68) (as := [.ref 19, .int 6]) (rest := []) (Ld := [some (.ref 19), some (.int 6)]) (pc' := 19) (st' := [.ref 29]) (r := some (.ref 29)) (h1 := zH (zui I 19 1 6) (zPr 4)) rfl rfl rfl rfl rfl rfl rfl rfl rfl (sp_at19_4_6 (X := X) (zui I 19 1 6)) ?_
  refine wp_blk (pc' := 20) (L' := [some (.ref 19), some (.ref 4), some (.ref 29)]) (st' := []) (h' := zH (zui I 19 1 6) (zPr 4)) 1 rfl ?_
  refine wp_blk (pc' := 21) (L' := [some (.ref 19), some (.ref 4), some (.ref 29)]) (st' := [.ref 29]) (h' := zH (zui I 19 1 6) (zPr 4)) 1 rfl ?_
  refine wp_blk (pc' := 24) (L' := [some (.ref 19), some (.ref 4), some (.ref 29)]) (st' := []) (h' := zH (zui I 19 1 6) (zPr 4)) 1 rfl ?_
  refine wp_blk (pc' := 25) (L' := [some (.ref 19), some (.ref 4), some (.ref 29)]) (st' := [.ref 29]) (h' := zH (zui I 19 1 6) (zPr 4)) 1 rfl ?_
  refine wp_blk (pc' := 26) (L' := [some (.ref 19), some (.ref 4), some (.ref 29)]) (st' := [.ref 4, .ref 29]) (h' := zH (zui I 19 1 6) (zPr 4)) 1 rfl ?_
  refine wp_callf (d := 37) (as := [.ref 29, .ref 4]) (rest := []) (Ld := [some (.ref 29), some (.ref 4)]) (pc' := 29) (st' := []) (r := none) (h1 := zH (g_M_copy 29 30 31 32 4 5 6 7 (zui I 19 1 6)) (zPr 4)) rfl rfl rfl rfl rfl rfl rfl rfl rfl (xp_M_copy_29_4 _ _ (0, (g_M_copy 29 30 31 32 4 5 6 7 (zui I 19 1 6))) rfl) ?_
  refine wp_blk (pc' := 30) (L' := [some (.ref 19), some (.ref 4), some (.ref 29)]) (st' := [.ref 19]) (h' := zH (g_M_copy 29 30 31 32 4 5 6 7 (zui I 19 1 6)) (zPr 4)) 1 rfl ?_
  refine wp_blk (pc' := 31) (L' := [some (.ref 19), some (.ref 4), some (.ref 29)]) (st' := [.ref 19, .ref 19]) (h' := zH (g_M_copy 29 30 31 32 4 5 6 7 (zui I 19 1 6)) (zPr 4)) 1 rfl ?_
  refine wp_blk (pc' := 34) (L' := [some (.ref 19), some (.ref 4), some (.ref 29)]) (st' := [.int ((g_M_copy 29 30 31 32 4 5 6 7 (zui I 19 1 6)) 19 1), .ref 19]) (h' := zH (g_M_copy 29 30 31 32 4 5 6 7 (zui I 19 1 6)) (zPr 4)) 1 rfl ?_
  refine wp_blk (pc' := 35) (L' := [some (.ref 19), some (.ref 4), some (.ref 29)]) (st' := [.int 1, .int ((g_M_copy 29 30 31 32 4 5 6 7 (zui I 19 1 6)) 19 1), .ref 19]) (h' := zH (g_M_copy 29 30 31 32 4 5 6 7 (zui I 19 1 6)) (zPr 4)) 1 rfl ?_
  refine wp_blk (pc' := 36) (L' := [some (.ref 19), some (.ref 4), some (.ref 29)]) (st' := [.int (((g_M_copy 29 30 31 32 4 5 6 7 (zui I 19 1 6)) 19 1) + 1), .ref 19]) (h' := zH (g_M_copy 29 30 31 32 4 5 6 7 (zui I 19 1 6)) (zPr 4)) 1 rfl ?_
  refine wp_blk (pc' := 39) (L' := [some (.ref 19), some (.ref 4), some (.ref 29)]) (st' := []) (h' := zH (zui (g_M_copy 29 30 31 32 4 5 6 7 (zui I 19 1 6)) 19 1 (((g_M_copy 29 30 31 32 4 5 6 7 (zui I 19 1 6)) 19 1) + 1)) (zPr 4)) 1 rfl ?_
  exact wp_end rfl rfl ⟨rfl, rfl⟩
set_option maxRecDepth 100000 in
theorem sp_take19_4_6 {X : Nat × (Nat → Int32)} (I : Nat → Nat → Int32) : Wf X 79 [some (.ref 19), some (.ref 4), none] (zH (zui I 19 1 6) (zPr 4)) (some (.int 1)) (zH (zui (g_M_copy 4 5 6 7 25 26 27 28 (zui I 19 1 6)) 19 1 (((g_M_copy 4 5 6 7 25 26 27 28 (zui I 19 1 6)) 19 1) - 1)) (zPr 4)) := by
  unfold Wf
  refine wp_blk (pc' := 1) (L' := [some (.ref 19), some (.ref 4), none]) (st' := [.ref 19]) (h' := zH (zui I 19 1 6) (zPr 4)) 1 rfl ?_
  refine wp_blk (pc' := 2) (L' := [some (.ref 19), some (.ref 4), none]) (st' := [.ref 19, .ref 19]) (h' := zH (zui I 19 1 6) (zPr 4)) 1 rfl ?_
  refine wp_blk (pc' := 5) (L' := [some (.ref 19), some (.ref 4), none]) (st' := [.int 6, .ref 19]) (h' := zH (zui I 19 1 6) (zPr 4)) 1 rfl ?_
  refine wp_blk (pc' := 6) (L' := [some (.ref 19), some (.ref 4), none]) (st' := [.int 1, .int 6, .ref 19]) (h' := zH (zui I 19 1 6) (zPr 4)) 1 rfl ?_
  refine wp_blk (pc' := 7) (L' := [some (.ref 19), some (.ref 4), none]) (st' := [.int 5, .ref 19]) (h' := zH (zui I 19 1 6) (zPr 4)) 1 rfl ?_
  refine wp_callf (d := 68) (as := [.ref 19, .int 5]) (rest := []) (Ld := [some (.ref 19), some (.int 5)]) (pc' := 10) (st' := [.ref 25]) (r := some (.ref 25)) (h1 := zH (zui I 19 1 6) (zPr 4)) rfl rfl rfl rfl rfl rfl rfl rfl rfl (sp_at19_4_5 (X := X) (zui I 19 1 6)) ?_
  refine wp_blk (pc' := 11) (L' := [some (.ref 19), some (.ref 4), some (.ref 25)]) (st' := []) (h' := zH (zui I 19 1 6) (zPr 4)) 1 rfl ?_
  refine wp_blk (pc' := 12) (L' := [some (.ref 19), some (.ref 4), some (.ref 25)]) (st' := [.ref 25]) (h' := zH (zui I 19 1 6) (zPr 4)) 1 rfl ?_
  refine wp_blk (pc' := 17) (L' := [some (.ref 19), some (.ref 4), some (.ref 25)]) (st' := []) (h' := zH (zui I 19 1 6) (zPr 4)) 1 rfl ?_
  refine wp_blk (pc' := 18) (L' := [some (.ref 19), some (.ref 4), some (.ref 25)]) (st' := [.ref 4]) (h' := zH (zui I 19 1 6) (zPr 4)) 1 rfl ?_
  refine wp_blk (pc' := 19) (L' := [some (.ref 19), some (.ref 4), some (.ref 25)]) (st' := [.ref 25, .ref 4]) (h' := zH (zui I 19 1 6) (zPr 4)) 1 rfl ?_
  refine wp_callf (d := 37) (as := [.ref 4, .ref 25]) (rest := []) (Ld := [some (.ref 4), some (.ref 25)]) (pc' := 22) (st' := []) (r := none) (h1 := zH (g_M_copy 4 5 6 7 25 26 27 28 (zui I 19 1 6)) (zPr 4)) rfl rfl rfl rfl rfl rfl rfl rfl rfl (xp_M_copy_4_25 _ _ (0, (g_M_copy 4 5 6 7 25 26 27 28 (zui I 19 1 6))) rfl) ?_
  refine wp_blk (pc' := 23) (L' := [some (.ref 19), some (.ref 4), some (.ref 25)]) (st' := [.ref 19]) (h' := zH (g_M_copy 4 5 6 7 25 26 27 28 (zui I 19 1 6)) (zPr 4)) 1 rfl ?_
  refine wp_blk (pc' := 24) (L' := [some (.ref 19), some (.ref 4), some (.ref 25)]) (st' := [.ref 19, .ref 19]) (h' := zH (g_M_copy 4 5 6 7 25 26 27 28 (zui I 19 1 6)) (zPr 4)) 1 rfl ?_
  refine wp_blk (pc' := 27) (L' := [some (.ref 19), some (.ref 4), some (.ref 25)]) (st' := [.int ((g_M_copy 4 5 6 7 25 26 27 28 (zui I 19 1 6)) 19 1), .ref 19]) (h' := zH (g_M_copy 4 5 6 7 25 26 27 28 (zui I 19 1 6)) (zPr 4)) 1 rfl ?_
  refine wp_blk (pc' := 28) (L' := [some (.ref 19), some (.ref 4), some (.ref 25)]) (st' := [.int 1, .int ((g_M_copy 4 5 6 7 25 26 27 28 (zui I 19 1 6)) 19 1), .ref 19]) (h' := zH (g_M_copy 4 5 6 7 25 26 27 28 (zui I 19 1 6)) (zPr 4)) 1 rfl ?_
  refine wp_blk (pc' := 29) (L' := [some (.ref 19), some (.ref 4), some (.ref 25)]) (st' := [.int (((g_M_copy 4 5 6 7 25 26 27 28 (zui I 19 1 6)) 19 1) - 1), .ref 19]) (h' := zH (g_M_copy 4 5 6 7 25 26 27 28 (zui I 19 1 6)) (zPr 4)) 1 rfl ?_
  refine wp_blk (pc' := 32) (L' := [some (.ref 19), some (.ref 4), some (.ref 25)]) (st' := []) (h' := zH (zui (g_M_copy 4 5 6 7 25 26 27 28 (zui I 19 1 6)) 19 1 (((g_M_copy 4 5 6 7 25 26 27 28 (zui I 19 1 6)) 19 1) - 1)) (zPr 4)) 1 rfl ?_
  refine wp_blk (pc' := 33) (L' := [some (.ref 19), some (.ref 4), some (.ref 25)]) (st' := [.int 1]) (h' := zH (zui (g_M_copy 4 5 6 7 25 26 27 28 (zui I 19 1 6)) 19 1 (((g_M_copy 4 5 6 7 25 26 27 28 (zui I 19 1 6)) 19 1) - 1)) (zPr 4)) 1 rfl ?_
  exact wp_end rfl rfl ⟨rfl, rfl⟩
set_option maxRecDepth 100000 in
theorem sp_put19_4_7 {X : Nat × (Nat → Int32)} (I : Nat → Nat → Int32) : Wf X 65 [some (.ref 19), some (.ref 4), none] (zH (zui I 19 1 7) (zPr 4)) none (zH (zui (g_M_copy 33 34 35 36 4 5 6 7 (zui I 19 1 7)) 19 1 (((g_M_copy 33 34 35 36 4 5 6 7 (zui I 19 1 7)) 19 1) + 1)) (zPr 4)) := by
  unfold Wf
  refine wp_blk (pc' := 1) (L' := [some (.ref 19), some (.ref 4), none]) (st' := [.ref 19]) (h' := zH (zui I 19 1 7) (zPr 4)) 1 rfl ?_
  refine wp_callf (d := 66) (as := [.ref 19]) (rest := []) (Ld := [some (.ref 19)]) (pc' := 4) (st' := [.int 0]) (r := some (.int 0)) (h1 := zH (zui I 19 1 7) (zPr 4)) rfl rfl rfl rfl rfl rfl rfl rfl rfl (sp_H1_isFull (X := X) (zui I 19 1 7) (zPr 4)) ?_
  refine wp_blk (pc' := 11) (L' := [some (.ref 19), some (.ref 4), none]) (st' := []) (h' := zH (zui I 19 1 7) (zPr 4)) 1 rfl ?_
  refine wp_blk (pc' := 12) (L' := [some (.ref 19), some (.ref 4), none]) (st' := [.ref 19]) (h' := zH (zui I 19 1 7) (zPr 4)) 1 rfl ?_
  refine wp_blk (pc' := 13) (L' := [some (.ref 19), some (.ref 4), none]) (st' := [.ref 19, .ref 19]) (h' := zH (zui I 19 1 7) (zPr 4)) 1 rfl ?_
  refine wp_blk (pc' := 16) (L' := [some (.ref 19), some (.ref 4), none]) (st' := [.int 7, .ref 19]) (h' := zH (zui I 19 1 7) (zPr 4)) 1 rfl ?_
  refine wp_callf (d := 68) (as := [.ref 19, .int 7]) (rest := []) (Ld := [some (.ref 19), some (.int 7)]) (pc' := 19) (st' := [.ref 33]) (r := some (.ref 33)) (h1 := zH (zui I 19 1 7) (zPr 4)) rfl rfl rfl rfl rfl rfl rfl rfl rfl (sp_at19_4_7 (X := X) (zui I 19 1 7)) ?_
  refine wp_blk (pc' := 20) (L' := [some (.ref 19), some (.ref 4), some (.ref 33)]) (st' := []) (h' := zH (zui I 19 1 7) (zPr 4)) 1 rfl ?_
  refine wp_blk (pc' := 21) (L' := [some (.ref 19), some (.ref 4), some (.ref 33)]) (st' := [.ref 33]) (h' := zH (zui I 19 1 7) (zPr 4)) 1 rfl ?_
  refine wp_blk (pc' := 24) (L' := [some (.ref 19), some (.ref 4), some (.ref 33)]) (st' := []) (h' := zH (zui I 19 1 7) (zPr 4)) 1 rfl ?_
  refine wp_blk (pc' := 25) (L' := [some (.ref 19), some (.ref 4), some (.ref 33)]) (st' := [.ref 33]) (h' := zH (zui I 19 1 7) (zPr 4)) 1 rfl ?_
  refine wp_blk (pc' := 26) (L' := [some (.ref 19), some (.ref 4), some (.ref 33)]) (st' := [.ref 4, .ref 33]) (h' := zH (zui I 19 1 7) (zPr 4)) 1 rfl ?_
  refine wp_callf (d := 37) (as := [.ref 33, .ref 4]) (rest := []) (Ld := [some (.ref 33), some (.ref 4)]) (pc' := 29) (st' := []) (r := none) (h1 := zH (g_M_copy 33 34 35 36 4 5 6 7 (zui I 19 1 7)) (zPr 4)) rfl rfl rfl rfl rfl rfl rfl rfl rfl (xp_M_copy_33_4 _ _ (0, (g_M_copy 33 34 35 36 4 5 6 7 (zui I 19 1 7))) rfl) ?_
  refine wp_blk (pc' := 30) (L' := [some (.ref 19), some (.ref 4), some (.ref 33)]) (st' := [.ref 19]) (h' := zH (g_M_copy 33 34 35 36 4 5 6 7 (zui I 19 1 7)) (zPr 4)) 1 rfl ?_
  refine wp_blk (pc' := 31) (L' := [some (.ref 19), some (.ref 4), some (.ref 33)]) (st' := [.ref 19, .ref 19]) (h' := zH (g_M_copy 33 34 35 36 4 5 6 7 (zui I 19 1 7)) (zPr 4)) 1 rfl ?_
  refine wp_blk (pc' := 34) (L' := [some (.ref 19), some (.ref 4), some (.ref 33)]) (st' := [.int ((g_M_copy 33 34 35 36 4 5 6 7 (zui I 19 1 7)) 19 1), .ref 19]) (h' := zH (g_M_copy 33 34 35 36 4 5 6 7 (zui I 19 1 7)) (zPr 4)) 1 rfl ?_
  refine wp_blk (pc' := 35) (L' := [some (.ref 19), some (.ref 4), some (.ref 33)]) (st' := [.int 1, .int ((g_M_copy 33 34 35 36 4 5 6 7 (zui I 19 1 7)) 19 1), .ref 19]) (h' := zH (g_M_copy 33 34 35 36 4 5 6 7 (zui I 19 1 7)) (zPr 4)) 1 rfl ?_
  refine wp_blk (pc' := 36) (L' := [some (.ref 19), some (.ref 4), some (.ref 33)]) (st' := [.int (((g_M_copy 33 34 35 36 4 5 6 7 (zui I 19 1 7)) 19 1) + 1), .ref 19]) (h' := zH (g_M_copy 33 34 35 36 4 5 6 7 (zui I 19 1 7)) (zPr 4)) 1 rfl ?_
  refine wp_blk (pc' := 39) (L' := [some (.ref 19), some (.ref 4), some (.ref 33)]) (st' := []) (h' := zH (zui (g_M_copy 33 34 35 36 4 5 6 7 (zui I 19 1 7)) 19 1 (((g_M_copy 33 34 35 36 4 5 6 7 (zui I 19 1 7)) 19 1) + 1)) (zPr 4)) 1 rfl ?_
  exact wp_end rfl rfl ⟨rfl, rfl⟩
set_option maxRecDepth 100000 in
theorem sp_take19_4_7 {X : Nat × (Nat → Int32)} (I : Nat → Nat → Int32) : Wf X 79 [some (.ref 19), some (.ref 4), none] (zH (zui I 19 1 7) (zPr 4)) (some (.int 1)) (zH (zui (g_M_copy 4 5 6 7 29 30 31 32 (zui I 19 1 7)) 19 1 (((g_M_copy 4 5 6 7 29 30 31 32 (zui I 19 1 7)) 19 1) - 1)) (zPr 4)) := by
  unfold Wf
  refine wp_blk (pc' := 1) (L' := [some (.ref 19), some (.ref 4), none]) (st' := [.ref 19]) (h' := zH (zui I 19 1 7) (zPr 4)) 1 rfl ?_
  refine wp_blk (pc' := 2) (L' := [some (.ref 19), some (.ref 4), none]) (st' := [.ref 19, .ref 19]) (h' := zH (zui I 19 1 7) (zPr 4)) 1 rfl ?_
  refine wp_blk (pc' := 5) (L' := [some (.ref 19), some (.ref 4), none]) (st' := [.int 7, .ref 19]) (h' := zH (zui I 19 1 7) (zPr 4)) 1 rfl ?_
  refine wp_blk (pc' := 6) (L' := [some (.ref 19), some (.ref 4), none]) (st' := [.int 1, .int 7, .ref 19]) (h' := zH (zui I 19 1 7) (zPr 4)) 1 rfl ?_
  refine wp_blk (pc' := 7) (L' := [some (.ref 19), some (.ref 4), none]) (st' := [.int 6, .ref 19]) (h' := zH (zui I 19 1 7) (zPr 4)) 1 rfl ?_
  refine wp_callf (d := 68) (as := [.ref 19, .int 6]) (rest := []) (Ld := [some (.ref 19), some (.int 6)]) (pc' := 10) (st' := [.ref 29]) (r := some (.ref 29)) (h1 := zH (zui I 19 1 7) (zPr 4)) rfl rfl rfl rfl rfl rfl rfl rfl rfl (sp_at19_4_6 (X := X) (zui I 19 1 7)) ?_
  refine wp_blk (pc' := 11) (L' := [some (.ref 19), some (.ref 4), some (.ref 29)]) (st' := []) (h' := zH (zui I 19 1 7) (zPr 4)) 1 rfl ?_
  refine wp_blk (pc' := 12) (L' := [some (.ref 19), some (.ref 4), some (.ref 29)]) (st' := [.ref 29]) (h' := zH (zui I 19 1 7) (zPr 4)) 1 rfl ?_
  refine wp_blk (pc' := 17) (L' := [some (.ref 19), some (.ref 4), some (.ref 29)]) (st' := []) (h' := zH (zui I 19 1 7) (zPr 4)) 1 rfl ?_
  refine wp_blk (pc' := 18) (L' := [some (.ref 19), some (.ref 4), some (.ref 29)]) (st' := [.ref 4]) (h' := zH (zui I 19 1 7) (zPr 4)) 1 rfl ?_
  refine wp_blk (pc' := 19) (L' := [some (.ref 19), some (.ref 4), some (.ref 29)]) (st' := [.ref 29, .ref 4]) (h' := zH (zui I 19 1 7) (zPr 4)) 1 rfl ?_
  refine wp_callf (d := 37) (as := [.ref 4, .ref 29]) (rest := []) (Ld := [some (.ref 4), some (.ref 29)]) (pc' := 22) (st' := []) (r := none) (h1 := zH (g_M_copy 4 5 6 7 29 30 31 32 (zui I 19 1 7)) (zPr 4)) rfl rfl rfl rfl rfl rfl rfl rfl rfl (xp_M_copy_4_29 _ _ (0, (g_M_copy 4 5 6 7 29 30 31 32 (zui I 19 1 7))) rfl) ?_
  refine wp_blk (pc' := 23) (L' := [some (.ref 19), some (.ref 4), some (.ref 29)]) (st' := [.ref 19]) (h' := zH (g_M_copy 4 5 6 7 29 30 31 32 (zui I 19 1 7)) (zPr 4)) 1 rfl ?_
  refine wp_blk (pc' := 24) (L' := [some (.ref 19), some (.ref 4), some (.ref 29)]) (st' := [.ref 19, .ref 19]) (h' := zH (g_M_copy 4 5 6 7 29 30 31 32 (zui I 19 1 7)) (zPr 4)) 1 rfl ?_
  refine wp_blk (pc' := 27) (L' := [some (.ref 19), some (.ref 4), some (.ref 29)]) (st' := [.int ((g_M_copy 4 5 6 7 29 30 31 32 (zui I 19 1 7)) 19 1), .ref 19]) (h' := zH (g_M_copy 4 5 6 7 29 30 31 32 (zui I 19 1 7)) (zPr 4)) 1 rfl ?_
  refine wp_blk (pc' := 28) (L' := [some (.ref 19), some (.ref 4), some (.ref 29)]) (st' := [.int 1, .int ((g_M_copy 4 5 6 7 29 30 31 32 (zui I 19 1 7)) 19 1), .ref 19]) (h' := zH (g_M_copy 4 5 6 7 29 30 31 32 (zui I 19 1 7)) (zPr 4)) 1 rfl ?_
  refine wp_blk (pc' := 29) (L' := [some (.ref 19), some (.ref 4), some (.ref 29)]) (st' := [.int (((g_M_copy 4 5 6 7 29 30 31 32 (zui I 19 1 7)) 19 1) - 1), .ref 19]) (h' := zH (g_M_copy 4 5 6 7 29 30 31 32 (zui I 19 1 7)) (zPr 4)) 1 rfl ?_
  refine wp_blk (pc' := 32) (L' := [some (.ref 19), some (.ref 4), some (.ref 29)]) (st' := []) (h' := zH (zui (g_M_copy 4 5 6 7 29 30 31 32 (zui I 19 1 7)) 19 1 (((g_M_copy 4 5 6 7 29 30 31 32 (zui I 19 1 7)) 19 1) - 1)) (zPr 4)) 1 rfl ?_
  refine wp_blk (pc' := 33) (L' := [some (.ref 19), some (.ref 4), some (.ref 29)]) (st' := [.int 1]) (h' := zH (zui (g_M_copy 4 5 6 7 29 30 31 32 (zui I 19 1 7)) 19 1 (((g_M_copy 4 5 6 7 29 30 31 32 (zui I 19 1 7)) 19 1) - 1)) (zPr 4)) 1 rfl ?_
  exact wp_end rfl rfl ⟨rfl, rfl⟩
set_option maxRecDepth 100000 in
theorem sp_put19_4_8 {X : Nat × (Nat → Int32)} (I : Nat → Nat → Int32) : Wf X 65 [some (.ref 19), some (.ref 4), none] (zH (zui I 19 1 8) (zPr 4)) none (zH (zui (g_M_copy 37 38 39 40 4 5 6 7 (zui (zui I 19 1 8) 19 1 7)) 19 1 (((g_M_copy 37 38 39 40 4 5 6 7 (zui (zui I 19 1 8) 19 1 7)) 19 1) + 1)) (zPr 5)) := by
  unfold Wf
  refine wp_blk (pc' := 1) (L' := [some (.ref 19), some (.ref 4), none]) (st' := [.ref 19]) (h' := zH (zui I 19 1 8) (zPr 4)) 1 rfl ?_
  refine wp_callf (d := 66) (as := [.ref 19]) (rest := []) (Ld := [some (.ref 19)]) (pc' := 4) (st' := [.int 1]) (r := some (.int 1)) (h1 := zH (zui I 19 1 8) (zPr 4)) rfl rfl rfl rfl rfl rfl rfl rfl rfl (sp_H1_isFull (X := X) (zui I 19 1 8) (zPr 4)) ?_
  refine wp_blk (pc' := 7) (L' := [some (.ref 19), some (.ref 4), none]) (st' := []) (h' := zH (zui I 19 1 8) (zPr 4)) 1 rfl ?_
  refine wp_blk (pc' := 8) (L' := [some (.ref 19), some (.ref 4), none]) (st' := [.ref 19]) (h' := zH (zui I 19 1 8) (zPr 4)) 1 rfl ?_
  refine wp_callf (d := 67) (as := [.ref 19]) (rest := []) (Ld := [some (.ref 19), none, none]) (pc' := 11) (st' := []) (r := none) (h1 := zH (zui (zui I 19 1 8) 19 1 7) (zPr 5)) rfl rfl rfl rfl rfl rfl rfl rfl rfl (sp_drop_4 (X := X) (zui I 19 1 8)) ?_
  refine wp_blk (pc' := 12) (L' := [some (.ref 19), some (.ref 4), none]) (st' := [.ref 19]) (h' := zH (zui (zui I 19 1 8) 19 1 7) (zPr 5)) 1 rfl ?_
  refine wp_blk (pc' := 13) (L' := [some (.ref 19), some (.ref 4), none]) (st' := [.ref 19, .ref 19]) (h' := zH (zui (zui I 19 1 8) 19 1 7) (zPr 5)) 1 rfl ?_
  refine wp_blk (pc' := 16) (L' := [some (.ref 19), some (.ref 4), none]) (st' := [.int 7, .ref 19]) (h' := zH (zui (zui I 19 1 8) 19 1 7) (zPr 5)) 1 rfl ?_
  refine wp_callf (d := 68) (as := [.ref 19, .int 7]) (rest := []) (Ld := [some (.ref 19), some (.int 7)]) (pc' := 19) (st' := [.ref 37]) (r := some (.ref 37)) (h1 := zH (zui (zui I 19 1 8) 19 1 7) (zPr 5)) rfl rfl rfl rfl rfl rfl rfl rfl rfl (sp_at19_5_7 (X := X) (zui (zui I 19 1 8) 19 1 7)) ?_
  refine wp_blk (pc' := 20) (L' := [some (.ref 19), some (.ref 4), some (.ref 37)]) (st' := []) (h' := zH (zui (zui I 19 1 8) 19 1 7) (zPr 5)) 1 rfl ?_
  refine wp_blk (pc' := 21) (L' := [some (.ref 19), some (.ref 4), some (.ref 37)]) (st' := [.ref 37]) (h' := zH (zui (zui I 19 1 8) 19 1 7) (zPr 5)) 1 rfl ?_
  refine wp_blk (pc' := 24) (L' := [some (.ref 19), some (.ref 4), some (.ref 37)]) (st' := []) (h' := zH (zui (zui I 19 1 8) 19 1 7) (zPr 5)) 1 rfl ?_
  refine wp_blk (pc' := 25) (L' := [some (.ref 19), some (.ref 4), some (.ref 37)]) (st' := [.ref 37]) (h' := zH (zui (zui I 19 1 8) 19 1 7) (zPr 5)) 1 rfl ?_
  refine wp_blk (pc' := 26) (L' := [some (.ref 19), some (.ref 4), some (.ref 37)]) (st' := [.ref 4, .ref 37]) (h' := zH (zui (zui I 19 1 8) 19 1 7) (zPr 5)) 1 rfl ?_
  refine wp_callf (d := 37) (as := [.ref 37, .ref 4]) (rest := []) (Ld := [some (.ref 37), some (.ref 4)]) (pc' := 29) (st' := []) (r := none) (h1 := zH (g_M_copy 37 38 39 40 4 5 6 7 (zui (zui I 19 1 8) 19 1 7)) (zPr 5)) rfl rfl rfl rfl rfl rfl rfl rfl rfl (xp_M_copy_37_4 _ _ (0, (g_M_copy 37 38 39 40 4 5 6 7 (zui (zui I 19 1 8) 19 1 7))) rfl) ?_
  refine wp_blk (pc' := 30) (L' := [some (.ref 19), some (.ref 4), some (.ref 37)]) (st' := [.ref 19]) (h' := zH (g_M_copy 37 38 39 40 4 5 6 7 (zui (zui I 19 1 8) 19 1 7)) (zPr 5)) 1 rfl ?_
  refine wp_blk (pc' := 31) (L' := [some (.ref 19), some (.ref 4), some (.ref 37)]) (st' := [.ref 19, .ref 19]) (h' := zH (g_M_copy 37 38 39 40 4 5 6 7 (zui (zui I 19 1 8) 19 1 7)) (zPr 5)) 1 rfl ?_
  refine wp_blk (pc' := 34) (L' := [some (.ref 19), some (.ref 4), some (.ref 37)]) (st' := [.int ((g_M_copy 37 38 39 40 4 5 6 7 (zui (zui I 19 1 8) 19 1 7)) 19 1), .ref 19]) (h' := zH (g_M_copy 37 38 39 40 4 5 6 7 (zui (zui I 19 1 8) 19 1 7)) (zPr 5)) 1 rfl ?_
  refine wp_blk (pc' := 35) (L' := [some (.ref 19), some (.ref 4), some (.ref 37)]) (st' := [.int 1, .int ((g_M_copy 37 38 39 40 4 5 6 7 (zui (zui I 19 1 8) 19 1 7)) 19 1), .ref 19]) (h' := zH (g_M_copy 37 38 39 40 4 5 6 7 (zui (zui I 19 1 8) 19 1 7)) (zPr 5)) 1 rfl ?_
  refine wp_blk (pc' := 36) (L' := [some (.ref 19), some (.ref 4), some (.ref 37)]) (st' := [.int (((g_M_copy 37 38 39 40 4 5 6 7 (zui (zui I 19 1 8) 19 1 7)) 19 1) + 1), .ref 19]) (h' := zH (g_M_copy 37 38 39 40 4 5 6 7 (zui (zui I 19 1 8) 19 1 7)) (zPr 5)) 1 rfl ?_
  refine wp_blk (pc' := 39) (L' := [some (.ref 19), some (.ref 4), some (.ref 37)]) (st' := []) (h' := zH (zui (g_M_copy 37 38 39 40 4 5 6 7 (zui (zui I 19 1 8) 19 1 7)) 19 1 (((g_M_copy 37 38 39 40 4 5 6 7 (zui (zui I 19 1 8) 19 1 7)) 19 1) + 1)) (zPr 5)) 1 rfl ?_
  exact wp_end rfl rfl ⟨rfl, rfl⟩
set_option maxRecDepth 100000 in
theorem sp_take19_4_8 {X : Nat × (Nat → Int32)} (I : Nat → Nat → Int32) : Wf X 79 [some (.ref 19), some (.ref 4), none] (zH (zui I 19 1 8) (zPr 4)) (some (.int 1)) (zH (zui (g_M_copy 4 5 6 7 33 34 35 36 (zui I 19 1 8)) 19 1 (((g_M_copy 4 5 6 7 33 34 35 36 (zui I 19 1 8)) 19 1) - 1)) (zPr 4)) := by
  unfold Wf
  refine wp_blk (pc' := 1) (L' := [some (.ref 19), some (.ref 4), none]) (st' := [.ref 19]) (h' := zH (zui I 19 1 8) (zPr 4)) 1 rfl ?_
  refine wp_blk (pc' := 2) (L' := [some (.ref 19), some (.ref 4), none]) (st' := [.ref 19, .ref 19]) (h' := zH (zui I 19 1 8) (zPr 4)) 1 rfl ?_
  refine wp_blk (pc' := 5) (L' := [some (.ref 19), some (.ref 4), none]) (st' := [.int 8, .ref 19]) (h' := zH (zui I 19 1 8) (zPr 4)) 1 rfl ?_
  refine wp_blk (pc' := 6) (L' := [some (.ref 19), some (.ref 4), none]) (st' := [.int 1, .int 8, .ref 19]) (h' := zH (zui I 19 1 8) (zPr 4)) 1 rfl ?_
  refine wp_blk (pc' := 7) (L' := [some (.ref 19), some (.ref 4), none]) (st' := [.int 7, .ref 19]) (h' := zH (zui I 19 1 8) (zPr 4)) 1 rfl ?_
  refine wp_callf (d := 68) (as := [.ref 19, .int 7]) (rest := []) (Ld := [some (.ref 19), some (.int 7)]) (pc' := 10) (st' := [.ref 33]) (r := some (.ref 33)) (h1 := zH (zui I 19 1 8) (zPr 4)) rfl rfl rfl rfl rfl rfl rfl rfl rfl (sp_at19_4_7 (X := X) (zui I 19 1 8)) ?_
  refine wp_blk (pc' := 11) (L' := [some (.ref 19), some (.ref 4), some (.ref 33)]) (st' := []) (h' := zH (zui I 19 1 8) (zPr 4)) 1 rfl ?_
  refine wp_blk (pc' := 12) (L' := [some (.ref 19), some (.ref 4), some (.ref 33)]) (st' := [.ref 33]) (h' := zH (zui I 19 1 8) (zPr 4)) 1 rfl ?_
  refine wp_blk (pc' := 17) (L' := [some (.ref 19), some (.ref 4), some (.ref 33)]) (st' := []) (h' := zH (zui I 19 1 8) (zPr 4)) 1 rfl ?_
  refine wp_blk (pc' := 18) (L' := [some (.ref 19), some (.ref 4), some (.ref 33)]) (st' := [.ref 4]) (h' := zH (zui I 19 1 8) (zPr 4)) 1 rfl ?_
  refine wp_blk (pc' := 19) (L' := [some (.ref 19), some (.ref 4), some (.ref 33)]) (st' := [.ref 33, .ref 4]) (h' := zH (zui I 19 1 8) (zPr 4)) 1 rfl ?_
  refine wp_callf (d := 37) (as := [.ref 4, .ref 33]) (rest := []) (Ld := [some (.ref 4), some (.ref 33)]) (pc' := 22) (st' := []) (r := none) (h1 := zH (g_M_copy 4 5 6 7 33 34 35 36 (zui I 19 1 8)) (zPr 4)) rfl rfl rfl rfl rfl rfl rfl rfl rfl (xp_M_copy_4_33 _ _ (0, (g_M_copy 4 5 6 7 33 34 35 36 (zui I 19 1 8))) rfl) ?_
  refine wp_blk (pc' := 23) (L' := [some (.ref 19), some (.ref 4), some (.ref 33)]) (st' := [.ref 19]) (h' := zH (g_M_copy 4 5 6 7 33 34 35 36 (zui I 19 1 8)) (zPr 4)) 1 rfl ?_
  refine wp_blk (pc' := 24) (L' := [some (.ref 19), some (.ref 4), some (.ref 33)]) (st' := [.ref 19, .ref 19]) (h' := zH (g_M_copy 4 5 6 7 33 34 35 36 (zui I 19 1 8)) (zPr 4)) 1 rfl ?_
  refine wp_blk (pc' := 27) (L' := [some (.ref 19), some (.ref 4), some (.ref 33)]) (st' := [.int ((g_M_copy 4 5 6 7 33 34 35 36 (zui I 19 1 8)) 19 1), .ref 19]) (h' := zH (g_M_copy 4 5 6 7 33 34 35 36 (zui I 19 1 8)) (zPr 4)) 1 rfl ?_
  refine wp_blk (pc' := 28) (L' := [some (.ref 19), some (.ref 4), some (.ref 33)]) (st' := [.int 1, .int ((g_M_copy 4 5 6 7 33 34 35 36 (zui I 19 1 8)) 19 1), .ref 19]) (h' := zH (g_M_copy 4 5 6 7 33 34 35 36 (zui I 19 1 8)) (zPr 4)) 1 rfl ?_
  refine wp_blk (pc' := 29) (L' := [some (.ref 19), some (.ref 4), some (.ref 33)]) (st' := [.int (((g_M_copy 4 5 6 7 33 34 35 36 (zui I 19 1 8)) 19 1) - 1), .ref 19]) (h' := zH (g_M_copy 4 5 6 7 33 34 35 36 (zui I 19 1 8)) (zPr 4)) 1 rfl ?_
  refine wp_blk (pc' := 32) (L' := [some (.ref 19), some (.ref 4), some (.ref 33)]) (st' := []) (h' := zH (zui (g_M_copy 4 5 6 7 33 34 35 36 (zui I 19 1 8)) 19 1 (((g_M_copy 4 5 6 7 33 34 35 36 (zui I 19 1 8)) 19 1) - 1)) (zPr 4)) 1 rfl ?_
  refine wp_blk (pc' := 33) (L' := [some (.ref 19), some (.ref 4), some (.ref 33)]) (st' := [.int 1]) (h' := zH (zui (g_M_copy 4 5 6 7 33 34 35 36 (zui I 19 1 8)) 19 1 (((g_M_copy 4 5 6 7 33 34 35 36 (zui I 19 1 8)) 19 1) - 1)) (zPr 4)) 1 rfl ?_
  exact wp_end rfl rfl ⟨rfl, rfl⟩
set_option maxRecDepth 100000 in
theorem sp_put19_5_0 {X : Nat × (Nat → Int32)} (I : Nat → Nat → Int32) : Wf X 65 [some (.ref 19), some (.ref 4), none] (zH (zui I 19 1 0) (zPr 5)) none (zH (zui (g_M_copy 41 42 43 44 4 5 6 7 (zui I 19 1 0)) 19 1 (((g_M_copy 41 42 43 44 4 5 6 7 (zui I 19 1 0)) 19 1) + 1)) (zPr 5)) := by
  unfold Wf
  refine wp_blk (pc' := 1) (L' := [some (.ref 19), some (.ref 4), none]) (st' := [.ref 19]) (h' := zH (zui I 19 1 0) (zPr 5)) 1 rfl ?_
  refine wp_callf (d := 66) (as := [.ref 19]) (rest := []) (Ld := [some (.ref 19)]) (pc' := 4) (st' := [.int 0]) (r := some (.int 0)) (h1 := zH (zui I 19 1 0) (zPr 5)) rfl rfl rfl rfl rfl rfl rfl rfl rfl (sp_H1_isFull (X := X) (zui I 19 1 0) (zPr 5)) ?_
  refine wp_blk (pc' := 11) (L' := [some (.ref 19), some (.ref 4), none]) (st' := []) (h' := zH (zui I 19 1 0) (zPr 5)) 1 rfl ?_
  refine wp_blk (pc' := 12) (L' := [some (.ref 19), some (.ref 4), none]) (st' := [.ref 19]) (h' := zH (zui I 19 1 0) (zPr 5)) 1 rfl ?_
  refine wp_blk (pc' := 13) (L' := [some (.ref 19), some (.ref 4), none]) (st' := [.ref 19, .ref 19]) (h' := zH (zui I 19 1 0) (zPr 5)) 1 rfl ?_
  refine wp_blk (pc' := 16) (L' := [some (.ref 19), some (.ref 4), none]) (st' := [.int 0, .ref 19]) (h' := zH (zui I 19 1 0) (zPr 5)) 1 rfl ?_
  refine wp_callf (d := 68) (as := [.ref 19, .int 0]) (rest := []) (Ld := [some (.ref 19), some (.int 0)]) (pc' := 19) (st' := [.ref 41]) (r := some (.ref 41)) (h1 := zH (zui I 19 1 0) (zPr 5)) rfl rfl rfl rfl rfl rfl rfl rfl rfl (sp_at19_5_0 (X := X) (zui I 19 1 0)) ?_
  refine wp_blk (pc' := 20) (L' := [some (.ref 19), some (.ref 4), some (.ref 41)]) (st' := []) (h' := zH (zui I 19 1 0) (zPr 5)) 1 rfl ?_
  refine wp_blk (pc' := 21) (L' := [some (.ref 19), some (.ref 4), some (.ref 41)]) (st' := [.ref 41]) (h' := zH (zui I 19 1 0) (zPr 5)) 1 rfl ?_
  refine wp_blk (pc' := 24) (L' := [some (.ref 19), some (.ref 4), some (.ref 41)]) (st' := []) (h' := zH (zui I 19 1 0) (zPr 5)) 1 rfl ?_
  refine wp_blk (pc' := 25) (L' := [some (.ref 19), some (.ref 4), some (.ref 41)]) (st' := [.ref 41]) (h' := zH (zui I 19 1 0) (zPr 5)) 1 rfl ?_
  refine wp_blk (pc' := 26) (L' := [some (.ref 19), some (.ref 4), some (.ref 41)]) (st' := [.ref 4, .ref 41]) (h' := zH (zui I 19 1 0) (zPr 5)) 1 rfl ?_
  refine wp_callf (d := 37) (as := [.ref 41, .ref 4]) (rest := []) (Ld := [some (.ref 41), some (.ref 4)]) (pc' := 29) (st' := []) (r := none) (h1 := zH (g_M_copy 41 42 43 44 4 5 6 7 (zui I 19 1 0)) (zPr 5)) rfl rfl rfl rfl rfl rfl rfl rfl rfl (xp_M_copy_41_4 _ _ (0, (g_M_copy 41 42 43 44 4 5 6 7 (zui I 19 1 0))) rfl) ?_
  refine wp_blk (pc' := 30) (L' := [some (.ref 19), some (.ref 4), some (.ref 41)]) (st' := [.ref 19]) (h' := zH (g_M_copy 41 42 43 44 4 5 6 7 (zui I 19 1 0)) (zPr 5)) 1 rfl ?_
  refine wp_blk (pc' := 31) (L' := [some (.ref 19), some (.ref 4), some (.ref 41)]) (st' := [.ref 19, .ref 19]) (h' := zH (g_M_copy 41 42 43 44 4 5 6 7 (zui I 19 1 0)) (zPr 5)) 1 rfl ?_
  refine wp_blk (pc' := 34) (L' := [some (.ref 19), some (.ref 4), some (.ref 41)]) (st' := [.int ((g_M_copy 41 42 43 44 4 5 6 7 (zui I 19 1 0)) 19 1), .ref 19]) (h' := zH (g_M_copy 41 42 43 44 4 5 6 7 (zui I 19 1 0)) (zPr 5)) 1 rfl ?_
  refine wp_blk (pc' := 35) (L' := [some (.ref 19), some (.ref 4), some (.ref 41)]) (st' := [.int 1, .int ((g_M_copy 41 42 43 44 4 5 6 7 (zui I 19 1 0)) 19 1), .ref 19]) (h' := zH (g_M_copy 41 42 43 44 4 5 6 7 (zui I 19 1 0)) (zPr 5)) 1 rfl ?_
  refine wp_blk (pc' := 36) (L' := [some (.ref 19), some (.ref 4), some (.ref 41)]) (st' := [.int (((g_M_copy 41 42 43 44 4 5 6 7 (zui I 19 1 0)) 19 1) + 1), .ref 19]) (h' := zH (g_M_copy 41 42 43 44 4 5 6 7 (zui I 19 1 0)) (zPr 5)) 1 rfl ?_
  refine wp_blk (pc' := 39) (L' := [some (.ref 19), some (.ref 4), some (.ref 41)]) (st' := []) (h' := zH (zui (g_M_copy 41 42 43 44 4 5 6 7 (zui I 19 1 0)) 19 1 (((g_M_copy 41 42 43 44 4 5 6 7 (zui I 19 1 0)) 19 1) + 1)) (zPr 5)) 1 rfl ?_
  exact wp_end rfl rfl ⟨rfl, rfl⟩
set_option maxRecDepth 100000 in
theorem sp_take19_5_0 {X : Nat × (Nat → Int32)} (I : Nat → Nat → Int32) : Wf X 79 [some (.ref 19), some (.ref 4), none] (zH (zui I 19 1 0) (zPr 5)) (some (.int 0)) (zH (zui I 19 1 0) (zPr 5)) := by
  unfold Wf
  refine wp_blk (pc' := 1) (L' := [some (.ref 19), some (.ref 4), none]) (st' := [.ref 19]) (h' := zH (zui I 19 1 0) (zPr 5)) 1 rfl ?_
  refine wp_blk (pc' := 2) (L' := [some (.ref 19), some (.ref 4), none]) (st' := [.ref 19, .ref 19]) (h' := zH (zui I 19 1 0) (zPr 5)) 1 rfl ?_
  refine wp_blk (pc' := 5) (L' := [some (.ref 19), some (.ref 4), none]) (st' := [.int 0, .ref 19]) (h' := zH (zui I 19 1 0) (zPr 5)) 1 rfl ?_
  refine wp_blk (pc' := 6) (L' := [some (.ref 19), some (.ref 4), none]) (st' := [.int 1, .int 0, .ref 19]) (h' := zH (zui I 19 1 0) (zPr 5)) 1 rfl ?_
  refine wp_blk (pc' := 7) (L' := [some (.ref 19), some (.ref 4), none]) (st' := [.int (-1), .ref 19]) (h' := zH (zui I 19 1 0) (zPr 5)) 1 rfl ?_
  refine wp_callf (d := 68) (as := [.ref 19, .int (-1)]) (rest := []) (Ld := [some (.ref 19), some (.int (-1))]) (pc' := 10) (st' := [.null]) (r := some (.null)) (h1 := zH (zui I 19 1 0) (zPr 5)) rfl rfl rfl rfl rfl rfl rfl rfl rfl (sp_at19_5_m (X := X) (zui I 19 1 0)) ?_
  refine wp_blk (pc' := 11) (L' := [some (.ref 19), some (.ref 4), some (.null)]) (st' := []) (h' := zH (zui I 19 1 0) (zPr 5)) 1 rfl ?_
  refine wp_blk (pc' := 12) (L' := [some (.ref 19), some (.ref 4), some (.null)]) (st' := [.null]) (h' := zH (zui I 19 1 0) (zPr 5)) 1 rfl ?_
  refine wp_blk (pc' := 15) (L' := [some (.ref 19), some (.ref 4), some (.null)]) (st' := []) (h' := zH (zui I 19 1 0) (zPr 5)) 1 rfl ?_
  refine wp_blk (pc' := 16) (L' := [some (.ref 19), some (.ref 4), some (.null)]) (st' := [.int 0]) (h' := zH (zui I 19 1 0) (zPr 5)) 1 rfl ?_
  exact wp_end rfl rfl ⟨rfl, rfl⟩
set_option maxRecDepth 100000 in
theorem sp_put19_5_1 {X : Nat × (Nat → Int32)} (I : Nat → Nat → Int32) : Wf X 65 [some (.ref 19), some (.ref 4), none] (zH (zui I 19 1 1) (zPr 5)) none (zH (zui (g_M_copy 45 46 47 48 4 5 6 7 (zui I 19 1 1)) 19 1 (((g_M_copy 45 46 47 48 4 5 6 7 (zui I 19 1 1)) 19 1) + 1)) (zPr 5)) := by
  unfold Wf
  refine wp_blk (pc' := 1) (L' := [some (.ref 19), some (.ref 4), none]) (st' := [.ref 19]) (h' := zH (zui I 19 1 1) (zPr 5)) 1 rfl ?_
  refine wp_callf (d := 66) (as := [.ref 19]) (rest := []) (Ld := [some (.ref 19)]) (pc' := 4) (st' := [.int 0]) (r := some (.int 0)) (h1 := zH (zui I 19 1 1) (zPr 5)) rfl rfl rfl rfl rfl rfl rfl rfl rfl (sp_H1_isFull (X := X) (zui I 19 1 1) (zPr 5)) ?_
  refine wp_blk (pc' := 11) (L' := [some (.ref 19), some (.ref 4), none]) (st' := []) (h' := zH (zui I 19 1 1) (zPr 5)) 1 rfl ?_
  refine wp_blk (pc' := 12) (L' := [some (.ref 19), some (.ref 4), none]) (st' := [.ref 19]) (h' := zH (zui I 19 1 1) (zPr 5)) 1 rfl ?_
  refine wp_blk (pc' := 13) (L' := [some (.ref 19), some (.ref 4), none]) (st' := [.ref 19, .ref 19]) (h' := zH (zui I 19 1 1) (zPr 5)) 1 rfl ?_
  refine wp_blk (pc' := 16) (L' := [some (.ref 19), some (.ref 4), none]) (st' := [.int 1, .ref 19]) (h' := zH (zui I 19 1 1) (zPr 5)) 1 rfl ?_
  refine wp_callf (d := 68) (as := [.ref 19, .int 1]) (rest := []) (Ld := [some (.ref 19), some (.int 1)]) (pc' := 19) (st' := [.ref 45]) (r := some (.ref 45)) (h1 := zH (zui I 19 1 1) (zPr 5)) rfl rfl rfl rfl rfl rfl rfl rfl rfl (sp_at19_5_1 (X := X) (zui I 19 1 1)) ?_
  refine wp_blk (pc' := 20) (L' := [some (.ref 19), some (.ref 4), some (.ref 45)]) (st' := []) (h' := zH (zui I 19 1 1) (zPr 5)) 1 rfl ?_
  refine wp_blk (pc' := 21) (L' := [some (.ref 19), some (.ref 4), some (.ref 45)]) (st' := [.ref 45]) (h' := zH (zui I 19 1 1) (zPr 5)) 1 rfl ?_
  refine wp_blk (pc' := 24) (L' := [some (.ref 19), some (.ref 4), some (.ref 45)]) (st' := []) (h' := zH (zui I 19 1 1) (zPr 5)) 1 rfl ?_
  refine wp_blk (pc' := 25) (L' := [some (.ref 19), some (.ref 4), some (.ref 45)]) (st' := [.ref 45]) (h' := zH (zui I 19 1 1) (zPr 5)) 1 rfl ?_
  refine wp_blk (pc' := 26) (L' := [some (.ref 19), some (.ref 4), some (.ref 45)]) (st' := [.ref 4, .ref 45]) (h' := zH (zui I 19 1 1) (zPr 5)) 1 rfl ?_
  refine wp_callf (d := 37) (as := [.ref 45, .ref 4]) (rest := []) (Ld := [some (.ref 45), some (.ref 4)]) (pc' := 29) (st' := []) (r := none) (h1 := zH (g_M_copy 45 46 47 48 4 5 6 7 (zui I 19 1 1)) (zPr 5)) rfl rfl rfl rfl rfl rfl rfl rfl rfl (xp_M_copy_45_4 _ _ (0, (g_M_copy 45 46 47 48 4 5 6 7 (zui I 19 1 1))) rfl) ?_
  refine wp_blk (pc' := 30) (L' := [some (.ref 19), some (.ref 4), some (.ref 45)]) (st' := [.ref 19]) (h' := zH (g_M_copy 45 46 47 48 4 5 6 7 (zui I 19 1 1)) (zPr 5)) 1 rfl ?_
  refine wp_blk (pc' := 31) (L' := [some (.ref 19), some (.ref 4), some (.ref 45)]) (st' := [.ref 19, .ref 19]) (h' := zH (g_M_copy 45 46 47 48 4 5 6 7 (zui I 19 1 1)) (zPr 5)) 1 rfl ?_
  refine wp_blk (pc' := 34) (L' := [some (.ref 19), some (.ref 4), some (.ref 45)]) (st' := [.int ((g_M_copy 45 46 47 48 4 5 6 7 (zui I 19 1 1)) 19 1), .ref 19]) (h' := zH (g_M_copy 45 46 47 48 4 5 6 7 (zui I 19 1 1)) (zPr 5)) 1 rfl ?_
  refine wp_blk (pc' := 35) (L' := [some (.ref 19), some (.ref 4), some (.ref 45)]) (st' := [.int 1, .int ((g_M_copy 45 46 47 48 4 5 6 7 (zui I 19 1 1)) 19 1), .ref 19]) (h' := zH (g_M_copy 45 46 47 48 4 5 6 7 (zui I 19 1 1)) (zPr 5)) 1 rfl ?_
  refine wp_blk (pc' := 36) (L' := [some (.ref 19), some (.ref 4), some (.ref 45)]) (st' := [.int (((g_M_copy 45 46 47 48 4 5 6 7 (zui I 19 1 1)) 19 1) + 1), .ref 19]) (h' := zH (g_M_copy 45 46 47 48 4 5 6 7 (zui I 19 1 1)) (zPr 5)) 1 rfl ?_
  refine wp_blk (pc' := 39) (L' := [some (.ref 19), some (.ref 4), some (.ref 45)]) (st' := []) (h' := zH (zui (g_M_copy 45 46 47 48 4 5 6 7 (zui I 19 1 1)) 19 1 (((g_M_copy 45 46 47 48 4 5 6 7 (zui I 19 1 1)) 19 1) + 1)) (zPr 5)) 1 rfl ?_
  exact wp_end rfl rfl ⟨rfl, rfl⟩
set_option maxRecDepth 100000 in
theorem sp_take19_5_1 {X : Nat × (Nat → Int32)} (I : Nat → Nat → Int32) : Wf X 79 [some (.ref 19), some (.ref 4), none] (zH (zui I 19 1 1) (zPr 5)) (some (.int 1)) (zH (zui (g_M_copy 4 5 6 7 41 42 43 44 (zui I 19 1 1)) 19 1 (((g_M_copy 4 5 6 7 41 42 43 44 (zui I 19 1 1)) 19 1) - 1)) (zPr 5)) := by
  unfold Wf
  refine wp_blk (pc' := 1) (L' := [some (.ref 19), some (.ref 4), none]) (st' := [.ref 19]) (h' := zH (zui I 19 1 1) (zPr 5)) 1 rfl ?_
  refine wp_blk (pc' := 2) (L' := [some (.ref 19), some (.ref 4), none]) (st' := [.ref 19, .ref 19]) (h' := zH (zui I 19 1 1) (zPr 5)) 1 rfl ?_
  refine wp_blk (pc' := 5) (L' := [some (.ref 19), some (.ref 4), none]) (st' := [.int 1, .ref 19]) (h' := zH (zui I 19 1 1) (zPr 5)) 1 rfl ?_
  refine wp_blk (pc' := 6) (L' := [some (.ref 19), some (.ref 4), none]) (st' := [.int 1, .int 1, .ref 19]) (h' := zH (zui I 19 1 1) (zPr 5)) 1 rfl ?_
  refine wp_blk (pc' := 7) (L' := [some (.ref 19), some (.ref 4), none]) (st' := [.int 0, .ref 19]) (h' := zH (zui I 19 1 1) (zPr 5)) 1 rfl ?_
  refine wp_callf (d := 68) (as := [.ref 19, .int 0]) (rest := []) (Ld := [some (.ref 19), some (.int 0)]) (pc' := 10) (st' := [.ref 41]) (r := some (.ref 41)) (h1 := zH (zui I 19 1 1) (zPr 5)) rfl rfl rfl rfl rfl rfl rfl rfl rfl (sp_at19_5_0 (X := X) (zui I 19 1 1)) ?_
  refine wp_blk (pc' := 11) (L' := [some (.ref 19), some (.ref 4), some (.ref 41)]) (st' := []) (h' := zH (zui I 19 1 1) (zPr 5)) 1 rfl ?_
  refine wp_blk (pc' := 12) (L' := [some (.ref 19), some (.ref 4), some (.ref 41)]) (st' := [.ref 41]) (h' := zH (zui I 19 1 1) (zPr 5)) 1 rfl ?_
  refine wp_blk (pc' := 17) (L' := [some (.ref 19), some (.ref 4), some (.ref 41)]) (st' := []) (h' := zH (zui I 19 1 1) (zPr 5)) 1 rfl ?_
  refine wp_blk (pc' := 18) (L' := [some (.ref 19), some (.ref 4), some (.ref 41)]) (st' := [.ref 4]) (h' := zH (zui I 19 1 1) (zPr 5)) 1 rfl ?_
  refine wp_blk (pc' := 19) (L' := [some (.ref 19), some (.ref 4), some (.ref 41)]) (st' := [.ref 41, .ref 4]) (h' := zH (zui I 19 1 1) (zPr 5)) 1 rfl ?_
  refine wp_callf (d := 37) (as := [.ref 4, .ref 41]) (rest := []) (Ld := [some (.ref 4), some (.ref 41)]) (pc' := 22) (st' := []) (r := none) (h1 := zH (g_M_copy 4 5 6 7 41 42 43 44 (zui I 19 1 1)) (zPr 5)) rfl rfl rfl rfl rfl rfl rfl rfl rfl (xp_M_copy_4_41 _ _ (0, (g_M_copy 4 5 6 7 41 42 43 44 (zui I 19 1 1))) rfl) ?_
  refine wp_blk (pc' := 23) (L' := [some (.ref 19), some (.ref 4), some (.ref 41)]) (st' := [.ref 19]) (h' := zH (g_M_copy 4 5 6 7 41 42 43 44 (zui I 19 1 1)) (zPr 5)) 1 rfl ?_
  refine wp_blk (pc' := 24) (L' := [some (.ref 19), some (.ref 4), some (.ref 41)]) (st' := [.ref 19, .ref 19]) (h' := zH (g_M_copy 4 5 6 7 41 42 43 44 (zui I 19 1 1)) (zPr 5)) 1 rfl ?_
  refine wp_blk (pc' := 27) (L' := [some (.ref 19), some (.ref 4), some (.ref 41)]) (st' := [.int ((g_M_copy 4 5 6 7 41 42 43 44 (zui I 19 1 1)) 19 1), .ref 19]) (h' := zH (g_M_copy 4 5 6 7 41 42 43 44 (zui I 19 1 1)) (zPr 5)) 1 rfl ?_
  refine wp_blk (pc' := 28) (L' := [some (.ref 19), some (.ref 4), some (.ref 41)]) (st' := [.int 1, .int ((g_M_copy 4 5 6 7 41 42 43 44 (zui I 19 1 1)) 19 1), .ref 19]) (h' := zH (g_M_copy 4 5 6 7 41 42 43 44 (zui I 19 1 1)) (zPr 5)) 1 rfl ?_
  refine wp_blk (pc' := 29) (L' := [some (.ref 19), some (.ref 4), some (.ref 41)]) (st' := [.int (((g_M_copy 4 5 6 7 41 42 43 44 (zui I 19 1 1)) 19 1) - 1), .ref 19]) (h' := zH (g_M_copy 4 5 6 7 41 42 43 44 (zui I 19 1 1)) (zPr 5)) 1 rfl ?_
  refine wp_blk (pc' := 32) (L' := [some (.ref 19), some (.ref 4), some (.ref 41)]) (st' := []) (h' := zH (zui (g_M_copy 4 5 6 7 41 42 43 44 (zui I 19 1 1)) 19 1 (((g_M_copy 4 5 6 7 41 42 43 44 (zui I 19 1 1)) 19 1) - 1)) (zPr 5)) 1 rfl ?_
  refine wp_blk (pc' := 33) (L' := [some (.ref 19), some (.ref 4), some (.ref 41)]) (st' := [.int 1]) (h' := zH (zui (g_M_copy 4 5 6 7 41 42 43 44 (zui I 19 1 1)) 19 1 (((g_M_copy 4 5 6 7 41 42 43 44 (zui I 19 1 1)) 19 1) - 1)) (zPr 5)) 1 rfl ?_
  exact wp_end rfl rfl ⟨rfl, rfl⟩
set_option maxRecDepth 100000 in
theorem sp_put19_5_2 {X : Nat × (Nat → Int32)} (I : Nat → Nat → Int32) : Wf X 65 [some (.ref 19), some (.ref 4), none] (zH (zui I 19 1 2) (zPr 5)) none (zH (zui (g_M_copy 49 50 51 52 4 5 6 7 (zui I 19 1 2)) 19 1 (((g_M_copy 49 50 51 52 4 5 6 7 (zui I 19 1 2)) 19 1) + 1)) (zPr 5)) := by
  unfold Wf
  refine wp_blk (pc' := 1) (L' := [some (.ref 19), some (.ref 4), none]) (st' := [.ref 19]) (h' := zH (zui I 19 1 2) (zPr 5)) 1 rfl ?_
  refine wp_callf (d := 66) (as := [.ref 19]) (rest := []) (Ld := [some (.ref 19)]) (pc' := 4) (st' := [.int 0]) (r := some (.int 0)) (h1 := zH (zui I 19 1 2) (zPr 5)) rfl rfl rfl rfl rfl rfl rfl rfl rfl (sp_H1_isFull (X := X) (zui I 19 1 2) (zPr 5)) ?_
  refine wp_blk (pc' := 11) (L' := [some (.ref 19), some (.ref 4), none]) (st' := []) (h' := zH (zui I 19 1 2) (zPr 5)) 1 rfl ?_
  refine wp_blk (pc' := 12) (L' := [some (.ref 19), some (.ref 4), none]) (st' := [.ref 19]) (h' := zH (zui I 19 1 2) (zPr 5)) 1 rfl ?_
  refine wp_blk (pc' := 13) (L' := [some (.ref 19), some (.ref 4), none]) (st' := [.ref 19, .ref 19]) (h' := zH (zui I 19 1 2) (zPr 5)) 1 rfl ?_
  refine wp_blk (pc' := 16) (L' := [some (.ref 19), some (.ref 4), none]) (st' := [.int 2, .ref 19]) (h' := zH (zui I 19 1 2) (zPr 5)) 1 rfl ?_
  refine wp_callf (d := 68) (as := [.ref 19, .int 2]) (rest := []) (Ld := [some (.ref 19), some (.int 2)]) (pc' := 19) (st' := [.ref 49]) (r := some (.ref 49)) (h1 := zH (zui I 19 1 2) (zPr 5)) rfl rfl rfl rfl rfl rfl rfl rfl rfl (sp_at19_5_2 (X := X) (zui I 19 1 2)) ?_
  refine wp_blk (pc' := 20) (L' := [some (.ref 19), some (.ref 4), some (.ref 49)]) (st' := []) (h' := zH (zui I 19 1 2) (zPr 5)) 1 rfl ?_
  refine wp_blk (pc' := 21) (L' := [some (.ref 19), some (.ref 4), some (.ref 49)]) (st' := [.ref 49]) (h' := zH (zui I 19 1 2) (zPr 5)) 1 rfl ?_
  refine wp_blk (pc' := 24) (L' := [some (.ref 19), some (.ref 4), some (.ref 49)]) (st' := []) (h' := zH (zui I 19 1 2) (zPr 5)) 1 rfl ?_
  refine wp_blk (pc' := 25) (L' := [some (.ref 19), some (.ref 4), some (.ref 49)]) (st' := [.ref 49]) (h' := zH (zui I 19 1 2) (zPr 5)) 1 rfl ?_
  refine wp_blk (pc' := 26) (L' := [some (.ref 19), some (.ref 4), some (.ref 49)]) (st' := [.ref 4, .ref 49]) (h' := zH (zui I 19 1 2) (zPr 5)) 1 rfl ?_
  refine wp_callf (d := 37) (as := [.ref 49, .ref 4]) (rest := []) (Ld := [some (.ref 49), some (.ref 4)]) (pc' := 29) (st' := []) (r := none) (h1 := zH (g_M_copy 49 50 51 52 4 5 6 7 (zui I 19 1 2)) (zPr 5)) rfl rfl rfl rfl rfl rfl rfl rfl rfl (xp_M_copy_49_4 _ _ (0, (g_M_copy 49 50 51 52 4 5 6 7 (zui I 19 1 2))) rfl) ?_
  refine wp_blk (pc' := 30) (L' := [some (.ref 19), some (.ref 4), some (.ref 49)]) (st' := [.ref 19]) (h' := zH (g_M_copy 49 50 51 52 4 5 6 7 (zui I 19 1 2)) (zPr 5)) 1 rfl ?_
  refine wp_blk (pc' := 31) (L' := [some (.ref 19), some (.ref 4), some (.ref 49)]) (st' := [.ref 19, .ref 19]) (h' := zH (g_M_copy 49 50 51 52 4 5 6 7 (zui I 19 1 2)) (zPr 5)) 1 rfl ?_
  refine wp_blk (pc' := 34) (L' := [some (.ref 19), some (.ref 4), some (.ref 49)]) (st' := [.int ((g_M_copy 49 50 51 52 4 5 6 7 (zui I 19 1 2)) 19 1), .ref 19]) (h' := zH (g_M_copy 49 50 51 52 4 5 6 7 (zui I 19 1 2)) (zPr 5)) 1 rfl ?_
  refine wp_blk (pc' := 35) (L' := [some (.ref 19), some (.ref 4), some (.ref 49)]) (st' := [.int 1, .int ((g_M_copy 49 50 51 52 4 5 6 7 (zui I 19 1 2)) 19 1), .ref 19]) (h' := zH (g_M_copy 49 50 51 52 4 5 6 7 (zui I 19 1 2)) (zPr 5)) 1 rfl ?_
  refine wp_blk (pc' := 36) (L' := [some (.ref 19), some (.ref 4), some (.ref 49)]) (st' := [.int (((g_M_copy 49 50 51 52 4 5 6 7 (zui I 19 1 2)) 19 1) + 1), .ref 19]) (h' := zH (g_M_copy 49 50 51 52 4 5 6 7 (zui I 19 1 2)) (zPr 5)) 1 rfl ?_
  refine wp_blk (pc' := 39) (L' := [some (.ref 19), some (.ref 4), some (.ref 49)]) (st' := []) (h' := zH (zui (g_M_copy 49 50 51 52 4 5 6 7 (zui I 19 1 2)) 19 1 (((g_M_copy 49 50 51 52 4 5 6 7 (zui I 19 1 2)) 19 1) + 1)) (zPr 5)) 1 rfl ?_
  exact wp_end rfl rfl ⟨rfl, rfl⟩
set_option maxRecDepth 100000 in
theorem sp_take19_5_2 {X : Nat × (Nat → Int32)} (I : Nat → Nat → Int32) : Wf X 79 [some (.ref 19), some (.ref 4), none] (zH (zui I 19 1 2) (zPr 5)) (some (.int 1)) (zH (zui (g_M_copy 4 5 6 7 45 46 47 48 (zui I 19 1 2)) 19 1 (((g_M_copy 4 5 6 7 45 46 47 48 (zui I 19 1 2)) 19 1) - 1)) (zPr 5)) := by
  unfold Wf
  refine wp_blk (pc' := 1) (L' := [some (.ref 19), some (.ref 4), none]) (st' := [.ref 19]) (h' := zH (zui I 19 1 2) (zPr 5)) 1 rfl ?_
  refine wp_blk (pc' := 2) (L' := [some (.ref 19), some (.ref 4), none]) (st' := [.ref 19, .ref 19]) (h' := zH (zui I 19 1 2) (zPr 5)) 1 rfl ?_
  refine wp_blk (pc' := 5) (L' := [some (.ref 19), some (.ref 4), none]) (st' := [.int 2, .ref 19]) (h' := zH (zui I 19 1 2) (zPr 5)) 1 rfl ?_
  refine wp_blk (pc' := 6) (L' := [some (.ref 19), some (.ref 4), none]) (st' := [.int 1, .int 2, .ref 19]) (h' := zH (zui I 19 1 2) (zPr 5)) 1 rfl ?_
  refine wp_blk (pc' := 7) (L' := [some (.ref 19), some (.ref 4), none]) (st' := [.int 1, .ref 19]) (h' := zH (zui I 19 1 2) (zPr 5)) 1 rfl ?_
  refine wp_callf (d := 68) (as := [.ref 19, .int 1]) (rest := []) (Ld := [some (.ref 19), some (.int 1)]) (pc' := 10) (st' := [.ref 45]) (r := some (.ref 45)) (h1 := zH (zui I 19 1 2) (zPr 5)) rfl rfl rfl rfl rfl rfl rfl rfl rfl (sp_at19_5_1 (X := X) (zui I 19 1 2)) ?_
  refine wp_blk (pc' := 11) (L' := [some (.ref 19), some (.ref 4), some (.ref 45)]) (st' := []) (h' := zH (zui I 19 1 2) (zPr 5)) 1 rfl ?_
  refine wp_blk (pc' := 12) (L' := [some (.ref 19), some (.ref 4), some (.ref 45)]) (st' := [.ref 45]) (h' := zH (zui I 19 1 2) (zPr 5)) 1 rfl ?_
  refine wp_blk (pc' := 17) (L' := [some (.ref 19), some (.ref 4), some (.ref 45)]) (st' := []) (h' := zH (zui I 19 1 2) (zPr 5)) 1 rfl ?_
  refine wp_blk (pc' := 18) (L' := [some (.ref 19), some (.ref 4), some (.ref 45)]) (st' := [.ref 4]) (h' := zH (zui I 19 1 2) (zPr 5)) 1 rfl ?_
  refine wp_blk (pc' := 19) (L' := [some (.ref 19), some (.ref 4), some (.ref 45)]) (st' := [.ref 45, .ref 4]) (h' := zH (zui I 19 1 2) (zPr 5)) 1 rfl ?_
  refine wp_callf (d := 37) (as := [.ref 4, .ref 45]) (rest := []) (Ld := [some (.ref 4), some (.ref 45)]) (pc' := 22) (st' := []) (r := none) (h1 := zH (g_M_copy 4 5 6 7 45 46 47 48 (zui I 19 1 2)) (zPr 5)) rfl rfl rfl rfl rfl rfl rfl rfl rfl (xp_M_copy_4_45 _ _ (0, (g_M_copy 4 5 6 7 45 46 47 48 (zui I 19 1 2))) rfl) ?_
  refine wp_blk (pc' := 23) (L' := [some (.ref 19), some (.ref 4), some (.ref 45)]) (st' := [.ref 19]) (h' := zH (g_M_copy 4 5 6 7 45 46 47 48 (zui I 19 1 2)) (zPr 5)) 1 rfl ?_
  refine wp_blk (pc' := 24) (L' := [some (.ref 19), some (.ref 4), some (.ref 45)]) (st' := [.ref 19, .ref 19]) (h' := zH (g_M_copy 4 5 6 7 45 46 47 48 (zui I 19 1 2)) (zPr 5)) 1 rfl ?_
  refine wp_blk (pc' := 27) (L' := [some (.ref 19), some (.ref 4), some (.ref 45)]) (st' := [.int ((g_M_copy 4 5 6 7 45 46 47 48 (zui I 19 1 2)) 19 1), .ref 19]) (h' := zH (g_M_copy 4 5 6 7 45 46 47 48 (zui I 19 1 2)) (zPr 5)) 1 rfl ?_
  refine wp_blk (pc' := 28) (L' := [some (.ref 19), some (.ref 4), some (.ref 45)]) (st' := [.int 1, .int ((g_M_copy 4 5 6 7 45 46 47 48 (zui I 19 1 2)) 19 1), .ref 19]) (h' := zH (g_M_copy 4 5 6 7 45 46 47 48 (zui I 19 1 2)) (zPr 5)) 1 rfl ?_
  refine wp_blk (pc' := 29) (L' := [some (.ref 19), some (.ref 4), some (.ref 45)]) (st' := [.int (((g_M_copy 4 5 6 7 45 46 47 48 (zui I 19 1 2)) 19 1) - 1), .ref 19]) (h' := zH (g_M_copy 4 5 6 7 45 46 47 48 (zui I 19 1 2)) (zPr 5)) 1 rfl ?_
  refine wp_blk (pc' := 32) (L' := [some (.ref 19), some (.ref 4), some (.ref 45)]) (st' := []) (h' := zH (zui (g_M_copy 4 5 6 7 45 46 47 48 (zui I 19 1 2)) 19 1 (((g_M_copy 4 5 6 7 45 46 47 48 (zui I 19 1 2)) 19 1) - 1)) (zPr 5)) 1 rfl ?_
  refine wp_blk (pc' := 33) (L' := [some (.ref 19), some (.ref 4), some (.ref 45)]) (st' := [.int 1]) (h' := zH (zui (g_M_copy 4 5 6 7 45 46 47 48 (zui I 19 1 2)) 19 1 (((g_M_copy 4 5 6 7 45 46 47 48 (zui I 19 1 2)) 19 1) - 1)) (zPr 5)) 1 rfl ?_
  exact wp_end rfl rfl ⟨rfl, rfl⟩
set_option maxRecDepth 100000 in
theorem sp_put19_5_3 {X : Nat × (Nat → Int32)} (I : Nat → Nat → Int32) : Wf X 65 [some (.ref 19), some (.ref 4), none] (zH (zui I 19 1 3) (zPr 5)) none (zH (zui (g_M_copy 21 22 23 24 4 5 6 7 (zui I 19 1 3)) 19 1 (((g_M_copy 21 22 23 24 4 5 6 7 (zui I 19 1 3)) 19 1) + 1)) (zPr 5)) := by
  unfold Wf
  refine wp_blk (pc' := 1) (L' := [some (.ref 19), some (.ref 4), none]) (st' := [.ref 19]) (h' := zH (zui I 19 1 3) (zPr 5)) 1 rfl ?_
  refine wp_callf (d := 66) (as := [.ref 19]) (rest := []) (Ld := [some (.ref 19)]) (pc' := 4) (st' := [.int 0]) (r := some (.int 0)) (h1 := zH (zui I 19 1 3) (zPr 5)) rfl rfl rfl rfl rfl rfl rfl rfl rfl (sp_H1_isFull (X := X) (zui I 19 1 3) (zPr 5)) ?_
  refine wp_blk (pc' := 11) (L' := [some (.ref 19), some (.ref 4), none]) (st' := []) (h' := zH (zui I 19 1 3) (zPr 5)) 1 rfl ?_
  refine wp_blk (pc' := 12) (L' := [some (.ref 19), some (.ref 4), none]) (st' := [.ref 19]) (h' := zH (zui I 19 1 3) (zPr 5)) 1 rfl ?_
  refine wp_blk (pc' := 13) (L' := [some (.ref 19), some (.ref 4), none]) (st' := [.ref 19, .ref 19]) (h' := zH (zui I 19 1 3) (zPr 5)) 1 rfl ?_
  refine wp_blk (pc' := 16) (L' := [some (.ref 19), some (.ref 4), none]) (st' := [.int 3, .ref 19]) (h' := zH (zui I 19 1 3) (zPr 5)) 1 rfl ?_
  refine wp_callf (d := 68) (as := [.ref 19, .int 3]) (rest := []) (Ld := [some (.ref 19), some (.int 3)]) (pc' := 19) (st' := [.ref 21]) (r := some (.ref 21)) (h1 := zH (zui I 19 1 3) (zPr 5)) rfl rfl rfl rfl rfl rfl rfl rfl rfl (sp_at19_5_3 (X := X) (zui I 19 1 3)) ?_
  refine wp_blk (pc' := 20) (L' := [some (.ref 19), some (.ref 4), some (.ref 21)]) (st' := []) (h' := zH (zui I 19 1 3) (zPr 5)) 1 rfl ?_
  refine wp_blk (pc' := 21) (L' := [some (.ref 19), some (.ref 4), some (.ref 21)]) (st' := [.ref 21]) (h' := zH (zui I 19 1 3) (zPr 5)) 1 rfl ?_
  refine wp_blk (pc' := 24) (L' := [some (.ref 19), some (.ref 4), some (.ref 21)]) (st' := []) (h' := zH (zui I 19 1 3) (zPr 5)) 1 rfl ?_
  refine wp_blk (pc' := 25) (L' := [some (.ref 19), some (.ref 4), some (.ref 21)]) (st' := [.ref 21]) (h' := zH (zui I 19 1 3) (zPr 5)) 1 rfl ?_
  refine wp_blk (pc' := 26) (L' := [some (.ref 19), some (.ref 4), some (.ref 21)]) (st' := [.ref 4, .ref 21]) (h' := zH (zui I 19 1 3) (zPr 5)) 1 rfl ?_
  refine wp_callf (d := 37) (as := [.ref 21, .ref 4]) (rest := []) (Ld := [some (.ref 21), some (.ref 4)]) (pc' := 29) (st' := []) (r := none) (h1 := zH (g_M_copy 21 22 23 24 4 5 6 7 (zui I 19 1 3)) (zPr 5)) rfl rfl rfl rfl rfl rfl rfl rfl rfl (xp_M_copy_21_4 _ _ (0, (g_M_copy 21 22 23 24 4 5 6 7 (zui I 19 1 3))) rfl) ?_
  refine wp_blk (pc' := 30) (L' := [some (.ref 19), some (.ref 4), some (.ref 21)]) (st' := [.ref 19]) (h' := zH (g_M_copy 21 22 23 24 4 5 6 7 (zui I 19 1 3)) (zPr 5)) 1 rfl ?_
  refine wp_blk (pc' := 31) (L' := [some (.ref 19), some (.ref 4), some (.ref 21)]) (st' := [.ref 19, .ref 19]) (h' := zH (g_M_copy 21 22 23 24 4 5 6 7 (zui I 19 1 3)) (zPr 5)) 1 rfl ?_
  refine wp_blk (pc' := 34) (L' := [some (.ref 19), some (.ref 4), some (.ref 21)]) (st' := [.int ((g_M_copy 21 22 23 24 4 5 6 7 (zui I 19 1 3)) 19 1), .ref 19]) (h' := zH (g_M_copy 21 22 23 24 4 5 6 7 (zui I 19 1 3)) (zPr 5)) 1 rfl ?_
  refine wp_blk (pc' := 35) (L' := [some (.ref 19), some (.ref 4), some (.ref 21)]) (st' := [.int 1, .int ((g_M_copy 21 22 23 24 4 5 6 7 (zui I 19 1 3)) 19 1), .ref 19]) (h' := zH (g_M_copy 21 22 23 24 4 5 6 7 (zui I 19 1 3)) (zPr 5)) 1 rfl ?_
  refine wp_blk (pc' := 36) (L' := [some (.ref 19), some (.ref 4), some (.ref 21)]) (st' := [.int (((g_M_copy 21 22 23 24 4 5 6 7 (zui I 19 1 3)) 19 1) + 1), .ref 19]) (h' := zH (g_M_copy 21 22 23 24 4 5 6 7 (zui I 19 1 3)) (zPr 5)) 1 rfl ?_
  refine wp_blk (pc' := 39) (L' := [some (.ref 19), some (.ref 4), some (.ref 21)]) (st' := []) (h' := zH (zui (g_M_copy 21 22 23 24 4 5 6 7 (zui I 19 1 3)) 19 1 (((g_M_copy 21 22 23 24 4 5 6 7 (zui I 19 1 3)) 19 1) + 1)) (zPr 5)) 1 rfl ?_
  exact wp_end rfl rfl ⟨rfl, rfl⟩
set_option maxRecDepth 100000 in
theorem sp_take19_5_3 {X : Nat × (Nat → Int32)} (I : Nat → Nat → Int32) : Wf X 79 [some (.ref 19), some (.ref 4), none] (zH (zui I 19 1 3) (zPr 5)) (some (.int 1)) (zH (zui (g_M_copy 4 5 6 7 49 50 51 52 (zui I 19 1 3)) 19 1 (((g_M_copy 4 5 6 7 49 50 51 52 (zui I 19 1 3)) 19 1) - 1)) (zPr 5)) := by
  unfold Wf
  refine wp_blk (pc' := 1) (L' := [some (.ref 19), some (.ref 4), none]) (st' := [.ref 19]) (h' := zH (zui I 19 1 3) (zPr 5)) 1 rfl ?_
  refine wp_blk (pc' := 2) (L' := [some (.ref 19), some (.ref 4), none]) (st' := [.ref 19, .ref 19]) (h' := zH (zui I 19 1 3) (zPr 5)) 1 rfl ?_
  refine wp_blk (pc' := 5) (L' := [some (.ref 19), some (.ref 4), none]) (st' := [.int 3, .ref 19]) (h' := zH (zui I 19 1 3) (zPr 5)) 1 rfl ?_
  refine wp_blk (pc' := 6) (L' := [some (.ref 19), some (.ref 4), none]) (st' := [.int 1, .int 3, .ref 19]) (h' := zH (zui I 19 1 3) (zPr 5)) 1 rfl ?_
  refine wp_blk (pc' := 7) (L' := [some (.ref 19), some (.ref 4), none]) (st' := [.int 2, .ref 19]) (h' := zH (zui I 19 1 3) (zPr 5)) 1 rfl ?_
  refine wp_callf (d := 68) (as := [.ref 19, .int 2]) (rest := []) (Ld := [some (.ref 19), some (.int 2)]) (pc' := 10) (st' := [.ref 49]) (r := some (.ref 49)) (h1 := zH (zui I 19 1 3) (zPr 5)) rfl rfl rfl rfl rfl rfl rfl rfl rfl (sp_at19_5_2 (X := X) (zui I 19 1 3)) ?_
  refine wp_blk (pc' := 11) (L' := [some (.ref 19), some (.ref 4), some (.ref 49)]) (st' := []) (h' := zH (zui I 19 1 3) (zPr 5)) 1 rfl ?_
  refine wp_blk (pc' := 12) (L' := [some (.ref 19), some (.ref 4), some (.ref 49)]) (st' := [.ref 49]) (h' := zH (zui I 19 1 3) (zPr 5)) 1 rfl ?_
  refine wp_blk (pc' := 17) (L' := [some (.ref 19), some (.ref 4), some (.ref 49)]) (st' := []) (h' := zH (zui I 19 1 3) (zPr 5)) 1 rfl ?_
  refine wp_blk (pc' := 18) (L' := [some (.ref 19), some (.ref 4), some (.ref 49)]) (st' := [.ref 4]) (h' := zH (zui I 19 1 3) (zPr 5)) 1 rfl ?_
  refine wp_blk (pc' := 19) (L' := [some (.ref 19), some (.ref 4), some (.ref 49)]) (st' := [.ref 49, .ref 4]) (h' := zH (zui I 19 1 3) (zPr 5)) 1 rfl ?_
  refine wp_callf (d := 37) (as := [.ref 4, .ref 49]) (rest := []) (Ld := [some (.ref 4), some (.ref 49)]) (pc' := 22) (st' := []) (r := none) (h1 := zH (g_M_copy 4 5 6 7 49 50 51 52 (zui I 19 1 3)) (zPr 5)) rfl rfl rfl rfl rfl rfl rfl rfl rfl (xp_M_copy_4_49 _ _ (0, (g_M_copy 4 5 6 7 49 50 51 52 (zui I 19 1 3))) rfl) ?_
  refine wp_blk (pc' := 23) (L' := [some (.ref 19), some (.ref 4), some (.ref 49)]) (st' := [.ref 19]) (h' := zH (g_M_copy 4 5 6 7 49 50 51 52 (zui I 19 1 3)) (zPr 5)) 1 rfl ?_
  refine wp_blk (pc' := 24) (L' := [some (.ref 19), some (.ref 4), some (.ref 49)]) (st' := [.ref 19, .ref 19]) (h' := zH (g_M_copy 4 5 6 7 49 50 51 52 (zui I 19 1 3)) (zPr 5)) 1 rfl ?_
  refine wp_blk (pc' := 27) (L' := [some (.ref 19), some (.ref 4), some (.ref 49)]) (st' := [.int ((g_M_copy 4 5 6 7 49 50 51 52 (zui I 19 1 3)) 19 1), .ref 19]) (h' := zH (g_M_copy 4 5 6 7 49 50 51 52 (zui I 19 1 3)) (zPr 5)) 1 rfl ?_
  refine wp_blk (pc' := 28) (L' := [some (.ref 19), some (.ref 4), some (.ref 49)]) (st' := [.int 1, .int ((g_M_copy 4 5 6 7 49 50 51 52 (zui I 19 1 3)) 19 1), .ref 19]) (h' := zH (g_M_copy 4 5 6 7 49 50 51 52 (zui I 19 1 3)) (zPr 5)) 1 rfl ?_
  refine wp_blk (pc' := 29) (L' := [some (.ref 19), some (.ref 4), some (.ref 49)]) (st' := [.int (((g_M_copy 4 5 6 7 49 50 51 52 (zui I 19 1 3)) 19 1) - 1), .ref 19]) (h' := zH (g_M_copy 4 5 6 7 49 50 51 52 (zui I 19 1 3)) (zPr 5)) 1 rfl ?_
  refine wp_blk (pc' := 32) (L' := [some (.ref 19), some (.ref 4), some (.ref 49)]) (st' := []) (h' := zH (zui (g_M_copy 4 5 6 7 49 50 51 52 (zui I 19 1 3)) 19 1 (((g_M_copy 4 5 6 7 49 50 51 52 (zui I 19 1 3)) 19 1) - 1)) (zPr 5)) 1 rfl ?_
  refine wp_blk (pc' := 33) (L' := [some (.ref 19), some (.ref 4), some (.ref 49)]) (st' := [.int 1]) (h' := zH (zui (g_M_copy 4 5 6 7 49 50 51 52 (zui I 19 1 3)) 19 1 (((g_M_copy 4 5 6 7 49 50 51 52 (zui I 19 1 3)) 19 1) - 1)) (zPr 5)) 1 rfl ?_
  exact wp_end rfl rfl ⟨rfl, rfl⟩
set_option maxRecDepth 100000 in
theorem sp_put19_5_4 {X : Nat × (Nat → Int32)} (I : Nat → Nat → Int32) : Wf X 65 [some (.ref 19), some (.ref 4), none] (zH (zui I 19 1 4) (zPr 5)) none (zH (zui (g_M_copy 25 26 27 28 4 5 6 7 (zui I 19 1 4)) 19 1 (((g_M_copy 25 26 27 28 4 5 6 7 (zui I 19 1 4)) 19 1) + 1)) (zPr 5)) := by
  unfold Wf
  refine wp_blk (pc' := 1) (L' := [some (.ref 19), some (.ref 4), none]) (st' := [.ref 19]) (h' := zH (zui I 19 1 4) (zPr 5)) 1 rfl ?_
  refine wp_callf (d := 66) (as := [.ref 19]) (rest := []) (Ld := [some (.ref 19)]) (pc' := 4) (st' := [.int 0]) (r := some (.int 0)) (h1 := zH (zui I 19 1 4) (zPr 5)) rfl rfl rfl rfl rfl rfl rfl rfl rfl (sp_H1_isFull (X := X) (zui I 19 1 4) (zPr 5)) ?_
  refine wp_blk (pc' := 11) (L' := [some (.ref 19), some (.ref 4), none]) (st' := []) (h' := zH (zui I 19 1 4) (zPr 5)) 1 rfl ?_
  refine wp_blk (pc' := 12) (L' := [some (.ref 19), some (.ref 4), none]) (st' := [.ref 19]) (h' := zH (zui I 19 1 4) (zPr 5)) 1 rfl ?_
  refine wp_blk (pc' := 13) (L' := [some (.ref 19), some (.ref 4), none]) (st' := [.ref 19, .ref 19]) (h' := zH (zui I 19 1 4) (zPr 5)) 1 rfl ?_
  refine wp_blk (pc' := 16) (L' := [some (.ref 19), some (.ref 4), none]) (st' := [.int 4, .ref 19]) (h' := zH (zui I 19 1 4) (zPr 5)) 1 rfl ?_
  refine wp_callf (d := 68) (as := [.ref 19, .int 4]) (rest := []) (Ld := [some (.ref 19), some (.int 4)]) (pc' := 19) (st' := [.ref 25]) (r := some (.ref 25)) (h1 := zH (zui I 19 1 4) (zPr 5)) rfl rfl rfl rfl rfl rfl rfl rfl rfl (sp_at19_5_4 (X := X) (zui I 19 1 4)) ?_
  refine wp_blk (pc' := 20) (L' := [some (.ref 19), some (.ref 4), some (.ref 25)]) (st' := []) (h' := zH (zui I 19 1 4) (zPr 5)) 1 rfl ?_
  refine wp_blk (pc' := 21) (L' := [some (.ref 19), some (.ref 4), some (.ref 25)]) (st' := [.ref 25]) (h' := zH (zui I 19 1 4) (zPr 5)) 1 rfl ?_
  refine wp_blk (pc' := 24) (L' := [some (.ref 19), some (.ref 4), some (.ref 25)]) (st' := []) (h' := zH (zui I 19 1 4) (zPr 5)) 1 rfl ?_
  refine wp_blk (pc' := 25) (L' := [some (.ref 19), some (.ref 4), some (.ref 25)]) (st' := [.ref 25]) (h' := zH (zui I 19 1 4) (zPr 5)) 1 rfl ?_
  refine wp_blk (pc' := 26) (L' := [some (.ref 19), some (.ref 4), some (.ref 25)]) (st' := [.ref 4, .ref 25]) (h' := zH (zui I 19 1 4) (zPr 5)) 1 rfl ?_
  refine wp_callf (d := 37) (as := [.ref 25, .ref 4]) (rest := []) (Ld := [some (.ref 25), some (.ref 4)]) (pc' := 29) (st' := []) (r := none) (h1 := zH (g_M_copy 25 26 27 28 4 5 6 7 (zui I 19 1 4)) (zPr 5)) rfl rfl rfl rfl rfl rfl rfl rfl rfl (xp_M_copy_25_4 _ _ (0, (g_M_copy 25 26 27 28 4 5 6 7 (zui I 19 1 4))) rfl) ?_
  refine wp_blk (pc' := 30) (L' := [some (.ref 19), some (.ref 4), some (.ref 25)]) (st' := [.ref 19]) (h' := zH (g_M_copy 25 26 27 28 4 5 6 7 (zui I 19 1 4)) (zPr 5)) 1 rfl ?_
  refine wp_blk (pc' := 31) (L' := [some (.ref 19), some (.ref 4), some (.ref 25)]) (st' := [.ref 19, .ref 19]) (h' := zH (g_M_copy 25 26 27 28 4 5 6 7 (zui I 19 1 4)) (zPr 5)) 1 rfl ?_
  refine wp_blk (pc' := 34) (L' := [some (.ref 19), some (.ref 4), some (.ref 25)]) (st' := [.int ((g_M_copy 25 26 27 28 4 5 6 7 (zui I 19 1 4)) 19 1), .ref 19]) (h' := zH (g_M_copy 25 26 27 28 4 5 6 7 (zui I 19 1 4)) (zPr 5)) 1 rfl ?_
  refine wp_blk (pc' := 35) (L' := [some (.ref 19), some (.ref 4), some (.ref 25)]) (st' := [.int 1, .int ((g_M_copy 25 26 27 28 4 5 6 7 (zui I 19 1 4)) 19 1), .ref 19]) (h' := zH (g_M_copy 25 26 27 28 4 5 6 7 (zui I 19 1 4)) (zPr 5)) 1 rfl ?_
  refine wp_blk (pc' := 36) (L' := [some (.ref 19), some (.ref 4), some (.ref 25)]) (st' := [.int (((g_M_copy 25 26 27 28 4 5 6 7 (zui I 19 1 4)) 19 1) + 1), .ref 19]) (h' := zH (g_M_copy 25 26 27 28 4 5 6 7 (zui I 19 1 4)) (zPr 5)) 1 rfl ?_
  refine wp_blk (pc' := 39) (L' := [some (.ref 19), some (.ref 4), some (.ref 25)]) (st' := []) (h' := zH (zui (g_M_copy 25 26 27 28 4 5 6 7 (zui I 19 1 4)) 19 1 (((g_M_copy 25 26 27 28 4 5 6 7 (zui I 19 1 4)) 19 1) + 1)) (zPr 5)) 1 rfl ?_
  exact wp_end rfl rfl ⟨rfl, rfl⟩
set_option maxRecDepth 100000 in
theorem sp_take19_5_4 {X : Nat × (Nat → Int32)} (I : Nat → Nat → Int32) : Wf X 79 [some (.ref 19), some (.ref 4), none] (zH (zui I 19 1 4) (zPr 5)) (some (.int 1)) (zH (zui (g_M_copy 4 5 6 7 21 22 23 24 (zui I 19 1 4)) 19 1 (((g_M_copy 4 5 6 7 21 22 23 24 (zui I 19 1 4)) 19 1) - 1)) (zPr 5)) := by
  unfold Wf
  refine wp_blk (pc' := 1) (L' := [some (.ref 19), some (.ref 4), none]) (st' := [.ref 19]) (h' := zH (zui I 19 1 4) (zPr 5)) 1 rfl ?_
  refine wp_blk (pc' := 2) (L' := [some (.ref 19), some (.ref 4), none]) (st' := [.ref 19, .ref 19]) (h' := zH (zui I 19 1 4) (zPr 5)) 1 rfl ?_
  refine wp_blk (pc' := 5) (L' := [some (.ref 19), some (.ref 4), none]) (st' := [.int 4, .ref 19]) (h' := zH (zui I 19 1 4) (zPr 5)) 1 rfl ?_
  refine wp_blk (pc' := 6) (L' := [some (.ref 19), some (.ref 4), none]) (st' := [.int 1, .int 4, .ref 19]) (h' := zH (zui I 19 1 4) (zPr 5)) 1 rfl ?_
  refine wp_blk (pc' := 7) (L' := [some (.ref 19), some (.ref 4), none]) (st' := [.int 3, .ref 19]) (h' := zH (zui I 19 1 4) (zPr 5)) 1 rfl ?_
  refine wp_callf (d := 68) (as := [.ref 19, .int 3]) (rest := []) (Ld := [some (.ref 19), some (.int 3)]) (pc' := 10) (st' := [.ref 21]) (r := some (.ref 21)) (h1 := zH (zui I 19 1 4) (zPr 5)) rfl rfl rfl rfl rfl rfl rfl rfl rfl (sp_at19_5_3 (X := X) (zui I 19 1 4)) ?_
  refine wp_blk (pc' := 11) (L' := [some (.ref 19), some (.ref 4), some (.ref 21)]) (st' := []) (h' := zH (zui I 19 1 4) (zPr 5)) 1 rfl ?_
  refine wp_blk (pc' := 12) (L' := [some (.ref 19), some (.ref 4), some (.ref 21)]) (st' := [.ref 21]) (h' := zH (zui I 19 1 4) (zPr 5)) 1 rfl ?_
  refine wp_blk (pc' := 17) (L' := [some (.ref 19), some (.ref 4), some (.ref 21)]) (st' := []) (h' := zH (zui I 19 1 4) (zPr 5)) 1 rfl ?_
  refine wp_blk (pc' := 18) (L' := [some (.ref 19), some (.ref 4), some (.ref 21)]) (st' := [.ref 4]) (h' := zH (zui I 19 1 4) (zPr 5)) 1 rfl ?_
  refine wp_blk (pc' := 19) (L' := [some (.ref 19), some (.ref 4), some (.ref 21)]) (st' := [.ref 21, .ref 4]) (h' := zH (zui I 19 1 4) (zPr 5)) 1 rfl ?_
  refine wp_callf (d := 37) (as := [.ref 4, .ref 21]) (rest := []) (Ld := [some (.ref 4), some (.ref 21)]) (pc' := 22) (st' := []) (r := none) (h1 := zH (g_M_copy 4 5 6 7 21 22 23 24 (zui I 19 1 4)) (zPr 5)) rfl rfl rfl rfl rfl rfl rfl rfl rfl (xp_M_copy_4_21 _ _ (0, (g_M_copy 4 5 6 7 21 22 23 24 (zui I 19 1 4))) rfl) ?_
  refine wp_blk (pc' := 23) (L' := [some (.ref 19), some (.ref 4), some (.ref 21)]) (st' := [.ref 19]) (h' := zH (g_M_copy 4 5 6 7 21 22 23 24 (zui I 19 1 4)) (zPr 5)) 1 rfl ?_
  refine wp_blk (pc' := 24) (L' := [some (.ref 19), some (.ref 4), some (.ref 21)]) (st' := [.ref 19, .ref 19]) (h' := zH (g_M_copy 4 5 6 7 21 22 23 24 (zui I 19 1 4)) (zPr 5)) 1 rfl ?_
  refine wp_blk (pc' := 27) (L' := [some (.ref 19), some (.ref 4), some (.ref 21)]) (st' := [.int ((g_M_copy 4 5 6 7 21 22 23 24 (zui I 19 1 4)) 19 1), .ref 19]) (h' := zH (g_M_copy 4 5 6 7 21 22 23 24 (zui I 19 1 4)) (zPr 5)) 1 rfl ?_
  refine wp_blk (pc' := 28) (L' := [some (.ref 19), some (.ref 4), some (.ref 21)]) (st' := [.int 1, .int ((g_M_copy 4 5 6 7 21 22 23 24 (zui I 19 1 4)) 19 1), .ref 19]) (h' := zH (g_M_copy 4 5 6 7 21 22 23 24 (zui I 19 1 4)) (zPr 5)) 1 rfl ?_
  refine wp_blk (pc' := 29) (L' := [some (.ref 19), some (.ref 4), some (.ref 21)]) (st' := [.int (((g_M_copy 4 5 6 7 21 22 23 24 (zui I 19 1 4)) 19 1) - 1), .ref 19]) (h' := zH (g_M_copy 4 5 6 7 21 22 23 24 (zui I 19 1 4)) (zPr 5)) 1 rfl ?_
  refine wp_blk (pc' := 32) (L' := [some (.ref 19), some (.ref 4), some (.ref 21)]) (st' := []) (h' := zH (zui (g_M_copy 4 5 6 7 21 22 23 24 (zui I 19 1 4)) 19 1 (((g_M_copy 4 5 6 7 21 22 23 24 (zui I 19 1 4)) 19 1) - 1)) (zPr 5)) 1 rfl ?_
  refine wp_blk (pc' := 33) (L' := [some (.ref 19), some (.ref 4), some (.ref 21)]) (st' := [.int 1]) (h' := zH (zui (g_M_copy 4 5 6 7 21 22 23 24 (zui I 19 1 4)) 19 1 (((g_M_copy 4 5 6 7 21 22 23 24 (zui I 19 1 4)) 19 1) - 1)) (zPr 5)) 1 rfl ?_
  exact wp_end rfl rfl ⟨rfl, rfl⟩
set_option maxRecDepth 100000 in
theorem sp_put19_5_5 {X : Nat × (Nat → Int32)} (I : Nat → Nat → Int32) : Wf X 65 [some (.ref 19), some (.ref 4), none] (zH (zui I 19 1 5) (zPr 5)) none (zH (zui (g_M_copy 29 30 31 32 4 5 6 7 (zui I 19 1 5)) 19 1 (((g_M_copy 29 30 31 32 4 5 6 7 (zui I 19 1 5)) 19 1) + 1)) (zPr 5)) := by
  unfold Wf
  refine wp_blk (pc' := 1) (L' := [some (.ref 19), some (.ref 4), none]) (st' := [.ref 19]) (h' := zH (zui I 19 1 5) (zPr 5)) 1 rfl ?_
  refine wp_callf (d := 66) (as := [.ref 19]) (rest := []) (Ld := [some (.ref 19)]) (pc' := 4) (st' := [.int 0]) (r := some (.int 0)) (h1 := zH (zui I 19 1 5) (zPr 5)) rfl rfl rfl rfl rfl rfl rfl rfl rfl (sp_H1_isFull (X := X) (zui I 19 1 5) (zPr 5)) ?_
  refine wp_blk (pc' := 11) (L' := [some (.ref 19), some (.ref 4), none]) (st' := []) (h' := zH (zui I 19 1 5) (zPr 5)) 1 rfl ?_
  refine wp_blk (pc' := 12) (L' := [some (.ref 19), some (.ref 4), none]) (st' := [.ref 19]) (h' := zH (zui I 19 1 5) (zPr 5)) 1 rfl ?_
  refine wp_blk (pc' := 13) (L' := [some (.ref 19), some (.ref 4), none]) (st' := [.ref 19, .ref 19]) (h' := zH (zui I 19 1 5) (zPr 5)) 1 rfl ?_
  refine wp_blk (pc' := 16) (L' := [some (.ref 19), some (.ref 4), none]) (st' := [.int 5, .ref 19]) (h' := zH (zui I 19 1 5) (zPr 5)) 1 rfl ?_
  refine wp_callf (d := 68) (as := [.ref 19, .int 5]) (rest := []) (Ld := [some (.ref 19), some (.int 5)]) (pc' := 19) (st' := [.ref 29]) (r := some (.ref 29)) (h1 := zH (zui I 19 1 5) (zPr 5)) rfl rfl rfl rfl rfl rfl rfl rfl rfl (sp_at19_5_5 (X := X) (zui I 19 1 5)) ?_
  refine wp_blk (pc' := 20) (L' := [some (.ref 19), some (.ref 4), some (.ref 29)]) (st' := []) (h' := zH (zui I 19 1 5) (zPr 5)) 1 rfl ?_
  refine wp_blk (pc' := 21) (L' := [some (.ref 19), some (.ref 4), some (.ref 29)]) (st' := [.ref 29]) (h' := zH (zui I 19 1 5) (zPr 5)) 1 rfl ?_
  refine wp_blk (pc' := 24) (L' := [some (.ref 19), some (.ref 4), some (.ref 29)]) (st' := []) (h' := zH (zui I 19 1 5) (zPr 5)) 1 rfl ?_
  refine wp_blk (pc' := 25) (L' := [some (.ref 19), some (.ref 4), some (.ref 29)]) (st' := [.ref 29]) (h' := zH (zui I 19 1 5) (zPr 5)) 1 rfl ?_
  refine wp_blk (pc' := 26) (L' := [some (.ref 19), some (.ref 4), some (.ref 29)]) (st' := [.ref 4, .ref 29]) (h' := zH (zui I 19 1 5) (zPr 5)) 1 rfl ?_
  refine wp_callf (d := 37) (as := [.ref 29, .ref 4]) (rest := []) (Ld := [some (.ref 29), some (.ref 4)]) (pc' := 29) (st' := []) (r := none) (h1 := zH (g_M_copy 29 30 31 32 4 5 6 7 (zui I 19 1 5)) (zPr 5)) rfl rfl rfl rfl rfl rfl rfl rfl rfl (xp_M_copy_29_4 _ _ (0, (g_M_copy 29 30 31 32 4 5 6 7 (zui I 19 1 5))) rfl) ?_
  refine wp_blk (pc' := 30) (L' := [some (.ref 19), some (.ref 4), some (.ref 29)]) (st' := [.ref 19]) (h' := zH (g_M_copy 29 30 31 32 4 5 6 7 (zui I 19 1 5)) (zPr 5)) 1 rfl ?_
  refine wp_blk (pc' := 31) (L' := [some (.ref 19), some (.ref 4), some (.ref 29)]) (st' := [.ref 19, .ref 19]) (h' := zH (g_M_copy 29 30 31 32 4 5 6 7 (zui I 19 1 5)) (zPr 5)) 1 rfl ?_
  refine wp_blk (pc' := 34) (L' := [some (.ref 19), some (.ref 4), some (.ref 29)]) (st' := [.int ((g_M_copy 29 30 31 32 4 5 6 7 (zui I 19 1 5)) 19 1), .ref 19]) (h' := zH (g_M_copy 29 30 31 32 4 5 6 7 (zui I 19 1 5)) (zPr 5)) 1 rfl ?_
  refine wp_blk (pc' := 35) (L' := [some (.ref 19), some (.ref 4), some (.ref 29)]) (st' := [.int 1, .int ((g_M_copy 29 30 31 32 4 5 6 7 (zui I 19 1 5)) 19 1), .ref 19]) (h' := zH (g_M_copy 29 30 31 32 4 5 6 7 (zui I 19 1 5)) (zPr 5)) 1 rfl ?_
  refine wp_blk (pc' := 36) (L' := [some (.ref 19), some (.ref 4), some (.ref 29)]) (st' := [.int (((g_M_copy 29 30 31 32 4 5 6 7 (zui I 19 1 5)) 19 1) + 1), .ref 19]) (h' := zH (g_M_copy 29 30 31 32 4 5 6 7 (zui I 19 1 5)) (zPr 5)) 1 rfl ?_
  refine wp_blk (pc' := 39) (L' := [some (.ref 19), some (.ref 4), some (.ref 29)]) (st' := []) (h' := zH (zui (g_M_copy 29 30 31 32 4 5 6 7 (zui I 19 1 5)) 19 1 (((g_M_copy 29 30 31 32 4 5 6 7 (zui I 19 1 5)) 19 1) + 1)) (zPr 5)) 1 rfl ?_
  exact wp_end rfl rfl ⟨rfl, rfl⟩
set_option maxRecDepth 100000 in
theorem sp_take19_5_5 {X : Nat × (Nat → Int32)} (I : Nat → Nat → Int32) : Wf X 79 [some (.ref 19), some (.ref 4), none] (zH (zui I 19 1 5) (zPr 5)) (some (.int 1)) (zH (zui (g_M_copy 4 5 6 7 25 26 27 28 (zui I 19 1 5)) 19 1 (((g_M_copy 4 5 6 7 25 26 27 28 (zui I 19 1 5)) 19 1) - 1)) (zPr 5)) := by
  unfold Wf
  refine wp_blk (pc' := 1) (L' := [some (.ref 19), some (.ref 4), none]) (st' := [.ref 19]) (h' := zH (zui I 19 1 5) (zPr 5)) 1 rfl ?_
  refine wp_blk (pc' := 2) (L' := [some (.ref 19), some (.ref 4), none]) (st' := [.ref 19, .ref 19]) (h' := zH (zui I 19 1 5) (zPr 5)) 1 rfl ?_
  refine wp_blk (pc' := 5) (L' := [some (.ref 19), some (.ref 4), none]) (st' := [.int 5, .ref 19]) (h' := zH (zui I 19 1 5) (zPr 5)) 1 rfl ?_
  refine wp_blk (pc' := 6) (L' := [some (.ref 19), some (.ref 4), none]) (st' := [.int 1, .int 5, .ref 19]) (h' := zH (zui I 19 1 5) (zPr 5)) 1 rfl ?_
  refine wp_blk (pc' := 7) (L' := [some (.ref 19), some (.ref 4), none]) (st' := [.int 4, .ref 19]) (h' := zH (zui I 19 1 5) (zPr 5)) 1 rfl ?_
  refine wp_callf (d := 68) (as := [.ref 19, .int 4]) (rest := []) (Ld := [some (.ref 19), some (.int 4)]) (pc' := 10) (st' := [.ref 25]) (r := some (.ref 25)) (h1 := zH (zui I 19 1 5) (zPr 5)) rfl rfl rfl rfl rfl rfl rfl rfl rfl (sp_at19_5_4 (X := X) (zui I 19 1 5)) ?_
  refine wp_blk (pc' := 11) (L' := [some (.ref 19), some (.ref 4), some (.ref 25)]) (st' := []) (h' := zH (zui I 19 1 5) (zPr 5)) 1 rfl ?_
  refine wp_blk (pc' := 12) (L' := [some (.ref 19), some (.ref 4), some (.ref 25)]) (st' := [.ref 25]) (h' := zH (zui I 19 1 5) (zPr 5)) 1 rfl ?_
  refine wp_blk (pc' := 17) (L' := [some (.ref 19), some (.ref 4), some (.ref 25)]) (st' := []) (h' := zH (zui I 19 1 5) (zPr 5)) 1 rfl ?_
  refine wp_blk (pc' := 18) (L' := [some (.ref 19), some (.ref 4), some (.ref 25)]) (st' := [.ref 4]) (h' := zH (zui I 19 1 5) (zPr 5)) 1 rfl ?_
  refine wp_blk (pc' := 19) (L' := [some (.ref 19), some (.ref 4), some (.ref 25)]) (st' := [.ref 25, .ref 4]) (h' := zH (zui I 19 1 5) (zPr 5)) 1 rfl ?_
  refine wp_callf (d := 37) (as := [.ref 4, .ref 25]) (rest := []) (Ld := [some (.ref 4), some (.ref 25)]) (pc' := 22) (st' := []) (r := none) (h1 := zH (g_M_copy 4 5 6 7 25 26 27 28 (zui I 19 1 5)) (zPr 5)) rfl rfl rfl rfl rfl rfl rfl rfl rfl (xp_M_copy_4_25 _ _ (0, (g_M_copy 4 5 6 7 25 26 27 28 (zui I 19 1 5))) rfl) ?_
  refine wp_blk (pc' := 23) (L' := [some (.ref 19), some (.ref 4), some (.ref 25)]) (st' := [.ref 19]) (h' := zH (g_M_copy 4 5 6 7 25 26 27 28 (zui I 19 1 5)) (zPr 5)) 1 rfl ?_
  refine wp_blk (pc' := 24) (L' := [some (.ref 19), some (.ref 4), some (.ref 25)]) (st' := [.ref 19, .ref 19]) (h' := zH (g_M_copy 4 5 6 7 25 26 27 28 (zui I 19 1 5)) (zPr 5)) 1 rfl ?_
  refine wp_blk (pc' := 27) (L' := [some (.ref 19), some (.ref 4), some (.ref 25)]) (st' := [.int ((g_M_copy 4 5 6 7 25 26 27 28 (zui I 19 1 5)) 19 1), .ref 19]) (h' := zH (g_M_copy 4 5 6 7 25 26 27 28 (zui I 19 1 5)) (zPr 5)) 1 rfl ?_
  refine wp_blk (pc' := 28) (L' := [some (.ref 19), some (.ref 4), some (.ref 25)]) (st' := [.int 1, .int ((g_M_copy 4 5 6 7 25 26 27 28 (zui I 19 1 5)) 19 1), .ref 19]) (h' := zH (g_M_copy 4 5 6 7 25 26 27 28 (zui I 19 1 5)) (zPr 5)) 1 rfl ?_
  refine wp_blk (pc' := 29) (L' := [some (.ref 19), some (.ref 4), some (.ref 25)]) (st' := [.int (((g_M_copy 4 5 6 7 25 26 27 28 (zui I 19 1 5)) 19 1) - 1), .ref 19]) (h' := zH (g_M_copy 4 5 6 7 25 26 27 28 (zui I 19 1 5)) (zPr 5)) 1 rfl ?_
  refine wp_blk (pc' := 32) (L' := [some (.ref 19), some (.ref 4), some (.ref 25)]) (st' := []) (h' := zH (zui (g_M_copy 4 5 6 7 25 26 27 28 (zui I 19 1 5)) 19 1 (((g_M_copy 4 5 6 7 25 26 27 28 (zui I 19 1 5)) 19 1) - 1)) (zPr 5)) 1 rfl ?_
  refine wp_blk (pc' := 33) (L' := [some (.ref 19), some (.ref 4), some (.ref 25)]) (st' := [.int 1]) (h' := zH (zui (g_M_copy 4 5 6 7 25 26 27 28 (zui I 19 1 5)) 19 1 (((g_M_copy 4 5 6 7 25 26 27 28 (zui I 19 1 5)) 19 1) - 1)) (zPr 5)) 1 rfl ?_
  exact wp_end rfl rfl ⟨rfl, rfl⟩
set_option maxRecDepth 100000 in
theorem sp_put19_5_6 {X : Nat × (Nat → Int32)} (I : Nat → Nat → Int32) : Wf X 65 [some (.ref 19), some (.ref 4), none] (zH (zui I 19 1 6) (zPr 5)) none (zH (zui (g_M_copy 33 34 35 36 4 5 6 7 (zui I 19 1 6)) 19 1 (((g_M_copy 33 34 35 36 4 5 6 7 (zui I 19 1 6)) 19 1) + 1)) (zPr 5)) := by
  unfold Wf
  refine wp_blk (pc' := 1) (L' := [some (.ref 19), some (.ref 4), none]) (st' := [.ref 19]) (h' := zH (zui I 19 1 6) (zPr 5)) 1 rfl ?_
  refine wp_callf (d := 66) (as := [.ref 19]) (rest := []) (Ld := [some (.ref 19)]) (pc' := 4) (st' := [.int 0]) (r := some (.int 0)) (h1 := zH (zui I 19 1 6) (zPr 5)) rfl rfl rfl rfl rfl rfl rfl rfl rfl (sp_H1_isFull (X := X) (zui I 19 1 6) (zPr 5)) ?_
  refine wp_blk (pc' := 11) (L' := [some (.ref 19), some (.ref 4), none]) (st' := []) (h' := zH (zui I 19 1 6) (zPr 5)) 1 rfl ?_
  refine wp_blk (pc' := 12) (L' := [some (.ref 19), some (.ref 4), none]) (st' := [.ref 19]) (h' := zH (zui I 19 1 6) (zPr 5)) 1 rfl ?_
  refine wp_blk (pc' := 13) (L' := [some (.ref 19), some (.ref 4), none]) (st' := [.ref 19, .ref 19]) (h' := zH (zui I 19 1 6) (zPr 5)) 1 rfl ?_
  refine wp_blk (pc' := 16) (L' := [some (.ref 19), some (.ref 4), none]) (st' := [.int 6, .ref 19]) (h' := zH (zui I 19 1 6) (zPr 5)) 1 rfl ?_
  refine wp_callf (d := 68) (as := [.ref 19, .int 6]) (rest := []) (Ld := [some (.ref 19), some (.int 6)]) (pc' := 19) (st' := [.ref 33]) (r := some (.ref 33)) (h1 := zH (zui I 19 1 6) (zPr 5)) rfl rfl rfl rfl rfl rfl rfl rfl rfl (sp_at19_5_6 (X := X) (zui I 19 1 6)) ?_
  refine wp_blk (pc' := 20) (L' := [some (.ref 19), some (.ref 4), some (.ref 33)]) (st' := []) (h' := zH (zui I 19 1 6) (zPr 5)) 1 rfl ?_
  refine wp_blk (pc' := 21) (L' := [some (.ref 19), some (.ref 4), some (.ref 33)]) (st' := [.ref 33]) (h' := zH (zui I 19 1 6) (zPr 5)) 1 rfl ?_
  refine wp_blk (pc' := 24) (L' := [some (.ref 19), some (.ref 4), some (.ref 33)]) (st' := []) (h' := zH (zui I 19 1 6) (zPr 5)) 1 rfl ?_
  refine wp_blk (pc' := 25) (L' := [some (.ref 19), some (.ref 4), some (.ref 33)]) (st' := [.ref 33]) (h' := zH (zui I 19 1 6) (zPr 5)) 1 rfl ?_
  refine wp_blk (pc' := 26) (L' := [some (.ref 19), some (.ref 4), some (.ref 33)]) (st' := [.ref 4, .ref 33]) (h' := zH (zui I 19 1 6) (zPr 5)) 1 rfl ?_
  refine wp_callf (d := 37) (as := [.ref 33, .ref 4]) (rest := []) (Ld := [some (.ref 33), some (.ref 4)]) (pc' := 29) (st' := []) (r := none) (h1 := zH (g_M_copy 33 34 35 36 4 5 6 7 (zui I 19 1 6)) (zPr 5)) rfl rfl rfl rfl rfl rfl rfl rfl rfl (xp_M_copy_33_4 _ _ (0, (g_M_copy 33 34 35 36 4 5 6 7 (zui I 19 1 6))) rfl) ?_
  refine wp_blk (pc' := 30) (L' := [some (.ref 19), some (.ref 4), some (.ref 33)]) (st' := [.ref 19]) (h' := zH (g_M_copy 33 34 35 36 4 5 6 7 (zui I 19 1 6)) (zPr 5)) 1 rfl ?_
  refine wp_blk (pc' := 31) (L' := [some (.ref 19), some (.ref 4), some (.ref 33)]) (st' := [.ref 19, .ref 19]) (h' := zH (g_M_copy 33 34 35 36 4 5 6 7 (zui I 19 1 6)) (zPr 5)) 1 rfl ?_
  refine wp_blk (pc' := 34) (L' := [some (.ref 19), some (.ref 4), some (.ref 33)]) (st' := [.int ((g_M_copy 33 34 35 36 4 5 6 7 (zui I 19 1 6)) 19 1), .ref 19]) (h' := zH (g_M_copy 33 34 35 36 4 5 6 7 (zui I 19 1 6)) (zPr 5)) 1 rfl ?_
  refine wp_blk (pc' := 35) (L' := [some (.ref 19), some (.ref 4), some (.ref 33)]) (st' := [.int 1, .int ((g_M_copy 33 34 35 36 4 5 6 7 (zui I 19 1 6)) 19 1), .ref 19]) (h' := zH (g_M_copy 33 34 35 36 4 5 6 7 (zui I 19 1 6)) (zPr 5)) 1 rfl ?_
  refine wp_blk (pc' := 36) (L' := [some (.ref 19), some (.ref 4), some (.ref 33)]) (st' := [.int (((g_M_copy 33 34 35 36 4 5 6 7 (zui I 19 1 6)) 19 1) + 1), .ref 19]) (h' := zH (g_M_copy 33 34 35 36 4 5 6 7 (zui I 19 1 6)) (zPr 5)) 1 rfl ?_
  refine wp_blk (pc' := 39) (L' := [some (.ref 19), some (.ref 4), some (.ref 33)]) (st' := []) (h' := zH (zui (g_M_copy 33 34 35 36 4 5 6 7 (zui I 19 1 6)) 19 1 (((g_M_copy 33 34 35 36 4 5 6 7 (zui I 19 1 6)) 19 1) + 1)) (zPr 5)) 1 rfl ?_
  exact wp_end rfl rfl ⟨rfl, rfl⟩
set_option maxRecDepth 100000 in
theorem sp_take19_5_6 {X : Nat × (Nat → Int32)} (I : Nat → Nat → Int32) : Wf X 79 [some (.ref 19), some (.ref 4), none] (zH (zui I 19 1 6) (zPr 5)) (some (.int 1)) (zH (zui (g_M_copy 4 5 6 7 29 30 31 32 (zui I 19 1 6)) 19 1 (((g_M_copy 4 5 6 7 29 30 31 32 (zui I 19 1 6)) 19 1) - 1)) (zPr 5)) := by
  unfold Wf
  refine wp_blk (pc' := 1) (L' := [some (.ref 19), some (.ref 4), none]) (st' := [.ref 19]) (h' := zH (zui I 19 1 6) (zPr 5)) 1 rfl ?_
  refine wp_blk (pc' := 2) (L' := [some (.ref 19), some (.ref 4), none]) (st' := [.ref 19, .ref 19]) (h' := zH (zui I 19 1 6) (zPr 5)) 1 rfl ?_
  refine wp_blk (pc' := 5) (L' := [some (.ref 19), some (.ref 4), none]) (st' := [.int 6, .ref 19]) (h' := zH (zui I 19 1 6) (zPr 5)) 1 rfl ?_
  refine wp_blk (pc' := 6) (L' := [some (.ref 19), some (.ref 4), none]) (st' := [.int 1, .int 6, .ref 19]) (h' := zH (zui I 19 1 6) (zPr 5)) 1 rfl ?_
  refine wp_blk (pc' := 7) (L' := [some (.ref 19), some (.ref 4), none]) (st' := [.int 5, .ref 19]) (h' := zH (zui I 19 1 6) (zPr 5)) 1 rfl ?_
  refine wp_callf (d := 68) (as := [.ref 19, .int 5]) (rest := []) (Ld := [some (.ref 19), some (.int 5)]) (pc' := 10) (st' := [.ref 29]) (r := some (.ref 29)) (h1 := zH (zui I 19 1 6) (zPr 5)) rfl rfl rfl rfl rfl rfl rfl rfl rfl (sp_at19_5_5 (X := X) (zui I 19 1 6)) ?_
  refine wp_blk (pc' := 11) (L' := [some (.ref 19), some (.ref 4), some (.ref 29)]) (st' := []) (h' := zH (zui I 19 1 6) (zPr 5)) 1 rfl ?_
  refine wp_blk (pc' := 12) (L' := [some (.ref 19), some (.ref 4), some (.ref 29)]) (st' := [.ref 29]) (h' := zH (zui I 19 1 6) (zPr 5)) 1 rfl ?_
  refine wp_blk (pc' := 17) (L' := [some (.ref 19), some (.ref 4), some (.ref 29)]) (st' := []) (h' := zH (zui I 19 1 6) (zPr 5)) 1 rfl ?_
  refine wp_blk (pc' := 18) (L' := [some (.ref 19), some (.ref 4), some (.ref 29)]) (st' := [.ref 4]) (h' := zH (zui I 19 1 6) (zPr 5)) 1 rfl ?_
  refine wp_blk (pc' := 19) (L' := [some (.ref 19), some (.ref 4), some (.ref 29)]) (st' := [.ref 29, .ref 4]) (h' := zH (zui I 19 1 6) (zPr 5)) 1 rfl ?_
  refine wp_callf (d := 37) (as := [.ref 4, .ref 29]) (rest := []) (Ld := [some (.ref 4), some (.ref 29)]) (pc' := 22) (st' := []) (r := none) (h1 := zH (g_M_copy 4 5 6 7 29 30 31 32 (zui I 19 1 6)) (zPr 5)) rfl rfl rfl rfl rfl rfl rfl rfl rfl (xp_M_copy_4_29 _ _ (0, (g_M_copy 4 5 6 7 29 30 31 32 (zui I 19 1 6))) rfl) ?_
  refine wp_blk (pc' := 23) (L' := [some (.ref 19), some (.ref 4), some (.ref 29)]) (st' := [.ref 19]) (h' := zH (g_M_copy 4 5 6 7 29 30 31 32 (zui I 19 1 6)) (zPr 5)) 1 rfl ?_
  refine wp_blk (pc' := 24) (L' := [some (.ref 19), some (.ref 4), some (.ref 29)]) (st' := [.ref 19, .ref 19]) (h' := zH (g_M_copy 4 5 6 7 29 30 31 32 (zui I 19 1 6)) (zPr 5)) 1 rfl ?_
  refine wp_blk (pc' := 27) (L' := [some (.ref 19), some (.ref 4), some (.ref 29)]) (st' := [.int ((g_M_copy 4 5 6 7 29 30 31 32 (zui I 19 1 6)) 19 1), .ref 19]) (h' := zH (g_M_copy 4 5 6 7 29 30 31 32 (zui I 19 1 6)) (zPr 5)) 1 rfl ?_
  refine wp_blk (pc' := 28) (L' := [some (.ref 19), some (.ref 4), some (.ref 29)]) (st' := [.int 1, .int ((g_M_copy 4 5 6 7 29 30 31 32 (zui I 19 1 6)) 19 1), .ref 19]) (h' := zH (g_M_copy 4 5 6 7 29 30 31 32 (zui I 19 1 6)) (zPr 5)) 1 rfl ?_
  refine wp_blk (pc' := 29) (L' := [some (.ref 19), some (.ref 4), some (.ref 29)]) (st' := [.int (((g_M_copy 4 5 6 7 29 30 31 32 (zui I 19 1 6)) 19 1) - 1), .ref 19]) (h' := zH (g_M_copy 4 5 6 7 29 30 31 32 (zui I 19 1 6)) (zPr 5)) 1 rfl ?_
  refine wp_blk (pc' := 32) (L' := [some (.ref 19), some (.ref 4), some (.ref 29)]) (st' := []) (h' := zH (zui (g_M_copy 4 5 6 7 29 30 31 32 (zui I 19 1 6)) 19 1 (((g_M_copy 4 5 6 7 29 30 31 32 (zui I 19 1 6)) 19 1) - 1)) (zPr 5)) 1 rfl ?_
  refine wp_blk (pc' := 33) (L' := [some (.ref 19), some (.ref 4), some (.ref 29)]) (st' := [.int 1]) (h' := zH (zui (g_M_copy 4 5 6 7 29 30 31 32 (zui I 19 1 6)) 19 1 (((g_M_copy 4 5 6 7 29 30 31 32 (zui I 19 1 6)) 19 1) - 1)) (zPr 5)) 1 rfl ?_
  exact wp_end rfl rfl ⟨rfl, rfl⟩
set_option maxRecDepth 100000 in
theorem sp_put19_5_7 {X : Nat × (Nat → Int32)} (I : Nat → Nat → Int32) : Wf X 65 [some (.ref 19), some (.ref 4), none] (zH (zui I 19 1 7) (zPr 5)) none (zH (zui (g_M_copy 37 38 39 40 4 5 6 7 (zui I 19 1 7)) 19 1 (((g_M_copy 37 38 39 40 4 5 6 7 (zui I 19 1 7)) 19 1) + 1)) (zPr 5)) := by
  unfold Wf
  refine wp_blk (pc' := 1) (L' := [some (.ref 19), some (.ref 4), none]) (st' := [.ref 19]) (h' := zH (zui I 19 1 7) (zPr 5)) 1 rfl ?_
  refine wp_callf (d := 66) (as := [.ref 19]) (rest := []) (Ld := [some (.ref 19)]) (pc' := 4) (st' := [.int 0]) (r := some (.int 0)) (h1 := zH (zui I 19 1 7) (zPr 5)) rfl rfl rfl rfl rfl rfl rfl rfl rfl (sp_H1_isFull (X := X) (zui I 19 1 7) (zPr 5)) ?_
  refine wp_blk (pc' := 11) (L' := [some (.ref 19), some (.ref 4), none]) (st' := []) (h' := zH (zui I 19 1 7) (zPr 5)) 1 rfl ?_
  refine wp_blk (pc' := 12) (L' := [some (.ref 19), some (.ref 4), none]) (st' := [.ref 19]) (h' := zH (zui I 19 1 7) (zPr 5)) 1 rfl ?_
  refine wp_blk (pc' := 13) (L' := [some (.ref 19), some (.ref 4), none]) (st' := [.ref 19, .ref 19]) (h' := zH (zui I 19 1 7) (zPr 5)) 1 rfl ?_
  refine wp_blk (pc' := 16) (L' := [some (.ref 19), some (.ref 4), none]) (st' := [.int 7, .ref 19]) (h' := zH (zui I 19 1 7) (zPr 5)) 1 rfl ?_
  refine wp_callf (d := 68) (as := [.ref 19, .int 7]) (rest := []) (Ld := [some (.ref 19), some (.int 7)]) (pc' := 19) (st' := [.ref 37]) (r := some (.ref 37)) (h1 := zH (zui I 19 1 7) (zPr 5)) rfl rfl rfl rfl rfl rfl rfl rfl rfl (sp_at19_5_7 (X := X) (zui I 19 1 7)) ?_
  refine wp_blk (pc' := 20) (L' := [some (.ref 19), some (.ref 4), some (.ref 37)]) (st' := []) (h' := zH (zui I 19 1 7) (zPr 5)) 1 rfl ?_
  refine wp_blk (pc' := 21) (L' := [some (.ref 19), some (.ref 4), some (.ref 37)]) (st' := [.ref 37]) (h' := zH (zui I 19 1 7) (zPr 5)) 1 rfl ?_
  refine wp_blk (pc' := 24) (L' := [some (.ref 19), some (.ref 4), some (.ref 37)]) (st' := []) (h' := zH (zui I 19 1 7) (zPr 5)) 1 rfl ?_
  refine wp_blk (pc' := 25) (L' := [some (.ref 19), some (.ref 4), some (.ref 37)]) (st' := [.ref 37]) (h' := zH (zui I 19 1 7) (zPr 5)) 1 rfl ?_
  refine wp_blk (pc' := 26) (L' := [some (.ref 19), some (.ref 4), some (.ref 37)]) (st' := [.ref 4, .ref 37]) (h' := zH (zui I 19 1 7) (zPr 5)) 1 rfl ?_
  refine wp_callf (d := 37) (as := [.ref 37, .ref 4]) (rest := []) (Ld := [some (.ref 37), some (.ref 4)]) (pc' := 29) (st' := []) (r := none) (h1 := zH (g_M_copy 37 38 39 40 4 5 6 7 (zui I 19 1 7)) (zPr 5)) rfl rfl rfl rfl rfl rfl rfl rfl rfl (xp_M_copy_37_4 _ _ (0, (g_M_copy 37 38 39 40 4 5 6 7 (zui I 19 1 7))) rfl) ?_
  refine wp_blk (pc' := 30) (L' := [some (.ref 19), some (.ref 4), some (.ref 37)]) (st' := [.ref 19]) (h' := zH (g_M_copy 37 38 39 40 4 5 6 7 (zui I 19 1 7)) (zPr 5)) 1 rfl ?_
  refine wp_blk (pc' := 31) (L' := [some (.ref 19), some (.ref 4), some (.ref 37)]) (st' := [.ref 19, .ref 19]) (h' := zH (g_M_copy 37 38 39 40 4 5 6 7 (zui I 19 1 7)) (zPr 5)) 1 rfl ?_
  refine wp_blk (pc' := 34) (L' := [some (.ref 19), some (.ref 4), some (.ref 37)]) (st' := [.int ((g_M_copy 37 38 39 40 4 5 6 7 (zui I 19 1 7)) 19 1), .ref 19]) (h' := zH (g_M_copy 37 38 39 40 4 5 6 7 (zui I 19 1 7)) (zPr 5)) 1 rfl ?_
  refine wp_blk (pc' := 35) (L' := [some (.ref 19), some (.ref 4), some (.ref 37)]) (st' := [.int 1, .int ((g_M_copy 37 38 39 40 4 5 6 7 (zui I 19 1 7)) 19 1), .ref 19]) (h' := zH (g_M_copy 37 38 39 40 4 5 6 7 (zui I 19 1 7)) (zPr 5)) 1 rfl ?_
  refine wp_blk (pc' := 36) (L' := [some (.ref 19), some (.ref 4), some (.ref 37)]) (st' := [.int (((g_M_copy 37 38 39 40 4 5 6 7 (zui I 19 1 7)) 19 1) + 1), .ref 19]) (h' := zH (g_M_copy 37 38 39 40 4 5 6 7 (zui I 19 1 7)) (zPr 5)) 1 rfl ?_
  refine wp_blk (pc' := 39) (L' := [some (.ref 19), some (.ref 4), some (.ref 37)]) (st' := []) (h' := zH (zui (g_M_copy 37 38 39 40 4 5 6 7 (zui I 19 1 7)) 19 1 (((g_M_copy 37 38 39 40 4 5 6 7 (zui I 19 1 7)) 19 1) + 1)) (zPr 5)) 1 rfl ?_
  exact wp_end rfl rfl ⟨rfl, rfl⟩
set_option maxRecDepth 100000 in
theorem sp_take19_5_7 {X : Nat × (Nat → Int32)} (I : Nat → Nat → Int32) : Wf X 79 [some (.ref 19), some (.ref 4), none] (zH (zui I 19 1 7) (zPr 5)) (some (.int 1)) (zH (zui (g_M_copy 4 5 6 7 33 34 35 36 (zui I 19 1 7)) 19 1 (((g_M_copy 4 5 6 7 33 34 35 36 (zui I 19 1 7)) 19 1) - 1)) (zPr 5)) := by
  unfold Wf
  refine wp_blk (pc' := 1) (L' := [some (.ref 19), some (.ref 4), none]) (st' := [.ref 19]) (h' := zH (zui I 19 1 7) (zPr 5)) 1 rfl ?_
  refine wp_blk (pc' := 2) (L' := [some (.ref 19), some (.ref 4), none]) (st' := [.ref 19, .ref 19]) (h' := zH (zui I 19 1 7) (zPr 5)) 1 rfl ?_
  refine wp_blk (pc' := 5) (L' := [some (.ref 19), some (.ref 4), none]) (st' := [.int 7, .ref 19]) (h' := zH (zui I 19 1 7) (zPr 5)) 1 rfl ?_
  refine wp_blk (pc' := 6) (L' := [some (.ref 19), some (.ref 4), none]) (st' := [.int 1, .int 7, .ref 19]) (h' := zH (zui I 19 1 7) (zPr 5)) 1 rfl ?_
  refine wp_blk (pc' := 7) (L' := [some (.ref 19), some (.ref 4), none]) (st' := [.int 6, .ref 19]) (h' := zH (zui I 19 1 7) (zPr 5)) 1 rfl ?_
  refine wp_callf (d := 68) (as := [.ref 19, .int 6]) (rest := []) (Ld := [some (.ref 19), some (.int 6)]) (pc' := 10) (st' := [.ref 33]) (r := some (.ref 33)) (h1 := zH (zui I 19 1 7) (zPr 5)) rfl rfl rfl rfl rfl rfl rfl rfl rfl (sp_at19_5_6 (X := X) (zui I 19 1 7)) ?_
  refine wp_blk (pc' := 11) (L' := [some (.ref 19), some (.ref 4), some (.ref 33)]) (st' := []) (h' := zH (zui I 19 1 7) (zPr 5)) 1 rfl ?_
  refine wp_blk (pc' := 12) (L' := [some (.ref 19), some (.ref 4), some (.ref 33)]) (st' := [.ref 33]) (h' := zH (zui I 19 1 7) (zPr 5)) 1 rfl ?_
  refine wp_blk (pc' := 17) (L' := [some (.ref 19), some (.ref 4), some (.ref 33)]) (st' := []) (h' := zH (zui I 19 1 7) (zPr 5)) 1 rfl ?_
  refine wp_blk (pc' := 18) (L' := [some (.ref 19), some (.ref 4), some (.ref 33)]) (st' := [.ref 4]) (h' := zH (zui I 19 1 7) (zPr 5)) 1 rfl ?_
  refine wp_blk (pc' := 19) (L' := [some (.ref 19), some (.ref 4), some (.ref 33)]) (st' := [.ref 33, .ref 4]) (h' := zH (zui I 19 1 7) (zPr 5)) 1 rfl ?_
  refine wp_callf (d := 37) (as := [.ref 4, .ref 33]) (rest := []) (Ld := [some (.ref 4), some (.ref 33)]) (pc' := 22) (st' := []) (r := none) (h1 := zH (g_M_copy 4 5 6 7 33 34 35 36 (zui I 19 1 7)) (zPr 5)) rfl rfl rfl rfl rfl rfl rfl rfl rfl (xp_M_copy_4_33 _ _ (0, (g_M_copy 4 5 6 7 33 34 35 36 (zui I 19 1 7))) rfl) ?_
  refine wp_blk (pc' := 23) (L' := [some (.ref 19), some (.ref 4), some (.ref 33)]) (st' := [.ref 19]) (h' := zH (g_M_copy 4 5 6 7 33 34 35 36 (zui I 19 1 7)) (zPr 5)) 1 rfl ?_
  refine wp_blk (pc' := 24) (L' := [some (.ref 19), some (.ref 4), some (.ref 33)]) (st' := [.ref 19, .ref 19]) (h' := zH (g_M_copy 4 5 6 7 33 34 35 36 (zui I 19 1 7)) (zPr 5)) 1 rfl ?_
  refine wp_blk (pc' := 27) (L' := [some (.ref 19), some (.ref 4), some (.ref 33)]) (st' := [.int ((g_M_copy 4 5 6 7 33 34 35 36 (zui I 19 1 7)) 19 1), .ref 19]) (h' := zH (g_M_copy 4 5 6 7 33 34 35 36 (zui I 19 1 7)) (zPr 5)) 1 rfl ?_
  refine wp_blk (pc' := 28) (L' := [some (.ref 19), some (.ref 4), some (.ref 33)]) (st' := [.int 1, .int ((g_M_copy 4 5 6 7 33 34 35 36 (zui I 19 1 7)) 19 1), .ref 19]) (h' := zH (g_M_copy 4 5 6 7 33 34 35 36 (zui I 19 1 7)) (zPr 5)) 1 rfl ?_
  refine wp_blk (pc' := 29) (L' := [some (.ref 19), some (.ref 4), some (.ref 33)]) (st' := [.int (((g_M_copy 4 5 6 7 33 34 35 36 (zui I 19 1 7)) 19 1) - 1), .ref 19]) (h' := zH (g_M_copy 4 5 6 7 33 34 35 36 (zui I 19 1 7)) (zPr 5)) 1 rfl ?_
  refine wp_blk (pc' := 32) (L' := [some (.ref 19), some (.ref 4), some (.ref 33)]) (st' := []) (h' := zH (zui (g_M_copy 4 5 6 7 33 34 35 36 (zui I 19 1 7)) 19 1 (((g_M_copy 4 5 6 7 33 34 35 36 (zui I 19 1 7)) 19 1) - 1)) (zPr 5)) 1 rfl ?_
  refine wp_blk (pc' := 33) (L' := [some (.ref 19), some (.ref 4), some (.ref 33)]) (st' := [.int 1]) (h' := zH (zui (g_M_copy 4 5 6 7 33 34 35 36 (zui I 19 1 7)) 19 1 (((g_M_copy 4 5 6 7 33 34 35 36 (zui I 19 1 7)) 19 1) - 1)) (zPr 5)) 1 rfl ?_
  exact wp_end rfl rfl ⟨rfl, rfl⟩
set_option maxRecDepth 100000 in
theorem sp_put19_5_8 {X : Nat × (Nat → Int32)} (I : Nat → Nat → Int32) : Wf X 65 [some (.ref 19), some (.ref 4), none] (zH (zui I 19 1 8) (zPr 5)) none (zH (zui (g_M_copy 41 42 43 44 4 5 6 7 (zui (zui I 19 1 8) 19 1 7)) 19 1 (((g_M_copy 41 42 43 44 4 5 6 7 (zui (zui I 19 1 8) 19 1 7)) 19 1) + 1)) (zPr 6)) := by
  unfold Wf
  refine wp_blk (pc' := 1) (L' := [some (.ref 19), some (.ref 4), none]) (st' := [.ref 19]) (h' := zH (zui I 19 1 8) (zPr 5)) 1 rfl ?_
  refine wp_callf (d := 66) (as := [.ref 19]) (rest := []) (Ld := [some (.ref 19)]) (pc' := 4) (st' := [.int 1]) (r := some (.int 1)) (h1 := zH (zui I 19 1 8) (zPr 5)) rfl rfl rfl rfl rfl rfl rfl rfl rfl (sp_H1_isFull (X := X) (zui I 19 1 8) (zPr 5)) ?_
  refine wp_blk (pc' := 7) (L' := [some (.ref 19), some (.ref 4), none]) (st' := []) (h' := zH (zui I 19 1 8) (zPr 5)) 1 rfl ?_
  refine wp_blk (pc' := 8) (L' := [some (.ref 19), some (.ref 4), none]) (st' := [.ref 19]) (h' := zH (zui I 19 1 8) (zPr 5)) 1 rfl ?_
  refine wp_callf (d := 67) (as := [.ref 19]) (rest := []) (Ld := [some (.ref 19), none, none]) (pc' := 11) (st' := []) (r := none) (h1 := zH (zui (zui I 19 1 8) 19 1 7) (zPr 6)) rfl rfl rfl rfl rfl rfl rfl rfl rfl (sp_drop_5 (X := X) (zui I 19 1 8)) ?_
  refine wp_blk (pc' := 12) (L' := [some (.ref 19), some (.ref 4), none]) (st' := [.ref 19]) (h' := zH (zui (zui I 19 1 8) 19 1 7) (zPr 6)) 1 rfl ?_
  refine wp_blk (pc' := 13) (L' := [some (.ref 19), some (.ref 4), none]) (st' := [.ref 19, .ref 19]) (h' := zH (zui (zui I 19 1 8) 19 1 7) (zPr 6)) 1 rfl ?_
  refine wp_blk (pc' := 16) (L' := [some (.ref 19), some (.ref 4), none]) (st' := [.int 7, .ref 19]) (h' := zH (zui (zui I 19 1 8) 19 1 7) (zPr 6)) 1 rfl ?_
  refine wp_callf (d := 68) (as := [.ref 19, .int 7]) (rest := []) (Ld := [some (.ref 19), some (.int 7)]) (pc' := 19) (st' := [.ref 41]) (r := some (.ref 41)) (h1 := zH (zui (zui I 19 1 8) 19 1 7) (zPr 6)) rfl rfl rfl rfl rfl rfl rfl rfl rfl (sp_at19_6_7 (X := X) (zui (zui I 19 1 8) 19 1 7)) ?_
  refine wp_blk (pc' := 20) (L' := [some (.ref 19), some (.ref 4), some (.ref 41)]) (st' := []) (h' := zH (zui (zui I 19 1 8) 19 1 7) (zPr 6)) 1 rfl ?_
  refine wp_blk (pc' := 21) (L' := [some (.ref 19), some (.ref 4), some (.ref 41)]) (st' := [.ref 41]) (h' := zH (zui (zui I 19 1 8) 19 1 7) (zPr 6)) 1 rfl ?_
  refine wp_blk (pc' := 24) (L' := [some (.ref 19), some (.ref 4), some (.ref 41)]) (st' := []) (h' := zH (zui (zui I 19 1 8) 19 1 7) (zPr 6)) 1 rfl ?_
  refine wp_blk (pc' := 25) (L' := [some (.ref 19), some (.ref 4), some (.ref 41)]) (st' := [.ref 41]) (h' := zH (zui (zui I 19 1 8) 19 1 7) (zPr 6)) 1 rfl ?_
  refine wp_blk (pc' := 26) (L' := [some (.ref 19), some (.ref 4), some (.ref 41)]) (st' := [.ref 4, .ref 41]) (h' := zH (zui (zui I 19 1 8) 19 1 7) (zPr 6)) 1 rfl ?_
  refine wp_callf (d := 37) (as := [.ref 41, .ref 4]) (rest := []) (Ld := [some (.ref 41), some (.ref 4)]) (pc' := 29) (st' := []) (r := none) (h1 := zH (g_M_copy 41 42 43 44 4 5 6 7 (zui (zui I 19 1 8) 19 1 7)) (zPr 6)) rfl rfl rfl rfl rfl rfl rfl rfl rfl (xp_M_copy_41_4 _ _ (0, (g_M_copy 41 42 43 44 4 5 6 7 (zui (zui I 19 1 8) 19 1 7))) rfl) ?_
  refine wp_blk (pc' := 30) (L' := [some (.ref 19), some (.ref 4), some (.ref 41)]) (st' := [.ref 19]) (h' := zH (g_M_copy 41 42 43 44 4 5 6 7 (zui (zui I 19 1 8) 19 1 7)) (zPr 6)) 1 rfl ?_
  refine wp_blk (pc' := 31) (L' := [some (.ref 19), some (.ref 4), some (.ref 41)]) (st' := [.ref 19, .ref 19]) (h' := zH (g_M_copy 41 42 43 44 4 5 6 7 (zui (zui I 19 1 8) 19 1 7)) (zPr 6)) 1 rfl ?_
  refine wp_blk (pc' := 34) (L' := [some (.ref 19), some (.ref 4), some (.ref 41)]) (st' := [.int ((g_M_copy 41 42 43 44 4 5 6 7 (zui (zui I 19 1 8) 19 1 7)) 19 1), .ref 19]) (h' := zH (g_M_copy 41 42 43 44 4 5 6 7 (zui (zui I 19 1 8) 19 1 7)) (zPr 6)) 1 rfl ?_
  refine wp_blk (pc' := 35) (L' := [some (.ref 19), some (.ref 4), some (.ref 41)]) (st' := [.int 1, .int ((g_M_copy 41 42 43 44 4 5 6 7 (zui (zui I 19 1 8) 19 1 7)) 19 1), .ref 19]) (h' := zH (g_M_copy 41 42 43 44 4 5 6 7 (zui (zui I 19 1 8) 19 1 7)) (zPr 6)) 1 rfl ?_
  refine wp_blk (pc' := 36) (L' := [some (.ref 19), some (.ref 4), some (.ref 41)]) (st' := [.int (((g_M_copy 41 42 43 44 4 5 6 7 (zui (zui I 19 1 8) 19 1 7)) 19 1) + 1), .ref 19]) (h' := zH (g_M_copy 41 42 43 44 4 5 6 7 (zui (zui I 19 1 8) 19 1 7)) (zPr 6)) 1 rfl ?_
  refine wp_blk (pc' := 39) (L' := [some (.ref 19), some (.ref 4), some (.ref 41)]) (st' := []) (h' := zH (zui (g_M_copy 41 42 43 44 4 5 6 7 (zui (zui I 19 1 8) 19 1 7)) 19 1 (((g_M_copy 41 42 43 44 4 5 6 7 (zui (zui I 19 1 8) 19 1 7)) 19 1) + 1)) (zPr 6)) 1 rfl ?_
  exact wp_end rfl rfl ⟨rfl, rfl⟩
set_option maxRecDepth 100000 in
theorem sp_take19_5_8 {X : Nat × (Nat → Int32)} (I : Nat → Nat → Int32) : Wf X 79 [some (.ref 19), some (.ref 4), none] (zH (zui I 19 1 8) (zPr 5)) (some (.int 1)) (zH (zui (g_M_copy 4 5 6 7 37 38 39 40 (zui I 19 1 8)) 19 1 (((g_M_copy 4 5 6 7 37 38 39 40 (zui I 19 1 8)) 19 1) - 1)) (zPr 5)) := by
  unfold Wf
  refine wp_blk (pc' := 1) (L' := [some (.ref 19), some (.ref 4), none]) (st' := [.ref 19]) (h' := zH (zui I 19 1 8) (zPr 5)) 1 rfl ?_
  refine wp_blk (pc' := 2) (L' := [some (.ref 19), some (.ref 4), none]) (st' := [.ref 19, .ref 19]) (h' := zH (zui I 19 1 8) (zPr 5)) 1 rfl ?_
  refine wp_blk (pc' := 5) (L' := [some (.ref 19), some (.ref 4), none]) (st' := [.int 8, .ref 19]) (h' := zH (zui I 19 1 8) (zPr 5)) 1 rfl ?_
  refine wp_blk (pc' := 6) (L' := [some (.ref 19), some (.ref 4), none]) (st' := [.int 1, .int 8, .ref 19]) (h' := zH (zui I 19 1 8) (zPr 5)) 1 rfl ?_
  refine wp_blk (pc' := 7) (L' := [some (.ref 19), some (.ref 4), none]) (st' := [.int 7, .ref 19]) (h' := zH (zui I 19 1 8) (zPr 5)) 1 rfl ?_
  refine wp_callf (d := 68) (as := [.ref 19, .int 7]) (rest := []) (Ld := [some (.ref 19), some (.int 7)]) (pc' := 10) (st' := [.ref 37]) (r := some (.ref 37)) (h1 := zH (zui I 19 1 8) (zPr 5)) rfl rfl rfl rfl rfl rfl rfl rfl rfl (sp_at19_5_7 (X := X) (zui I 19 1 8)) ?_
  refine wp_blk (pc' := 11) (L' := [some (.ref 19), some (.ref 4), some (.ref 37)]) (st' := []) (h' := zH (zui I 19 1 8) (zPr 5)) 1 rfl ?_
  refine wp_blk (pc' := 12) (L' := [some (.ref 19), some (.ref 4), some (.ref 37)]) (st' := [.ref 37]) (h' := zH (zui I 19 1 8) (zPr 5)) 1 rfl ?_
  refine wp_blk (pc' := 17) (L' := [some (.ref 19), some (.ref 4), some (.ref 37)]) (st' := []) (h' := zH (zui I 19 1 8) (zPr 5)) 1 rfl ?_
  refine wp_blk (pc' := 18) (L' := [some (.ref 19), some (.ref 4), some (.ref 37)]) (st' := [.ref 4]) (h' := zH (zui I 19 1 8) (zPr 5)) 1 rfl ?_
  refine wp_blk (pc' := 19) (L' := [some (.ref 19), some (.ref 4), some (.ref 37)]) (st' := [.ref 37, .ref 4]) (h' := zH (zui I 19 1 8) (zPr 5)) 1 rfl ?_
  refine wp_callf (d := 37) (as := [.ref 4, .ref 37]) (rest := []) (Ld := [some (.ref 4), some (.ref 37)]) (pc' := 22) (st' := []) (r := none) (h1 := zH (g_M_copy 4 5 6 7 37 38 39 40 (zui I 19 1 8)) (zPr 5)) rfl rfl rfl rfl rfl rfl rfl rfl rfl (xp_M_copy_4_37 _ _ (0, (g_M_copy 4 5 6 7 37 38 39 40 (zui I 19 1 8))) rfl) ?_
  refine wp_blk (pc' := 23) (L' := [some (.ref 19), some (.ref 4), some (.ref 37)]) (st' := [.ref 19]) (h' := zH (g_M_copy 4 5 6 7 37 38 39 40 (zui I 19 1 8)) (zPr 5)) 1 rfl ?_
  refine wp_blk (pc' := 24) (L' := [some (.ref 19), some (.ref 4), some (.ref 37)]) (st' := [.ref 19, .ref 19]) (h' := zH (g_M_copy 4 5 6 7 37 38 39 40 (zui I 19 1 8)) (zPr 5)) 1 rfl ?_
  refine wp_blk (pc' := 27) (L' := [some (.ref 19), some (.ref 4), some (.ref 37)]) (st' := [.int ((g_M_copy 4 5 6 7 37 38 39 40 (zui I 19 1 8)) 19 1), .ref 19]) (h' := zH (g_M_copy 4 5 6 7 37 38 39 40 (zui I 19 1 8)) (zPr 5)) 1 rfl ?_
  refine wp_blk (pc' := 28) (L' := [some (.ref 19), some (.ref 4), some (.ref 37)]) (st' := [.int 1, .int ((g_M_copy 4 5 6 7 37 38 39 40 (zui I 19 1 8)) 19 1), .ref 19]) (h' := zH (g_M_copy 4 5 6 7 37 38 39 40 (zui I 19 1 8)) (zPr 5)) 1 rfl ?_
  refine wp_blk (pc' := 29) (L' := [some (.ref 19), some (.ref 4), some (.ref 37)]) (st' := [.int (((g_M_copy 4 5 6 7 37 38 39 40 (zui I 19 1 8)) 19 1) - 1), .ref 19]) (h' := zH (g_M_copy 4 5 6 7 37 38 39 40 (zui I 19 1 8)) (zPr 5)) 1 rfl ?_
  refine wp_blk (pc' := 32) (L' := [some (.ref 19), some (.ref 4), some (.ref 37)]) (st' := []) (h' := zH (zui (g_M_copy 4 5 6 7 37 38 39 40 (zui I 19 1 8)) 19 1 (((g_M_copy 4 5 6 7 37 38 39 40 (zui I 19 1 8)) 19 1) - 1)) (zPr 5)) 1 rfl ?_
  refine wp_blk (pc' := 33) (L' := [some (.ref 19), some (.ref 4), some (.ref 37)]) (st' := [.int 1]) (h' := zH (zui (g_M_copy 4 5 6 7 37 38 39 40 (zui I 19 1 8)) 19 1 (((g_M_copy 4 5 6 7 37 38 39 40 (zui I 19 1 8)) 19 1) - 1)) (zPr 5)) 1 rfl ?_
  exact wp_end rfl rfl ⟨rfl, rfl⟩
set_option maxRecDepth 100000 in
theorem sp_put19_6_0 {X : Nat × (Nat → Int32)} (I : Nat → Nat → Int32) : Wf X 65 [some (.ref 19), some (.ref 4), none] (zH (zui I 19 1 0) (zPr 6)) none (zH (zui (g_M_copy 45 46 47 48 4 5 6 7 (zui I 19 1 0)) 19 1 (((g_M_copy 45 46 47 48 4 5 6 7 (zui I 19 1 0)) 19 1) + 1)) (zPr 6)) := by
  unfold Wf
  refine wp_blk (pc' := 1) (L' := [some (.ref 19), some (.ref 4), none]) (st' := [.ref 19]) (h' := zH (zui I 19 1 0) (zPr 6)) 1 rfl ?_
  refine wp_callf (d := 66) (as := [.ref 19]) (rest := []) (Ld := [some (.ref 19)]) (pc' := 4) (st' := [.int 0]) (r := some (.int 0)) (h1 := zH (zui I 19 1 0) (zPr 6)) rfl rfl rfl rfl rfl rfl rfl rfl rfl (sp_H1_isFull (X := X) (zui I 19 1 0) (zPr 6)) ?_
  refine wp_blk (pc' := 11) (L' := [some (.ref 19), some (.ref 4), none]) (st' := []) (h' := zH (zui I 19 1 0) (zPr 6)) 1 rfl ?_
  refine wp_blk (pc' := 12) (L' := [some (.ref 19), some (.ref 4), none]) (st' := [.ref 19]) (h' := zH (zui I 19 1 0) (zPr 6)) 1 rfl ?_
  refine wp_blk (pc' := 13) (L' := [some (.ref 19), some (.ref 4), none]) (st' := [.ref 19, .ref 19]) (h' := zH (zui I 19 1 0) (zPr 6)) 1 rfl ?_
  refine wp_blk (pc' := 16) (L' := [some (.ref 19), some (.ref 4), none]) (st' := [.int 0, .ref 19]) (h' := zH (zui I 19 1 0) (zPr 6)) 1 rfl ?_
  refine wp_callf (d := 68) (as := [.ref 19, .int 0]) (rest := []) (Ld := [some (.ref 19), some (.int 0)]) (pc' := 19) (st' := [.ref 45]) (r := some (.ref 45)) (h1 := zH (zui I 19 1 0) (zPr 6)) rfl rfl rfl rfl rfl rfl rfl rfl rfl (sp_at19_6_0 (X := X) (zui I 19 1 0)) ?_
  refine wp_blk (pc' := 20) (L' := [some (.ref 19), some (.ref 4), some (.ref 45)]) (st' := []) (h' := zH (zui I 19 1 0) (zPr 6)) 1 rfl ?_
  refine wp_blk (pc' := 21) (L' := [some (.ref 19), some (.ref 4), some (.ref 45)]) (st' := [.ref 45]) (h' := zH (zui I 19 1 0) (zPr 6)) 1 rfl ?_
  refine wp_blk (pc' := 24) (L' := [some (.ref 19), some (.ref 4), some (.ref 45)]) (st' := []) (h' := zH (zui I 19 1 0) (zPr 6)) 1 rfl ?_
  refine wp_blk (pc' := 25) (L' := [some (.ref 19), some (.ref 4), some (.ref 45)]) (st' := [.ref 45]) (h' := zH (zui I 19 1 0) (zPr 6)) 1 rfl ?_
  refine wp_blk (pc' := 26) (L' := [some (.ref 19), some (.ref 4), some (.ref 45)]) (st' := [.ref 4, .ref 45]) (h' := zH (zui I 19 1 0) (zPr 6)) 1 rfl ?_
  refine wp_callf (d := 37) (as := [.ref 45, .ref 4]) (rest := []) (Ld := [some (.ref 45), some (.ref 4)]) (pc' := 29) (st' := []) (r := none) (h1 := zH (g_M_copy 45 46 47 48 4 5 6 7 (zui I 19 1 0)) (zPr 6)) rfl rfl rfl rfl rfl rfl rfl rfl rfl (xp_M_copy_45_4 _ _ (0, (g_M_copy 45 46 47 48 4 5 6 7 (zui I 19 1 0))) rfl) ?_
  refine wp_blk (pc' := 30) (L' := [some (.ref 19), some (.ref 4), some (.ref 45)]) (st' := [.ref 19]) (h' := zH (g_M_copy 45 46 47 48 4 5 6 7 (zui I 19 1 0)) (zPr 6)) 1 rfl ?_
  refine wp_blk (pc' := 31) (L' := [some (.ref 19), some (.ref 4), some (.ref 45)]) (st' := [.ref 19, .ref 19]) (h' := zH (g_M_copy 45 46 47 48 4 5 6 7 (zui I 19 1 0)) (zPr 6)) 1 rfl ?_
  refine wp_blk (pc' := 34) (L' := [some (.ref 19), some (.ref 4), some (.ref 45)]) (st' := [.int ((g_M_copy 45 46 47 48 4 5 6 7 (zui I 19 1 0)) 19 1), .ref 19]) (h' := zH (g_M_copy 45 46 47 48 4 5 6 7 (zui I 19 1 0)) (zPr 6)) 1 rfl ?_
  refine wp_blk (pc' := 35) (L' := [some (.ref 19), some (.ref 4), some (.ref 45)]) (st' := [.int 1, .int ((g_M_copy 45 46 47 48 4 5 6 7 (zui I 19 1 0)) 19 1), .ref 19]) (h' := zH (g_M_copy 45 46 47 48 4 5 6 7 (zui I 19 1 0)) (zPr 6)) 1 rfl ?_
  refine wp_blk (pc' := 36) (L' := [some (.ref 19), some (.ref 4), some (.ref 45)]) (st' := [.int (((g_M_copy 45 46 47 48 4 5 6 7 (zui I 19 1 0)) 19 1) + 1), .ref 19]) (h' := zH (g_M_copy 45 46 47 48 4 5 6 7 (zui I 19 1 0)) (zPr 6)) 1 rfl ?_
  refine wp_blk (pc' := 39) (L' := [some (.ref 19), some (.ref 4), some (.ref 45)]) (st' := []) (h' := zH (zui (g_M_copy 45 46 47 48 4 5 6 7 (zui I 19 1 0)) 19 1 (((g_M_copy 45 46 47 48 4 5 6 7 (zui I 19 1 0)) 19 1) + 1)) (zPr 6)) 1 rfl ?_
  exact wp_end rfl rfl ⟨rfl, rfl⟩
set_option maxRecDepth 100000 in
theorem sp_take19_6_0 {X : Nat × (Nat → Int32)} (I : Nat → Nat → Int32) : Wf X 79 [some (.ref 19), some (.ref 4), none] (zH (zui I 19 1 0) (zPr 6)) (some (.int 0)) (zH (zui I 19 1 0) (zPr 6)) := by
  unfold Wf
  refine wp_blk (pc' := 1) (L' := [some (.ref 19), some (.ref 4), none]) (st' := [.ref 19]) (h' := zH (zui I 19 1 0) (zPr 6)) 1 rfl ?_
  refine wp_blk (pc' := 2) (L' := [some (.ref 19), some (.ref 4), none]) (st' := [.ref 19, .ref 19]) (h' := zH (zui I 19 1 0) (zPr 6)) 1 rfl ?_
  refine wp_blk (pc' := 5) (L' := [some (.ref 19), some (.ref 4), none]) (st' := [.int 0, .ref 19]) (h' := zH (zui I 19 1 0) (zPr 6)) 1 rfl ?_
  refine wp_blk (pc' := 6) (L' := [some (.ref 19), some (.ref 4), none]) (st' := [.int 1, .int 0, .ref 19]) (h' := zH (zui I 19 1 0) (zPr 6)) 1 rfl ?_
  refine wp_blk (pc' := 7) (L' := [some (.ref 19), some (.ref 4), none]) (st' := [.int (-1), .ref 19]) (h' := zH (zui I 19 1 0) (zPr 6)) 1 rfl ?_
  refine wp_callf (d := 68) (as := [.ref 19, .int (-1)]) (rest := []) (Ld := [some (.ref 19), some (.int (-1))]) (pc' := 10) (st' := [.null]) (r := some (.null)) (h1 := zH (zui I 19 1 0) (zPr 6)) rfl rfl rfl rfl rfl rfl rfl rfl rfl (sp_at19_6_m (X := X) (zui I 19 1 0)) ?_
  refine wp_blk (pc' := 11) (L' := [some (.ref 19), some (.ref 4), some (.null)]) (st' := []) (h' := zH (zui I 19 1 0) (zPr 6)) 1 rfl ?_
  refine wp_blk (pc' := 12) (L' := [some (.ref 19), some (.ref 4), some (.null)]) (st' := [.null]) (h' := zH (zui I 19 1 0) (zPr 6)) 1 rfl ?_
  refine wp_blk (pc' := 15) (L' := [some (.ref 19), some (.ref 4), some (.null)]) (st' := []) (h' := zH (zui I 19 1 0) (zPr 6)) 1 rfl ?_
  refine wp_blk (pc' := 16) (L' := [some (.ref 19), some (.ref 4), some (.null)]) (st' := [.int 0]) (h' := zH (zui I 19 1 0) (zPr 6)) 1 rfl ?_
  exact wp_end rfl rfl ⟨rfl, rfl⟩
set_option maxRecDepth 100000 in
theorem sp_put19_6_1 {X : Nat × (Nat → Int32)} (I : Nat → Nat → Int32) : Wf X 65 [some (.ref 19), some (.ref 4), none] (zH (zui I 19 1 1) (zPr 6)) none (zH (zui (g_M_copy 49 50 51 52 4 5 6 7 (zui I 19 1 1)) 19 1 (((g_M_copy 49 50 51 52 4 5 6 7 (zui I 19 1 1)) 19 1) + 1)) (zPr 6)) := by
  unfold Wf
  refine wp_blk (pc' := 1) (L' := [some (.ref 19), some (.ref 4), none]) (st' := [.ref 19]) (h' := zH (zui I 19 1 1) (zPr 6)) 1 rfl ?_
  refine wp_callf (d := 66) (as := [.ref 19]) (rest := []) (Ld := [some (.ref 19)]) (pc' := 4) (st' := [.int 0]) (r := some (.int 0)) (h1 := zH (zui I 19 1 1) (zPr 6)) rfl rfl rfl rfl rfl rfl rfl rfl rfl (sp_H1_isFull (X := X) (zui I 19 1 1) (zPr 6)) ?_
  refine wp_blk (pc' := 11) (L' := [some (.ref 19), some (.ref 4), none]) (st' := []) (h' := zH (zui I 19 1 1) (zPr 6)) 1 rfl ?_
  refine wp_blk (pc' := 12) (L' := [some (.ref 19), some (.ref 4), none]) (st' := [.ref 19]) (h' := zH (zui I 19 1 1) (zPr 6)) 1 rfl ?_
  refine wp_blk (pc' := 13) (L' := [some (.ref 19), some (.ref 4), none]) (st' := [.ref 19, .ref 19]) (h' := zH (zui I 19 1 1) (zPr 6)) 1 rfl ?_
  refine wp_blk (pc' := 16) (L' := [some (.ref 19), some (.ref 4), none]) (st' := [.int 1, .ref 19]) (h' := zH (zui I 19 1 1) (zPr 6)) 1 rfl ?_
  refine wp_callf (d := 68) (as := [.ref 19, .int 1]) (rest := []) (Ld := [some (.ref 19), some (.int 1)]) (pc' := 19) (st' := [.ref 49]) (r := some (.ref 49)) (h1 := zH (zui I 19 1 1) (zPr 6)) rfl rfl rfl rfl rfl rfl rfl rfl rfl (sp_at19_6_1 (X := X) (zui I 19 1 1)) ?_
  refine wp_blk (pc' := 20) (L' := [some (.ref 19), some (.ref 4), some (.ref 49)]) (st' := []) (h' := zH (zui I 19 1 1) (zPr 6)) 1 rfl ?_
  refine wp_blk (pc' := 21) (L' := [some (.ref 19), some (.ref 4), some (.ref 49)]) (st' := [.ref 49]) (h' := zH (zui I 19 1 1) (zPr 6)) 1 rfl ?_
  refine wp_blk (pc' := 24) (L' := [some (.ref 19), some (.ref 4), some (.ref 49)]) (st' := []) (h' := zH (zui I 19 1 1) (zPr 6)) 1 rfl ?_
  refine wp_blk (pc' := 25) (L' := [some (.ref 19), some (.ref 4), some (.ref 49)]) (st' := [.ref 49]) (h' := zH (zui I 19 1 1) (zPr 6)) 1 rfl ?_
  refine wp_blk (pc' := 26) (L' := [some (.ref 19), some (.ref 4), some (.ref 49)]) (st' := [.ref 4, .ref 49]) (h' := zH (zui I 19 1 1) (zPr 6)) 1 rfl ?_
  refine wp_callf (d := 37) (as := [.ref 49, .ref 4]) (rest := []) (Ld := [some (.ref 49), some (.ref 4)]) (pc' := 29) (st' := []) (r := none) (h1 := zH (g_M_copy 49 50 51 52 4 5 6 7 (zui I 19 1 1)) (zPr 6)) rfl rfl rfl rfl rfl rfl rfl rfl rfl (xp_M_copy_49_4 _ _ (0, (g_M_copy 49 50 51 52 4 5 6 7 (zui I 19 1 1))) rfl) ?_
  refine wp_blk (pc' := 30) (L' := [some (.ref 19), some (.ref 4), some (.ref 49)]) (st' := [.ref 19]) (h' := zH (g_M_copy 49 50 51 52 4 5 6 7 (zui I 19 1 1)) (zPr 6)) 1 rfl ?_
  refine wp_blk (pc' := 31) (L' := [some (.ref 19), some (.ref 4), some (.ref 49)]) (st' := [.ref 19, .ref 19]) (h' := zH (g_M_copy 49 50 51 52 4 5 6 7 (zui I 19 1 1)) (zPr 6)) 1 rfl ?_
  refine wp_blk (pc' := 34) (L' := [some (.ref 19), some (.ref 4), some (.ref 49)]) (st' := [.int ((g_M_copy 49 50 51 52 4 5 6 7 (zui I 19 1 1)) 19 1), .ref 19]) (h' := zH (g_M_copy 49 50 51 52 4 5 6 7 (zui I 19 1 1)) (zPr 6)) 1 rfl ?_
  refine wp_blk (pc' := 35) (L' := [some (.ref 19), some (.ref 4), some (.ref 49)]) (st' := [.int 1, .int ((g_M_copy 49 50 51 52 4 5 6 7 (zui I 19 1 1)) 19 1), .ref 19]) (h' := zH (g_M_copy 49 50 51 52 4 5 6 7 (zui I 19 1 1)) (zPr 6)) 1 rfl ?_
  refine wp_blk (pc' := 36) (L' := [some (.ref 19), some (.ref 4), some (.ref 49)]) (st' := [.int (((g_M_copy 49 50 51 52 4 5 6 7 (zui I 19 1 1)) 19 1) + 1), .ref 19]) (h' := zH (g_M_copy 49 50 51 52 4 5 6 7 (zui I 19 1 1)) (zPr 6)) 1 rfl ?_
  refine wp_blk (pc' := 39) (L' := [some (.ref 19), some (.ref 4), some (.ref 49)]) (st' := []) (h' := zH (zui (g_M_copy 49 50 51 52 4 5 6 7 (zui I 19 1 1)) 19 1 (((g_M_copy 49 50 51 52 4 5 6 7 (zui I 19 1 1)) 19 1) + 1)) (zPr 6)) 1 rfl ?_
  exact wp_end rfl rfl ⟨rfl, rfl⟩
set_option maxRecDepth 100000 in
theorem sp_take19_6_1 {X : Nat × (Nat → Int32)} (I : Nat → Nat → Int32) : Wf X 79 [some (.ref 19), some (.ref 4), none] (zH (zui I 19 1 1) (zPr 6)) (some (.int 1)) (zH (zui (g_M_copy 4 5 6 7 45 46 47 48 (zui I 19 1 1)) 19 1 (((g_M_copy 4 5 6 7 45 46 47 48 (zui I 19 1 1)) 19 1) - 1)) (zPr 6)) := by
  unfold Wf
  refine wp_blk (pc' := 1) (L' := [some (.ref 19), some (.ref 4), none]) (st' := [.ref 19]) (h' := zH (zui I 19 1 1) (zPr 6)) 1 rfl ?_
  refine wp_blk (pc' := 2) (L' := [some (.ref 19), some (.ref 4), none]) (st' := [.ref 19, .ref 19]) (h' := zH (zui I 19 1 1) (zPr 6)) 1 rfl ?_
  refine wp_blk (pc' := 5) (L' := [some (.ref 19), some (.ref 4), none]) (st' := [.int 1, .ref 19]) (h' := zH (zui I 19 1 1) (zPr 6)) 1 rfl ?_
  refine wp_blk (pc' := 6) (L' := [some (.ref 19), some (.ref 4), none]) (st' := [.int 1, .int 1, .ref 19]) (h' := zH (zui I 19 1 1) (zPr 6)) 1 rfl ?_
  refine wp_blk (pc' := 7) (L' := [some (.ref 19), some (.ref 4), none]) (st' := [.int 0, .ref 19]) (h' := zH (zui I 19 1 1) (zPr 6)) 1 rfl ?_
  refine wp_callf (d := 68) (as := [.ref 19, .int 0]) (rest := []) (Ld := [some (.ref 19), some (.int 0)]) (pc' := 10) (st' := [.ref 45]) (r := some (.ref 45)) (h1 := zH (zui I 19 1 1) (zPr 6)) rfl rfl rfl rfl rfl rfl rfl rfl rfl (sp_at19_6_0 (X := X) (zui I 19 1 1)) ?_
  refine wp_blk (pc' := 11) (L' := [some (.ref 19), some (.ref 4), some (.ref 45)]) (st' := []) (h' := zH (zui I 19 1 1) (zPr 6)) 1 rfl ?_
  refine wp_blk (pc' := 12) (L' := [some (.ref 19), some (.ref 4), some (.ref 45)]) (st' := [.ref 45]) (h' := zH (zui I 19 1 1) (zPr 6)) 1 rfl ?_
  refine wp_blk (pc' := 17) (L' := [some (.ref 19), some (.ref 4), some (.ref 45)]) (st' := []) (h' := zH (zui I 19 1 1) (zPr 6)) 1 rfl ?_
  refine wp_blk (pc' := 18) (L' := [some (.ref 19), some (.ref 4), some (.ref 45)]) (st' := [.ref 4]) (h' := zH (zui I 19 1 1) (zPr 6)) 1 rfl ?_
  refine wp_blk (pc' := 19) (L' := [some (.ref 19), some (.ref 4), some (.ref 45)]) (st' := [.ref 45, .ref 4]) (h' := zH (zui I 19 1 1) (zPr 6)) 1 rfl ?_
  refine wp_callf (d := 37) (as := [.ref 4, .ref 45]) (rest := []) (Ld := [some (.ref 4), some (.ref 45)]) (pc' := 22) (st' := []) (r := none) (h1 := zH (g_M_copy 4 5 6 7 45 46 47 48 (zui I 19 1 1)) (zPr 6)) rfl rfl rfl rfl rfl rfl rfl rfl rfl (xp_M_copy_4_45 _ _ (0, (g_M_copy 4 5 6 7 45 46 47 48 (zui I 19 1 1))) rfl) ?_
  refine wp_blk (pc' := 23) (L' := [some (.ref 19), some (.ref 4), some (.ref 45)]) (st' := [.ref 19]) (h' := zH (g_M_copy 4 5 6 7 45 46 47 48 (zui I 19 1 1)) (zPr 6)) 1 rfl ?_
  refine wp_blk (pc' := 24) (L' := [some (.ref 19), some (.ref 4), some (.ref 45)]) (st' := [.ref 19, .ref 19]) (h' := zH (g_M_copy 4 5 6 7 45 46 47 48 (zui I 19 1 1)) (zPr 6)) 1 rfl ?_
  refine wp_blk (pc' := 27) (L' := [some (.ref 19), some (.ref 4), some (.ref 45)]) (st' := [.int ((g_M_copy 4 5 6 7 45 46 47 48 (zui I 19 1 1)) 19 1), .ref 19]) (h' := zH (g_M_copy 4 5 6 7 45 46 47 48 (zui I 19 1 1)) (zPr 6)) 1 rfl ?_
  refine wp_blk (pc' := 28) (L' := [some (.ref 19), some (.ref 4), some (.ref 45)]) (st' := [.int 1, .int ((g_M_copy 4 5 6 7 45 46 47 48 (zui I 19 1 1)) 19 1), .ref 19]) (h' := zH (g_M_copy 4 5 6 7 45 46 47 48 (zui I 19 1 1)) (zPr 6)) 1 rfl ?_
  refine wp_blk (pc' := 29) (L' := [some (.ref 19), some (.ref 4), some (.ref 45)]) (st' := [.int (((g_M_copy 4 5 6 7 45 46 47 48 (zui I 19 1 1)) 19 1) - 1), .ref 19]) (h' := zH (g_M_copy 4 5 6 7 45 46 47 48 (zui I 19 1 1)) (zPr 6)) 1 rfl ?_
  refine wp_blk (pc' := 32) (L' := [some (.ref 19), some (.ref 4), some (.ref 45)]) (st' := []) (h' := zH (zui (g_M_copy 4 5 6 7 45 46 47 48 (zui I 19 1 1)) 19 1 (((g_M_copy 4 5 6 7 45 46 47 48 (zui I 19 1 1)) 19 1) - 1)) (zPr 6)) 1 rfl ?_
  refine wp_blk (pc' := 33) (L' := [some (.ref 19), some (.ref 4), some (.ref 45)]) (st' := [.int 1]) (h' := zH (zui (g_M_copy 4 5 6 7 45 46 47 48 (zui I 19 1 1)) 19 1 (((g_M_copy 4 5 6 7 45 46 47 48 (zui I 19 1 1)) 19 1) - 1)) (zPr 6)) 1 rfl ?_
  exact wp_end rfl rfl ⟨rfl, rfl⟩
set_option maxRecDepth 100000 in
theorem sp_put19_6_2 {X : Nat × (Nat → Int32)} (I : Nat → Nat → Int32) : Wf X 65 [some (.ref 19), some (.ref 4), none] (zH (zui I 19 1 2) (zPr 6)) none (zH (zui (g_M_copy 21 22 23 24 4 5 6 7 (zui I 19 1 2)) 19 1 (((g_M_copy 21 22 23 24 4 5 6 7 (zui I 19 1 2)) 19 1) + 1)) (zPr 6)) := by
  unfold Wf
  refine wp_blk (pc' := 1) (L' := [some (.ref 19), some (.ref 4), none]) (st' := [.ref 19]) (h' := zH (zui I 19 1 2) (zPr 6)) 1 rfl ?_
  refine wp_callf (d := 66) (as := [.ref 19]) (rest := []) (Ld := [some (.ref 19)]) (pc' := 4) (st' := [.int 0]) (r := some (.int 0)) (h1 := zH (zui I 19 1 2) (zPr 6)) rfl rfl rfl rfl rfl rfl rfl rfl rfl (sp_H1_isFull (X := X) (zui I 19 1 2) (zPr 6)) ?_
  refine wp_blk (pc' := 11) (L' := [some (.ref 19), some (.ref 4), none]) (st' := []) (h' := zH (zui I 19 1 2) (zPr 6)) 1 rfl ?_
  refine wp_blk (pc' := 12) (L' := [some (.ref 19), some (.ref 4), none]) (st' := [.ref 19]) (h' := zH (zui I 19 1 2) (zPr 6)) 1 rfl ?_
  refine wp_blk (pc' := 13) (L' := [some (.ref 19), some (.ref 4), none]) (st' := [.ref 19, .ref 19]) (h' := zH (zui I 19 1 2) (zPr 6)) 1 rfl ?_
  refine wp_blk (pc' := 16) (L' := [some (.ref 19), some (.ref 4), none]) (st' := [.int 2, .ref 19]) (h' := zH (zui I 19 1 2) (zPr 6)) 1 rfl ?_
  refine wp_callf (d := 68) (as := [.ref 19, .int 2]) (rest := []) (Ld := [some (.ref 19), some (.int 2)]) (pc' := 19) (st' := [.ref 21]) (r := some (.ref 21)) (h1 := zH (zui I 19 1 2) (zPr 6)) rfl rfl rfl rfl rfl rfl rfl rfl rfl (sp_at19_6_2 (X := X) (zui I 19 1 2)) ?_
  refine wp_blk (pc' := 20) (L' := [some (.ref 19), some (.ref 4), some (.ref 21)]) (st' := []) (h' := zH (zui I 19 1 2) (zPr 6)) 1 rfl ?_
  refine wp_blk (pc' := 21) (L' := [some (.ref 19), some (.ref 4), some (.ref 21)]) (st' := [.ref 21]) (h' := zH (zui I 19 1 2) (zPr 6)) 1 rfl ?_
  refine wp_blk (pc' := 24) (L' := [some (.ref 19), some (.ref 4), some (.ref 21)]) (st' := []) (h' := zH (zui I 19 1 2) (zPr 6)) 1 rfl ?_
  refine wp_blk (pc' := 25) (L' := [some (.ref 19), some (.ref 4), some (.ref 21)]) (st' := [.ref 21]) (h' := zH (zui I 19 1 2) (zPr 6)) 1 rfl ?_
  refine wp_blk (pc' := 26) (L' := [some (.ref 19), some (.ref 4), some (.ref 21)]) (st' := [.ref 4, .ref 21]) (h' := zH (zui I 19 1 2) (zPr 6)) 1 rfl ?_
  refine wp_callf (d := 37) (as := [.ref 21, .ref 4]) (rest := []) (Ld := [some (.ref 21), some (.ref 4)]) (pc' := 29) (st' := []) (r := none) (h1 := zH (g_M_copy 21 22 23 24 4 5 6 7 (zui I 19 1 2)) (zPr 6)) rfl rfl rfl rfl rfl rfl rfl rfl rfl (xp_M_copy_21_4 _ _ (0, (g_M_copy 21 22 23 24 4 5 6 7 (zui I 19 1 2))) rfl) ?_
  refine wp_blk (pc' := 30) (L' := [some (.ref 19), some (.ref 4), some (.ref 21)]) (st' := [.ref 19]) (h' := zH (g_M_copy 21 22 23 24 4 5 6 7 (zui I 19 1 2)) (zPr 6)) 1 rfl ?_
  refine wp_blk (pc' := 31) (L' := [some (.ref 19), some (.ref 4), some (.ref 21)]) (st' := [.ref 19, .ref 19]) (h' := zH (g_M_copy 21 22 23 24 4 5 6 7 (zui I 19 1 2)) (zPr 6)) 1 rfl ?_
  refine wp_blk (pc' := 34) (L' := [some (.ref 19), some (.ref 4), some (.ref 21)]) (st' := [.int ((g_M_copy 21 22 23 24 4 5 6 7 (zui I 19 1 2)) 19 1), .ref 19]) (h' := zH (g_M_copy 21 22 23 24 4 5 6 7 (zui I 19 1 2)) (zPr 6)) 1 rfl ?_
  refine wp_blk (pc' := 35) (L' := [some (.ref 19), some (.ref 4), some (.ref 21)]) (st' := [.int 1, .int ((g_M_copy 21 22 23 24 4 5 6 7 (zui I 19 1 2)) 19 1), .ref 19]) (h' := zH (g_M_copy 21 22 23 24 4 5 6 7 (zui I 19 1 2)) (zPr 6)) 1 rfl ?_
  refine wp_blk (pc' := 36) (L' := [some (.ref 19), some (.ref 4), some (.ref 21)]) (st' := [.int (((g_M_copy 21 22 23 24 4 5 6 7 (zui I 19 1 2)) 19 1) + 1), .ref 19]) (h' := zH (g_M_copy 21 22 23 24 4 5 6 7 (zui I 19 1 2)) (zPr 6)) 1 rfl ?_
  refine wp_blk (pc' := 39) (L' := [some (.ref 19), some (.ref 4), some (.ref 21)]) (st' := []) (h' := zH (zui (g_M_copy 21 22 23 24 4 5 6 7 (zui I 19 1 2)) 19 1 (((g_M_copy 21 22 23 24 4 5 6 7 (zui I 19 1 2)) 19 1) + 1)) (zPr 6)) 1 rfl ?_
  exact wp_end rfl rfl ⟨rfl, rfl⟩
set_option maxRecDepth 100000 in
theorem sp_take19_6_2 {X : Nat × (Nat → Int32)} (I : Nat → Nat → Int32) : Wf X 79 [some (.ref 19), some (.ref 4), none] (zH (zui I 19 1 2) (zPr 6)) (some (.int 1)) (zH (zui (g_M_copy 4 5 6 7 49 50 51 52 (zui I 19 1 2)) 19 1 (((g_M_copy 4 5 6 7 49 50 51 52 (zui I 19 1 2)) 19 1) - 1)) (zPr 6)) := by
  unfold Wf
  refine wp_blk (pc' := 1) (L' := [some (.ref 19), some (.ref 4), none]) (st' := [.ref 19]) (h' := zH (zui I 19 1 2) (zPr 6)) 1 rfl ?_
  refine wp_blk (pc' := 2) (L' := [some (.ref 19), some (.ref 4), none]) (st' := [.ref 19, .ref 19]) (h' := zH (zui I 19 1 2) (zPr 6)) 1 rfl ?_
  refine wp_blk (pc' := 5) (L' := [some (.ref 19), some (.ref 4), none]) (st' := [.int 2, .ref 19]) (h' := zH (zui I 19 1 2) (zPr 6)) 1 rfl ?_
  refine wp_blk (pc' := 6) (L' := [some (.ref 19), some (.ref 4), none]) (st' := [.int 1, .int 2, .ref 19]) (h' := zH (zui I 19 1 2) (zPr 6)) 1 rfl ?_
  refine wp_blk (pc' := 7) (L' := [some (.ref 19), some (.ref 4), none]) (st' := [.int 1, .ref 19]) (h' := zH (zui I 19 1 2) (zPr 6)) 1 rfl ?_
  refine wp_callf (d := 68) (as := [.ref 19, .int 1]) (rest := []) (Ld := [some (.ref 19), some (.int 1)]) (pc' := 10) (st' := [.ref 49]) (r := some (.ref 49)) (h1 := zH (zui I 19 1 2) (zPr 6)) rfl rfl rfl rfl rfl rfl rfl rfl rfl (sp_at19_6_1 (X := X) (zui I 19 1 2)) ?_
  refine wp_blk (pc' := 11) (L' := [some (.ref 19), some (.ref 4), some (.ref 49)]) (st' := []) (h' := zH (zui I 19 1 2) (zPr 6)) 1 rfl ?_
  refine wp_blk (pc' := 12) (L' := [some (.ref 19), some (.ref 4), some (.ref 49)]) (st' := [.ref 49]) (h' := zH (zui I 19 1 2) (zPr 6)) 1 rfl ?_
  refine wp_blk (pc' := 17) (L' := [some (.ref 19), some (.ref 4), some (.ref 49)]) (st' := []) (h' := zH (zui I 19 1 2) (zPr 6)) 1 rfl ?_
  refine wp_blk (pc' := 18) (L' := [some (.ref 19), some (.ref 4), some (.ref 49)]) (st' := [.ref 4]) (h' := zH (zui I 19 1 2) (zPr 6)) 1 rfl ?_
  refine wp_blk (pc' := 19) (L' := [some (.ref 19), some (.ref 4), some (.ref 49)]) (st' := [.ref 49, .ref 4]) (h' := zH (zui I 19 1 2) (zPr 6)) 1 rfl ?_
  refine wp_callf (d := 37) (as := [.ref 4, .ref 49]) (rest := []) (Ld := [some (.ref 4), some (.ref 49)]) (pc' := 22) (st' := []) (r := none) (h1 := zH (g_M_copy 4 5 6 7 49 50 51 52 (zui I 19 1 2)) (zPr 6)) rfl rfl rfl rfl rfl rfl rfl rfl rfl (xp_M_copy_4_49 _ _ (0, (g_M_copy 4 5 6 7 49 50 51 52 (zui I 19 1 2))) rfl) ?_
  refine wp_blk (pc' := 23) (L' := [some (.ref 19), some (.ref 4), some (.ref 49)]) (st' := [.ref 19]) (h' := zH (g_M_copy 4 5 6 7 49 50 51 52 (zui I 19 1 2)) (zPr 6)) 1 rfl ?_
  refine wp_blk (pc' := 24) (L' := [some (.ref 19), some (.ref 4), some (.ref 49)]) (st' := [.ref 19, .ref 19]) (h' := zH (g_M_copy 4 5 6 7 49 50 51 52 (zui I 19 1 2)) (zPr 6)) 1 rfl ?_
  refine wp_blk (pc' := 27) (L' := [some (.ref 19), some (.ref 4), some (.ref 49)]) (st' := [.int ((g_M_copy 4 5 6 7 49 50 51 52 (zui I 19 1 2)) 19 1), .ref 19]) (h' := zH (g_M_copy 4 5 6 7 49 50 51 52 (zui I 19 1 2)) (zPr 6)) 1 rfl ?_
  refine wp_blk (pc' := 28) (L' := [some (.ref 19), some (.ref 4), some (.ref 49)]) (st' := [.int 1, .int ((g_M_copy 4 5 6 7 49 50 51 52 (zui I 19 1 2)) 19 1), .ref 19]) (h' := zH (g_M_copy 4 5 6 7 49 50 51 52 (zui I 19 1 2)) (zPr 6)) 1 rfl ?_
  refine wp_blk (pc' := 29) (L' := [some (.ref 19), some (.ref 4), some (.ref 49)]) (st' := [.int (((g_M_copy 4 5 6 7 49 50 51 52 (zui I 19 1 2)) 19 1) - 1), .ref 19]) (h' := zH (g_M_copy 4 5 6 7 49 50 51 52 (zui I 19 1 2)) (zPr 6)) 1 rfl ?_
  refine wp_blk (pc' := 32) (L' := [some (.ref 19), some (.ref 4), some (.ref 49)]) (st' := []) (h' := zH (zui (g_M_copy 4 5 6 7 49 50 51 52 (zui I 19 1 2)) 19 1 (((g_M_copy 4 5 6 7 49 50 51 52 (zui I 19 1 2)) 19 1) - 1)) (zPr 6)) 1 rfl ?_
  refine wp_blk (pc' := 33) (L' := [some (.ref 19), some (.ref 4), some (.ref 49)]) (st' := [.int 1]) (h' := zH (zui (g_M_copy 4 5 6 7 49 50 51 52 (zui I 19 1 2)) 19 1 (((g_M_copy 4 5 6 7 49 50 51 52 (zui I 19 1 2)) 19 1) - 1)) (zPr 6)) 1 rfl ?_
  exact wp_end rfl rfl ⟨rfl, rfl⟩
set_option maxRecDepth 100000 in
theorem sp_put19_6_3 {X : Nat × (Nat → Int32)} (I : Nat → Nat → Int32) : Wf X 65 [some (.ref 19), some (.ref 4), none] (zH (zui I 19 1 3) (zPr 6)) none (zH (zui (g_M_copy 25 26 27 28 4 5 6 7 (zui I 19 1 3)) 19 1 (((g_M_copy 25 26 27 28 4 5 6 7 (zui I 19 1 3)) 19 1) + 1)) (zPr 6)) := by
  unfold Wf
  refine wp_blk (pc' := 1) (L' := [some (.ref 19), some (.ref 4), none]) (st' := [.ref 19]) (h' := zH (zui I 19 1 3) (zPr 6)) 1 rfl ?_
  refine wp_callf (d := 66) (as := [.ref 19]) (rest := []) (Ld := [some (.ref 19)]) (pc' := 4) (st' := [.int 0]) (r := some (.int 0)) (h1 := zH (zui I 19 1 3) (zPr 6)) rfl rfl rfl rfl rfl rfl rfl rfl rfl (sp_H1_isFull (X := X) (zui I 19 1 3) (zPr 6)) ?_
  refine wp_blk (pc' := 11) (L' := [some (.ref 19), some (.ref 4), none]) (st' := []) (h' := zH (zui I 19 1 3) (zPr 6)) 1 rfl ?_
  refine wp_blk (pc' := 12) (L' := [some (.ref 19), some (.ref 4), none]) (st' := [.ref 19]) (h' := zH (zui I 19 1 3) (zPr 6)) 1 rfl ?_
  refine wp_blk (pc' := 13) (L' := [some (.ref 19), some (.ref 4), none]) (st' := [.ref 19, .ref 19]) (h' := zH (zui I 19 1 3) (zPr 6)) 1 rfl ?_
  refine wp_blk (pc' := 16) (L' := [some (.ref 19), some (.ref 4), none]) (st' := [.int 3, .ref 19]) (h' := zH (zui I 19 1 3) (zPr 6)) 1 rfl ?_
  refine wp_callf (d := 68) (as := [.ref 19, .int 3]) (rest := []) (Ld := [some (.ref 19), some (.int 3)]) (pc' := 19) (st' := [.ref 25]) (r := some (.ref 25)) (h1 := zH (zui I 19 1 3) (zPr 6)) rfl rfl rfl rfl rfl rfl rfl rfl rfl (sp_at19_6_3 (X := X) (zui I 19 1 3)) ?_
  refine wp_blk (pc' := 20) (L' := [some (.ref 19), some (.ref 4), some (.ref 25)]) (st' := []) (h' := zH (zui I 19 1 3) (zPr 6)) 1 rfl ?_
  refine wp_blk (pc' := 21) (L' := [some (.ref 19), some (.ref 4), some (.ref 25)]) (st' := [.ref 25]) (h' := zH (zui I 19 1 3) (zPr 6)) 1 rfl ?_
  refine wp_blk (pc' := 24) (L' := [some (.ref 19), some (.ref 4), some (.ref 25)]) (st' := []) (h' := zH (zui I 19 1 3) (zPr 6)) 1 rfl ?_
  refine wp_blk (pc' := 25) (L' := [some (.ref 19), some (.ref 4), some (.ref 25)]) (st' := [.ref 25]) (h' := zH (zui I 19 1 3) (zPr 6)) 1 rfl ?_
  refine wp_blk (pc' := 26) (L' := [some (.ref 19), some (.ref 4), some (.ref 25)]) (st' := [.ref 4, .ref 25]) (h' := zH (zui I 19 1 3) (zPr 6)) 1 rfl ?_
  refine wp_callf (d := 37) (as := [.ref 25, .ref 4]) (rest := []) (Ld := [some (.ref 25), some (.ref 4)]) (pc' := 29) (st' := []) (r := none) (h1 := zH (g_M_copy 25 26 27 28 4 5 6 7 (zui I 19 1 3)) (zPr 6)) rfl rfl rfl rfl rfl rfl rfl rfl rfl (xp_M_copy_25_4 _ _ (0, (g_M_copy 25 26 27 28 4 5 6 7 (zui I 19 1 3))) rfl) ?_
  refine wp_blk (pc' := 30) (L' := [some (.ref 19), some (.ref 4), some (.ref 25)]) (st' := [.ref 19]) (h' := zH (g_M_copy 25 26 27 28 4 5 6 7 (zui I 19 1 3)) (zPr 6)) 1 rfl ?_
  refine wp_blk (pc' := 31) (L' := [some (.ref 19), some (.ref 4), some (.ref 25)]) (st' := [.ref 19, .ref 19]) (h' := zH (g_M_copy 25 26 27 28 4 5 6 7 (zui I 19 1 3)) (zPr 6)) 1 rfl ?_
  refine wp_blk (pc' := 34) (L' := [some (.ref 19), some (.ref 4), some (.ref 25)]) (st' := [.int ((g_M_copy 25 26 27 28 4 5 6 7 (zui I 19 1 3)) 19 1), .ref 19]) (h' := zH (g_M_copy 25 26 27 28 4 5 6 7 (zui I 19 1 3)) (zPr 6)) 1 rfl ?_
  refine wp_blk (pc' := 35) (L' := [some (.ref 19), some (.ref 4), some (.ref 25)]) (st' := [.int 1, .int ((g_M_copy 25 26 27 28 4 5 6 7 (zui I 19 1 3)) 19 1), .ref 19]) (h' := zH (g_M_copy 25 26 27 28 4 5 6 7 (zui I 19 1 3)) (zPr 6)) 1 rfl ?_
  refine wp_blk (pc' := 36) (L' := [some (.ref 19), some (.ref 4), some (.ref 25)]) (st' := [.int (((g_M_copy 25 26 27 28 4 5 6 7 (zui I 19 1 3)) 19 1) + 1), .ref 19]) (h' := zH (g_M_copy 25 26 27 28 4 5 6 7 (zui I 19 1 3)) (zPr 6)) 1 rfl ?_
  refine wp_blk (pc' := 39) (L' := [some (.ref 19), some (.ref 4), some (.ref 25)]) (st' := []) (h' := zH (zui (g_M_copy 25 26 27 28 4 5 6 7 (zui I 19 1 3)) 19 1 (((g_M_copy 25 26 27 28 4 5 6 7 (zui I 19 1 3)) 19 1) + 1)) (zPr 6)) 1 rfl ?_
  exact wp_end rfl rfl ⟨rfl, rfl⟩
set_option maxRecDepth 100000 in
theorem sp_take19_6_3 {X : Nat × (Nat → Int32)} (I : Nat → Nat → Int32) : Wf X 79 [some (.ref 19), some (.ref 4), none] (zH (zui I 19 1 3) (zPr 6)) (some (.int 1)) (zH (zui (g_M_copy 4 5 6 7 21 22 23 24 (zui I 19 1 3)) 19 1 (((g_M_copy 4 5 6 7 21 22 23 24 (zui I 19 1 3)) 19 1) - 1)) (zPr 6)) := by
  unfold Wf
  refine wp_blk (pc' := 1) (L' := [some (.ref 19), some (.ref 4), none]) (st' := [.ref 19]) (h' := zH (zui I 19 1 3) (zPr 6)) 1 rfl ?_
  refine wp_blk (pc' := 2) (L' := [some (.ref 19), some (.ref 4), none]) (st' := [.ref 19, .ref 19]) (h' := zH (zui I 19 1 3) (zPr 6)) 1 rfl ?_
  refine wp_blk (pc' := 5) (L' := [some (.ref 19), some (.ref 4), none]) (st' := [.int 3, .ref 19]) (h' := zH (zui I 19 1 3) (zPr 6)) 1 rfl ?_
  refine wp_blk (pc' := 6) (L' := [some (.ref 19), some (.ref 4), none]) (st' := [.int 1, .int 3, .ref 19]) (h' := zH (zui I 19 1 3) (zPr 6)) 1 rfl ?_
  refine wp_blk (pc' := 7) (L' := [some (.ref 19), some (.ref 4), none]) (st' := [.int 2, .ref 19]) (h' := zH (zui I 19 1 3) (zPr 6)) 1 rfl ?_
  refine wp_callf (d := 68) (as := [.ref 19, .int 2]) (rest := []) (Ld := [some (.ref 19), some (.int 2)]) (pc' := 10) (st' := [.ref 21]) (r := some (.ref 21)) (h1 := zH (zui I 19 1 3) (zPr 6)) rfl rfl rfl rfl rfl rfl rfl rfl rfl (sp_at19_6_2 (X := X) (zui I 19 1 3)) ?_
  refine wp_blk (pc' := 11) (L' := [some (.ref 19), some (.ref 4), some (.ref 21)]) (st' := []) (h' := zH (zui I 19 1 3) (zPr 6)) 1 rfl ?_
  refine wp_blk (pc' := 12) (L' := [some (.ref 19), some (.ref 4), some (.ref 21)]) (st' := [.ref 21]) (h' := zH (zui I 19 1 3) (zPr 6)) 1 rfl ?_
  refine wp_blk (pc' := 17) (L' := [some (.ref 19), some (.ref 4), some (.ref 21)]) (st' := []) (h' := zH (zui I 19 1 3) (zPr 6)) 1 rfl ?_
  refine wp_blk (pc' := 18) (L' := [some (.ref 19), some (.ref 4), some (.ref 21)]) (st' := [.ref 4]) (h' := zH (zui I 19 1 3) (zPr 6)) 1 rfl ?_
  refine wp_blk (pc' := 19) (L' := [some (.ref 19), some (.ref 4), some (.ref 21)]) (st' := [.ref 21, .ref 4]) (h' := zH (zui I 19 1 3) (zPr 6)) 1 rfl ?_
  refine wp_callf (d := 37) (as := [.ref 4, .ref 21]) (rest := []) (Ld := [some (.ref 4), some (.ref 21)]) (pc' := 22) (st' := []) (r := none) (h1 := zH (g_M_copy 4 5 6 7 21 22 23 24 (zui I 19 1 3)) (zPr 6)) rfl rfl rfl rfl rfl rfl rfl rfl rfl (xp_M_copy_4_21 _ _ (0, (g_M_copy 4 5 6 7 21 22 23 24 (zui I 19 1 3))) rfl) ?_
  refine wp_blk (pc' := 23) (L' := [some (.ref 19), some (.ref 4), some (.ref 21)]) (st' := [.ref 19]) (h' := zH (g_M_copy 4 5 6 7 21 22 23 24 (zui I 19 1 3)) (zPr 6)) 1 rfl ?_
  refine wp_blk (pc' := 24) (L' := [some (.ref 19), some (.ref 4), some (.ref 21)]) (st' := [.ref 19, .ref 19]) (h' := zH (g_M_copy 4 5 6 7 21 22 23 24 (zui I 19 1 3)) (zPr 6)) 1 rfl ?_
  refine wp_blk (pc' := 27) (L' := [some (.ref 19), some (.ref 4), some (.ref 21)]) (st' := [.int ((g_M_copy 4 5 6 7 21 22 23 24 (zui I 19 1 3)) 19 1), .ref 19]) (h' := zH (g_M_copy 4 5 6 7 21 22 23 24 (zui I 19 1 3)) (zPr 6)) 1 rfl ?_
  refine wp_blk (pc' := 28) (L' := [some (.ref 19), some (.ref 4), some (.ref 21)]) (st' := [.int 1, .int ((g_M_copy 4 5 6 7 21 22 23 24 (zui I 19 1 3)) 19 1), .ref 19]) (h' := zH (g_M_copy 4 5 6 7 21 22 23 24 (zui I 19 1 3)) (zPr 6)) 1 rfl ?_
  refine wp_blk (pc' := 29) (L' := [some (.ref 19), some (.ref 4), some (.ref 21)]) (st' := [.int (((g_M_copy 4 5 6 7 21 22 23 24 (zui I 19 1 3)) 19 1) - 1), .ref 19]) (h' := zH (g_M_copy 4 5 6 7 21 22 23 24 (zui I 19 1 3)) (zPr 6)) 1 rfl ?_
  refine wp_blk (pc' := 32) (L' := [some (.ref 19), some (.ref 4), some (.ref 21)]) (st' := []) (h' := zH (zui (g_M_copy 4 5 6 7 21 22 23 24 (zui I 19 1 3)) 19 1 (((g_M_copy 4 5 6 7 21 22 23 24 (zui I 19 1 3)) 19 1) - 1)) (zPr 6)) 1 rfl ?_
  refine wp_blk (pc' := 33) (L' := [some (.ref 19), some (.ref 4), some (.ref 21)]) (st' := [.int 1]) (h' := zH (zui (g_M_copy 4 5 6 7 21 22 23 24 (zui I 19 1 3)) 19 1 (((g_M_copy 4 5 6 7 21 22 23 24 (zui I 19 1 3)) 19 1) - 1)) (zPr 6)) 1 rfl ?_
  exact wp_end rfl rfl ⟨rfl, rfl⟩
set_option maxRecDepth 100000 in
theorem sp_put19_6_4 {X : Nat × (Nat → Int32)} (I : Nat → Nat → Int32) : Wf X 65 [some (.ref 19), some (.ref 4), none] (zH (zui I 19 1 4) (zPr 6)) none (zH (zui (g_M_copy 29 30 31 32 4 5 6 7 (zui I 19 1 4)) 19 1 (((g_M_copy 29 30 31 32 4 5 6 7 (zui I 19 1 4)) 19 1) + 1)) (zPr 6)) := by
  unfold Wf
  refine wp_blk (pc' := 1) (L' := [some (.ref 19), some (.ref 4), none]) (st' := [.ref 19]) (h' := zH (zui I 19 1 4) (zPr 6)) 1 rfl ?_
  refine wp_callf (d := 66) (as := [.ref 19]) (rest := []) (Ld := [some (.ref 19)]) (pc' := 4) (st' := [.int 0]) (r := some (.int 0)) (h1 := zH (zui I 19 1 4) (zPr 6)) rfl rfl rfl rfl rfl rfl rfl rfl rfl (sp_H1_isFull (X := X) (zui I 19 1 4) (zPr 6)) ?_
  refine wp_blk (pc' := 11) (L' := [some (.ref 19), some (.ref 4), none]) (st' := []) (h' := zH (zui I 19 1 4) (zPr 6)) 1 rfl ?_
  refine wp_blk (pc' := 12) (L' := [some (.ref 19), some (.ref 4), none]) (st' := [.ref 19]) (h' := zH (zui I 19 1 4) (zPr 6)) 1 rfl ?_
  refine wp_blk (pc' := 13) (L' := [some (.ref 19), some (.ref 4), none]) (st' := [.ref 19, .ref 19]) (h' := zH (zui I 19 1 4) (zPr 6)) 1 rfl ?_
  refine wp_blk (pc' := 16) (L' := [some (.ref 19), some (.ref 4), none]) (st' := [.int 4, .ref 19]) (h' := zH (zui I 19 1 4) (zPr 6)) 1 rfl ?_
  refine wp_callf (d := 68) (as := [.ref 19, .int 4]) (rest := []) (Ld := [some (.ref 19), some (.int 4)]) (pc' := 19) (st' := [.ref 29]) (r := some (.ref 29)) (h1 := zH (zui I 19 1 4) (zPr 6)) rfl rfl rfl rfl rfl rfl rfl rfl rfl (sp_at19_6_4 (X := X) (zui I 19 1 4)) ?_
  refine wp_blk (pc' := 20) (L' := [some (.ref 19), some (.ref 4), some (.ref 29)]) (st' := []) (h' := zH (zui I 19 1 4) (zPr 6)) 1 rfl ?_
  refine wp_blk (pc' := 21) (L' := [some (.ref 19), some (.ref 4), some (.ref 29)]) (st' := [.ref 29]) (h' := zH (zui I 19 1 4) (zPr 6)) 1 rfl ?_
  refine wp_blk (pc' := 24) (L' := [some (.ref 19), some (.ref 4), some (.ref 29)]) (st' := []) (h' := zH (zui I 19 1 4) (zPr 6)) 1 rfl ?_
  refine wp_blk (pc' := 25) (L' := [some (.ref 19), some (.ref 4), some (.ref 29)]) (st' := [.ref 29]) (h' := zH (zui I 19 1 4) (zPr 6)) 1 rfl ?_
  refine wp_blk (pc' := 26) (L' := [some (.ref 19), some (.ref 4), some (.ref 29)]) (st' := [.ref 4, .ref 29]) (h' := zH (zui I 19 1 4) (zPr 6)) 1 rfl ?_
  refine wp_callf (d := 37) (as := [.ref 29, .ref 4]) (rest := []) (Ld := [some (.ref 29), some (.ref 4)]) (pc' := 29) (st' := []) (r := none) (h1 := zH (g_M_copy 29 30 31 32 4 5 6 7 (zui I 19 1 4)) (zPr 6)) rfl rfl rfl rfl rfl rfl rfl rfl rfl (xp_M_copy_29_4 _ _ (0, (g_M_copy 29 30 31 32 4 5 6 7 (zui I 19 1 4))) rfl) ?_
  refine wp_blk (pc' := 30) (L' := [some (.ref 19), some (.ref 4), some (.ref 29)]) (st' := [.ref 19]) (h' := zH (g_M_copy 29 30 31 32 4 5 6 7 (zui I 19 1 4)) (zPr 6)) 1 rfl ?_
  refine wp_blk (pc' := 31) (L' := [some (.ref 19), some (.ref 4), some (.ref 29)]) (st' := [.ref 19, .ref 19]) (h' := zH (g_M_copy 29 30 31 32 4 5 6 7 (zui I 19 1 4)) (zPr 6)) 1 rfl ?_
  refine wp_blk (pc' := 34) (L' := [some (.ref 19), some (.ref 4), some (.ref 29)]) (st' := [.int ((g_M_copy 29 30 31 32 4 5 6 7 (zui I 19 1 4)) 19 1), .ref 19]) (h' := zH (g_M_copy 29 30 31 32 4 5 6 7 (zui I 19 1 4)) (zPr 6)) 1 rfl ?_
  refine wp_blk (pc' := 35) (L' := [some (.ref 19), some (.ref 4), some (.ref 29)]) (st' := [.int 1, .int ((g_M_copy 29 30 31 32 4 5 6 7 (zui I 19 1 4)) 19 1), .ref 19]) (h' := zH (g_M_copy 29 30 31 32 4 5 6 7 (zui I 19 1 4)) (zPr 6)) 1 rfl ?_
  refine wp_blk (pc' := 36) (L' := [some (.ref 19), some (.ref 4), some (.ref 29)]) (st' := [.int (((g_M_copy 29 30 31 32 4 5 6 7 (zui I 19 1 4)) 19 1) + 1), .ref 19]) (h' := zH (g_M_copy 29 30 31 32 4 5 6 7 (zui I 19 1 4)) (zPr 6)) 1 rfl ?_
  refine wp_blk (pc' := 39) (L' := [some (.ref 19), some (.ref 4), some (.ref 29)]) (st' := []) (h' := zH (zui (g_M_copy 29 30 31 32 4 5 6 7 (zui I 19 1 4)) 19 1 (((g_M_copy 29 30 31 32 4 5 6 7 (zui I 19 1 4)) 19 1) + 1)) (zPr 6)) 1 rfl ?_
  exact wp_end rfl rfl ⟨rfl, rfl⟩
set_option maxRecDepth 100000 in
theorem sp_take19_6_4 {X : Nat × (Nat → Int32)} (I : Nat → Nat → Int32) : Wf X 79 [some (.ref 19), some (.ref 4), none] (zH (zui I 19 1 4) (zPr 6)) (some (.int 1)) (zH (zui (g_M_copy 4 5 6 7 25 26 27 28 (zui I 19 1 4)) 19 1 (((g_M_copy 4 5 6 7 25 26 27 28 (zui I 19 1 4)) 19 1) - 1)) (zPr 6)) := by
  unfold Wf
  refine wp_blk (pc' := 1) (L' := [some (.ref 19), some (.ref 4), none]) (st' := [.ref 19]) (h' := zH (zui I 19 1 4) (zPr 6)) 1 rfl ?_
  refine wp_blk (pc' := 2) (L' := [some (.ref 19), some (.ref 4), none]) (st' := [.ref 19, .ref 19]) (h' := zH (zui I 19 1 4) (zPr 6)) 1 rfl ?_
  refine wp_blk (pc' := 5) (L' := [some (.ref 19), some (.ref 4), none]) (st' := [.int 4, .ref 19]) (h' := zH (zui I 19 1 4) (zPr 6)) 1 rfl ?_
  refine wp_blk (pc' := 6) (L' := [some (.ref 19), some (.ref 4), none]) (st' := [.int 1, .int 4, .ref 19]) (h' := zH (zui I 19 1 4) (zPr 6)) 1 rfl ?_
  refine wp_blk (pc' := 7) (L' := [some (.ref 19), some (.ref 4), none]) (st' := [.int 3, .ref 19]) (h' := zH (zui I 19 1 4) (zPr 6)) 1 rfl ?_
  refine wp_callf (d := 68) (as := [.ref 19, .int 3]) (rest := []) (Ld := [some (.ref 19), some (.int 3)]) (pc' := 10) (st' := [.ref 25]) (r := some (.ref 25)) (h1 := zH (zui I 19 1 4) (zPr 6)) rfl rfl rfl rfl rfl rfl rfl rfl rfl (sp_at19_6_3 (X := X) (zui I 19 1 4)) ?_
  refine wp_blk (pc' := 11) (L' := [some (.ref 19), some (.ref 4), some (.ref 25)]) (st' := []) (h' := zH (zui I 19 1 4) (zPr 6)) 1 rfl ?_
  refine wp_blk (pc' := 12) (L' := [some (.ref 19), some (.ref 4), some (.ref 25)]) (st' := [.ref 25]) (h' := zH (zui I 19 1 4) (zPr 6)) 1 rfl ?_
  refine wp_blk (pc' := 17) (L' := [some (.ref 19), some (.ref 4), some (.ref 25)]) (st' := []) (h' := zH (zui I 19 1 4) (zPr 6)) 1 rfl ?_
  refine wp_blk (pc' := 18) (L' := [some (.ref 19), some (.ref 4), some (.ref 25)]) (st' := [.ref 4]) (h' := zH (zui I 19 1 4) (zPr 6)) 1 rfl ?_
  refine wp_blk (pc' := 19) (L' := [some (.ref 19), some (.ref 4), some (.ref 25)]) (st' := [.ref 25, .ref 4]) (h' := zH (zui I 19 1 4) (zPr 6)) 1 rfl ?_
  refine wp_callf (d := 37) (as := [.ref 4, .ref 25]) (rest := []) (Ld := [some (.ref 4), some (.ref 25)]) (pc' := 22) (st' := []) (r := none) (h1 := zH (g_M_copy 4 5 6 7 25 26 27 28 (zui I 19 1 4)) (zPr 6)) rfl rfl rfl rfl rfl rfl rfl rfl rfl (xp_M_copy_4_25 _ _ (0, (g_M_copy 4 5 6 7 25 26 27 28 (zui I 19 1 4))) rfl) ?_
  refine wp_blk (pc' := 23) (L' := [some (.ref 19), some (.ref 4), some (.ref 25)]) (st' := [.ref 19]) (h' := zH (g_M_copy 4 5 6 7 25 26 27 28 (zui I 19 1 4)) (zPr 6)) 1 rfl ?_
  refine wp_blk (pc' := 24) (L' := [some (.ref 19), some (.ref 4), some (.ref 25)]) (st' := [.ref 19, .ref 19]) (h' := zH (g_M_copy 4 5 6 7 25 26 27 28 (zui I 19 1 4)) (zPr 6)) 1 rfl ?_
  refine wp_blk (pc' := 27) (L' := [some (.ref 19), some (.ref 4), some (.ref 25)]) (st' := [.int ((g_M_copy 4 5 6 7 25 26 27 28 (zui I 19 1 4)) 19 1), .ref 19]) (h' := zH (g_M_copy 4 5 6 7 25 26 27 28 (zui I 19 1 4)) (zPr 6)) 1 rfl ?_
  refine wp_blk (pc' := 28) (L' := [some (.ref 19), some (.ref 4), some (.ref 25)]) (st' := [.int 1, .int ((g_M_copy 4 5 6 7 25 26 27 28 (zui I 19 1 4)) 19 1), .ref 19]) (h' := zH (g_M_copy 4 5 6 7 25 26 27 28 (zui I 19 1 4)) (zPr 6)) 1 rfl ?_
  refine wp_blk (pc' := 29) (L' := [some (.ref 19), some (.ref 4), some (.ref 25)]) (st' := [.int (((g_M_copy 4 5 6 7 25 26 27 28 (zui I 19 1 4)) 19 1) - 1), .ref 19]) (h' := zH (g_M_copy 4 5 6 7 25 26 27 28 (zui I 19 1 4)) (zPr 6)) 1 rfl ?_
  refine wp_blk (pc' := 32) (L' := [some (.ref 19), some (.ref 4), some (.ref 25)]) (st' := []) (h' := zH (zui (g_M_copy 4 5 6 7 25 26 27 28 (zui I 19 1 4)) 19 1 (((g_M_copy 4 5 6 7 25 26 27 28 (zui I 19 1 4)) 19 1) - 1)) (zPr 6)) 1 rfl ?_
  refine wp_blk (pc' := 33) (L' := [some (.ref 19), some (.ref 4), some (.ref 25)]) (st' := [.int 1]) (h' := zH (zui (g_M_copy 4 5 6 7 25 26 27 28 (zui I 19 1 4)) 19 1 (((g_M_copy 4 5 6 7 25 26 27 28 (zui I 19 1 4)) 19 1) - 1)) (zPr 6)) 1 rfl ?_
  exact wp_end rfl rfl ⟨rfl, rfl⟩
set_option maxRecDepth 100000 in
theorem sp_put19_6_5 {X : Nat × (Nat → Int32)} (I : Nat → Nat → Int32) : Wf X 65 [some (.ref 19), some (.ref 4), none] (zH (zui I 19 1 5) (zPr 6)) none (zH (zui (g_M_copy 33 34 35 36 4 5 6 7 (zui I 19 1 5)) 19 1 (((g_M_copy 33 34 35 36 4 5 6 7 (zui I 19 1 5)) 19 1) + 1)) (zPr 6)) := by
  unfold Wf
  refine wp_blk (pc' := 1) (L' := [some (.ref 19), some (.ref 4), none]) (st' := [.ref 19]) (h' := zH (zui I 19 1 5) (zPr 6)) 1 rfl ?_
  refine wp_callf (d := 66) (as := [.ref 19]) (rest := []) (Ld := [some (.ref 19)]) (pc' := 4) (st' := [.int 0]) (r := some (.int 0)) (h1 := zH (zui I 19 1 5) (zPr 6)) rfl rfl rfl rfl rfl rfl rfl rfl rfl (sp_H1_isFull (X := X) (zui I 19 1 5) (zPr 6)) ?_
  refine wp_blk (pc' := 11) (L' := [some (.ref 19), some (.ref 4), none]) (st' := []) (h' := zH (zui I 19 1 5) (zPr 6)) 1 rfl ?_
  refine wp_blk (pc' := 12) (L' := [some (.ref 19), some (.ref 4), none]) (st' := [.ref 19]) (h' := zH (zui I 19 1 5) (zPr 6)) 1 rfl ?_
  refine wp_blk (pc' := 13) (L' := [some (.ref 19), some (.ref 4), none]) (st' := [.ref 19, .ref 19]) (h' := zH (zui I 19 1 5) (zPr 6)) 1 rfl ?_
  refine wp_blk (pc' := 16) (L' := [some (.ref 19), some (.ref 4), none]) (st' := [.int 5, .ref 19]) (h' := zH (zui I 19 1 5) (zPr 6)) 1 rfl ?_
  refine wp_callf (d := 68) (as := [.ref 19, .int 5]) (rest := []) (Ld := [some (.ref 19), some (.int 5)]) (pc' := 19) (st' := [.ref 33]) (r := some (.ref 33)) (h1 := zH (zui I 19 1 5) (zPr 6)) rfl rfl rfl rfl rfl rfl rfl rfl rfl (sp_at19_6_5 (X := X) (zui I 19 1 5)) ?_
  refine wp_blk (pc' := 20) (L' := [some (.ref 19), some (.ref 4), some (.ref 33)]) (st' := []) (h' := zH (zui I 19 1 5) (zPr 6)) 1 rfl ?_
  refine wp_blk (pc' := 21) (L' := [some (.ref 19), some (.ref 4), some (.ref 33)]) (st' := [.ref 33]) (h' := zH (zui I 19 1 5) (zPr 6)) 1 rfl ?_
  refine wp_blk (pc' := 24) (L' := [some (.ref 19), some (.ref 4), some (.ref 33)]) (st' := []) (h' := zH (zui I 19 1 5) (zPr 6)) 1 rfl ?_
  refine wp_blk (pc' := 25) (L' := [some (.ref 19), some (.ref 4), some (.ref 33)]) (st' := [.ref 33]) (h' := zH (zui I 19 1 5) (zPr 6)) 1 rfl ?_
  refine wp_blk (pc' := 26) (L' := [some (.ref 19), some (.ref 4), some (.ref 33)]) (st' := [.ref 4, .ref 33]) (h' := zH (zui I 19 1 5) (zPr 6)) 1 rfl ?_
  refine wp_callf (d := 37) (as := [.ref 33, .ref 4]) (rest := []) (Ld := [some (.ref 33), some (.ref 4)]) (pc' := 29) (st' := []) (r := none) (h1 := zH (g_M_copy 33 34 35 36 4 5 6 7 (zui I 19 1 5)) (zPr 6)) rfl rfl rfl rfl rfl rfl rfl rfl rfl (xp_M_copy_33_4 _ _ (0, (g_M_copy 33 34 35 36 4 5 6 7 (zui I 19 1 5))) rfl) ?_
  refine wp_blk (pc' := 30) (L' := [some (.ref 19), some (.ref 4), some (.ref 33)]) (st' := [.ref 19]) (h' := zH (g_M_copy 33 34 35 36 4 5 6 7 (zui I 19 1 5)) (zPr 6)) 1 rfl ?_
  refine wp_blk (pc' := 31) (L' := [some (.ref 19), some (.ref 4), some (.ref 33)]) (st' := [.ref 19, .ref 19]) (h' := zH (g_M_copy 33 34 35 36 4 5 6 7 (zui I 19 1 5)) (zPr 6)) 1 rfl ?_
  refine wp_blk (pc' := 34) (L' := [some (.ref 19), some (.ref 4), some (.ref 33)]) (st' := [.int ((g_M_copy 33 34 35 36 4 5 6 7 (zui I 19 1 5)) 19 1), .ref 19]) (h' := zH (g_M_copy 33 34 35 36 4 5 6 7 (zui I 19 1 5)) (zPr 6)) 1 rfl ?_
  refine wp_blk (pc' := 35) (L' := [some (.ref 19), some (.ref 4), some (.ref 33)]) (st' := [.int 1, .int ((g_M_copy 33 34 35 36 4 5 6 7 (zui I 19 1 5)) 19 1), .ref 19]) (h' := zH (g_M_copy 33 34 35 36 4 5 6 7 (zui I 19 1 5)) (zPr 6)) 1 rfl ?_
  refine wp_blk (pc' := 36) (L' := [some (.ref 19), some (.ref 4), some (.ref 33)]) (st' := [.int (((g_M_copy 33 34 35 36 4 5 6 7 (zui I 19 1 5)) 19 1) + 1), .ref 19]) (h' := zH (g_M_copy 33 34 35 36 4 5 6 7 (zui I 19 1 5)) (zPr 6)) 1 rfl ?_
  refine wp_blk (pc' := 39) (L' := [some (.ref 19), some (.ref 4), some (.ref 33)]) (st' := []) (h' := zH (zui (g_M_copy 33 34 35 36 4 5 6 7 (zui I 19 1 5)) 19 1 (((g_M_copy 33 34 35 36 4 5 6 7 (zui I 19 1 5)) 19 1) + 1)) (zPr 6)) 1 rfl ?_
  exact wp_end rfl rfl ⟨rfl, rfl⟩
set_option maxRecDepth 100000 in
theorem sp_take19_6_5 {X : Nat × (Nat → Int32)} (I : Nat → Nat → Int32) : Wf X 79 [some (.ref 19), some (.ref 4), none] (zH (zui I 19 1 5) (zPr 6)) (some (.int 1)) (zH (zui (g_M_copy 4 5 6 7 29 30 31 32 (zui I 19 1 5)) 19 1 (((g_M_copy 4 5 6 7 29 30 31 32 (zui I 19 1 5)) 19 1) - 1)) (zPr 6)) := by
  unfold Wf
  refine wp_blk (pc' := 1) (L' := [some (.ref 19), some (.ref 4), none]) (st' := [.ref 19]) (h' := zH (zui I 19 1 5) (zPr 6)) 1 rfl ?_
  refine wp_blk (pc' := 2) (L' := [some (.ref 19), some (.ref 4), none]) (st' := [.ref 19, .ref 19]) (h' := zH (zui I 19 1 5) (zPr 6)) 1 rfl ?_
  refine wp_blk (pc' := 5) (L' := [some (.ref 19), some (.ref 4), none]) (st' := [.int 5, .ref 19]) (h' := zH (zui I 19 1 5) (zPr 6)) 1 rfl ?_
  refine wp_blk (pc' := 6) (L' := [some (.ref 19), some (.ref 4), none]) (st' := [.int 1, .int 5, .ref 19]) (h' := zH (zui I 19 1 5) (zPr 6)) 1 rfl ?_
  refine wp_blk (pc' := 7) (L' := [some (.ref 19), some (.ref 4), none]) (st' := [.int 4, .ref 19]) (h' := zH (zui I 19 1 5) (zPr 6)) 1 rfl ?_
  refine wp_callf (d := 68) (as := [.ref 19, .int 4]) (rest := []) (Ld := [some (.ref 19), some (.int 4)]) (pc' := 10) (st' := [.ref 29]) (r := some (.ref 29)) (h1 := zH (zui I 19 1 5) (zPr 6)) rfl rfl rfl rfl rfl rfl rfl rfl rfl (sp_at19_6_4 (X := X) (zui I 19 1 5)) ?_
  refine wp_blk (pc' := 11) (L' := [some (.ref 19), some (.ref 4), some (.ref 29)]) (st' := []) (h' := zH (zui I 19 1 5) (zPr 6)) 1 rfl ?_
  refine wp_blk (pc' := 12) (L' := [some (.ref 19), some (.ref 4), some (.ref 29)]) (st' := [.ref 29]) (h' := zH (zui I 19 1 5) (zPr 6)) 1 rfl ?_
  refine wp_blk (pc' := 17) (L' := [some (.ref 19), some (.ref 4), some (.ref 29)]) (st' := []) (h' := zH (zui I 19 1 5) (zPr 6)) 1 rfl ?_
  refine wp_blk (pc' := 18) (L' := [some (.ref 19), some (.ref 4), some (.ref 29)]) (st' := [.ref 4]) (h' := zH (zui I 19 1 5) (zPr 6)) 1 rfl ?_
  refine wp_blk (pc' := 19) (L' := [some (.ref 19), some (.ref 4), some (.ref 29)]) (st' := [.ref 29, .ref 4]) (h' := zH (zui I 19 1 5) (zPr 6)) 1 rfl ?_
  refine wp_callf (d := 37) (as := [.ref 4, .ref 29]) (rest := []) (Ld := [some (.ref 4), some (.ref 29)]) (pc' := 22) (st' := []) (r := none) (h1 := zH (g_M_copy 4 5 6 7 29 30 31 32 (zui I 19 1 5)) (zPr 6)) rfl rfl rfl rfl rfl rfl rfl rfl rfl (xp_M_copy_4_29 _ _ (0, (g_M_copy 4 5 6 7 29 30 31 32 (zui I 19 1 5))) rfl) ?_
  refine wp_blk (pc' := 23) (L' := [some (.ref 19), some (.ref 4), some (.ref 29)]) (st' := [.ref 19]) (h' := zH (g_M_copy 4 5 6 7 29 30 31 32 (zui I 19 1 5)) (zPr 6)) 1 rfl ?_
  refine wp_blk (pc' := 24) (L' := [some (.ref 19), some (.ref 4), some (.ref 29)]) (st' := [.ref 19, .ref 19]) (h' := zH (g_M_copy 4 5 6 7 29 30 31 32 (zui I 19 1 5)) (zPr 6)) 1 rfl ?_
  refine wp_blk (pc' := 27) (L' := [some (.ref 19), some (.ref 4), some (.ref 29)]) (st' := [.int ((g_M_copy 4 5 6 7 29 30 31 32 (zui I 19 1 5)) 19 1), .ref 19]) (h' := zH (g_M_copy 4 5 6 7 29 30 31 32 (zui I 19 1 5)) (zPr 6)) 1 rfl ?_
  refine wp_blk (pc' := 28) (L' := [some (.ref 19), some (.ref 4), some (.ref 29)]) (st' := [.int 1, .int ((g_M_copy 4 5 6 7 29 30 31 32 (zui I 19 1 5)) 19 1), .ref 19]) (h' := zH (g_M_copy 4 5 6 7 29 30 31 32 (zui I 19 1 5)) (zPr 6)) 1 rfl ?_
  refine wp_blk (pc' := 29) (L' := [some (.ref 19), some (.ref 4), some (.ref 29)]) (st' := [.int (((g_M_copy 4 5 6 7 29 30 31 32 (zui I 19 1 5)) 19 1) - 1), .ref 19]) (h' := zH (g_M_copy 4 5 6 7 29 30 31 32 (zui I 19 1 5)) (zPr 6)) 1 rfl ?_
  refine wp_blk (pc' := 32) (L' := [some (.ref 19), some (.ref 4), some (.ref 29)]) (st' := []) (h' := zH (zui (g_M_copy 4 5 6 7 29 30 31 32 (zui I 19 1 5)) 19 1 (((g_M_copy 4 5 6 7 29 30 31 32 (zui I 19 1 5)) 19 1) - 1)) (zPr 6)) 1 rfl ?_
  refine wp_blk (pc' := 33) (L' := [some (.ref 19), some (.ref 4), some (.ref 29)]) (st' := [.int 1]) (h' := zH (zui (g_M_copy 4 5 6 7 29 30 31 32 (zui I 19 1 5)) 19 1 (((g_M_copy 4 5 6 7 29 30 31 32 (zui I 19 1 5)) 19 1) - 1)) (zPr 6)) 1 rfl ?_
  exact wp_end rfl rfl ⟨rfl, rfl⟩
set_option maxRecDepth 100000 in
theorem sp_put19_6_6 {X : Nat × (Nat → Int32)} (I : Nat → Nat → Int32) : Wf X 65 [some (.ref 19), some (.ref 4), none] (zH (zui I 19 1 6) (zPr 6)) none (zH (zui (g_M_copy 37 38 39 40 4 5 6 7 (zui I 19 1 6)) 19 1 (((g_M_copy 37 38 39 40 4 5 6 7 (zui I 19 1 6)) 19 1) + 1)) (zPr 6)) := by
  unfold Wf
  refine wp_blk (pc' := 1) (L' := [some (.ref 19), some (.ref 4), none]) (st' := [.ref 19]) (h' := zH (zui I 19 1 6) (zPr 6)) 1 rfl ?_
  refine wp_callf (d := 66) (as := [.ref 19]) (rest := []) (Ld := [some (.ref 19)]) (pc' := 4) (st' := [.int 0]) (r := some (.int 0)) (h1 := zH (zui I 19 1 6) (zPr 6)) rfl rfl rfl rfl rfl rfl rfl rfl rfl (sp_H1_isFull (X := X) (zui I 19 1 6) (zPr 6)) ?_
  refine wp_blk (pc' := 11) (L' := [some (.ref 19), some (.ref 4), none]) (st' := []) (h' := zH (zui I 19 1 6) (zPr 6)) 1 rfl ?_
  refine wp_blk (pc' := 12) (L' := [some (.ref 19), some (.ref 4), none]) (st' := [.ref 19]) (h' := zH (zui I 19 1 6) (zPr 6)) 1 rfl ?_
  refine wp_blk (pc' := 13) (L' := [some (.ref 19), some (.ref 4), none]) (st' := [.ref 19, .ref 19]) (h' := zH (zui I 19 1 6) (zPr 6)) 1 rfl ?_
  refine wp_blk (pc' := 16) (L' := [some (.ref 19), some (.ref 4), none]) (st' := [.int 6, .ref 19]) (h' := zH (zui I 19 1 6) (zPr 6)) 1 rfl ?_
  refine wp_callf (d := 68) (as := [.ref 19, .int 6]) (rest := []) (Ld := [some (.ref 19), some (.int 6)]) (pc' := 19) (st' := [.ref 37]) (r := some (.ref 37)) (h1 := zH (zui I 19 1 6) (zPr 6)) rfl rfl rfl rfl rfl rfl rfl rfl rfl (sp_at19_6_6 (X := X) (zui I 19 1 6)) ?_
  refine wp_blk (pc' := 20) (L' := [some (.ref 19), some (.ref 4), some (.ref 37)]) (st' := []) (h' := zH (zui I 19 1 6) (zPr 6)) 1 rfl ?_
  refine wp_blk (pc' := 21) (L' := [some (.ref 19), some (.ref 4), some (.ref 37)]) (st' := [.ref 37]) (h' := zH (zui I 19 1 6) (zPr 6)) 1 rfl ?_
  refine wp_blk (pc' := 24) (L' := [some (.ref 19), some (.ref 4), some (.ref 37)]) (st' := []) (h' := zH (zui I 19 1 6) (zPr 6)) 1 rfl ?_
  refine wp_blk (pc' := 25) (L' := [some (.ref 19), some (.ref 4), some (.ref 37)]) (st' := [.ref 37]) (h' := zH (zui I 19 1 6) (zPr 6)) 1 rfl ?_
  refine wp_blk (pc' := 26) (L' := [some (.ref 19), some (.ref 4), some (.ref 37)]) (st' := [.ref 4, .ref 37]) (h' := zH (zui I 19 1 6) (zPr 6)) 1 rfl ?_
  refine wp_callf (d := 37) (as := [.ref 37, .ref 4]) (rest := []) (Ld := [some (.ref 37), some (.ref 4)]) (pc' := 29) (st' := []) (r := none) (h1 := zH (g_M_copy 37 38 39 40 4 5 6 7 (zui I 19 1 6)) (zPr 6)) rfl rfl rfl rfl rfl rfl rfl rfl rfl (xp_M_copy_37_4 _ _ (0, (g_M_copy 37 38 39 40 4 5 6 7 (zui I 19 1 6))) rfl) ?_
  refine wp_blk (pc' := 30) (L' := [some (.ref 19), some (.ref 4), some (.ref 37)]) (st' := [.ref 19]) (h' := zH (g_M_copy 37 38 39 40 4 5 6 7 (zui I 19 1 6)) (zPr 6)) 1 rfl ?_
  refine wp_blk (pc' := 31) (L' := [some (.ref 19), some (.ref 4), some (.ref 37)]) (st' := [.ref 19, .ref 19]) (h' := zH (g_M_copy 37 38 39 40 4 5 6 7 (zui I 19 1 6)) (zPr 6)) 1 rfl ?_
  refine wp_blk (pc' := 34) (L' := [some (.ref 19), some (.ref 4), some (.ref 37)]) (st' := [.int ((g_M_copy 37 38 39 40 4 5 6 7 (zui I 19 1 6)) 19 1), .ref 19]) (h' := zH (g_M_copy 37 38 39 40 4 5 6 7 (zui I 19 1 6)) (zPr 6)) 1 rfl ?_
  refine wp_blk (pc' := 35) (L' := [some (.ref 19), some (.ref 4), some (.ref 37)]) (st' := [.int 1, .int ((g_M_copy 37 38 39 40 4 5 6 7 (zui I 19 1 6)) 19 1), .ref 19]) (h' := zH (g_M_copy 37 38 39 40 4 5 6 7 (zui I 19 1 6)) (zPr 6)) 1 rfl ?_
  refine wp_blk (pc' := 36) (L' := [some (.ref 19), some (.ref 4), some (.ref 37)]) (st' := [.int (((g_M_copy 37 38 39 40 4 5 6 7 (zui I 19 1 6)) 19 1) + 1), .ref 19]) (h' := zH (g_M_copy 37 38 39 40 4 5 6 7 (zui I 19 1 6)) (zPr 6)) 1 rfl ?_
  refine wp_blk (pc' := 39) (L' := [some (.ref 19), some (.ref 4), some (.ref 37)]) (st' := []) (h' := zH (zui (g_M_copy 37 38 39 40 4 5 6 7 (zui I 19 1 6)) 19 1 (((g_M_copy 37 38 39 40 4 5 6 7 (zui I 19 1 6)) 19 1) + 1)) (zPr 6)) 1 rfl ?_
  exact wp_end rfl rfl ⟨rfl, rfl⟩
set_option maxRecDepth 100000 in
theorem sp_take19_6_6 {X : Nat × (Nat → Int32)} (I : Nat → Nat → Int32) : Wf X 79 [some (.ref 19), some (.ref 4), none] (zH (zui I 19 1 6) (zPr 6)) (some (.int 1)) (zH (zui (g_M_copy 4 5 6 7 33 34 35 36 (zui I 19 1 6)) 19 1 (((g_M_copy 4 5 6 7 33 34 35 36 (zui I 19 1 6)) 19 1) - 1)) (zPr 6)) := by
  unfold Wf
  refine wp_blk (pc' := 1) (L' := [some (.ref 19), some (.ref 4), none]) (st' := [.ref 19]) (h' := zH (zui I 19 1 6) (zPr 6)) 1 rfl ?_
  refine wp_blk (pc' := 2) (L' := [some (.ref 19), some (.ref 4), none]) (st' := [.ref 19, .ref 19]) (h' := zH (zui I 19 1 6) (zPr 6)) 1 rfl ?_
  refine wp_blk (pc' := 5) (L' := [some (.ref 19), some (.ref 4), none]) (st' := [.int 6, .ref 19]) (h' := zH (zui I 19 1 6) (zPr 6)) 1 rfl ?_
  refine wp_blk (pc' := 6) (L' := [some (.ref 19), some (.ref 4), none]) (st' := [.int 1, .int 6, .ref 19]) (h' := zH (zui I 19 1 6) (zPr 6)) 1 rfl ?_
  refine wp_blk (pc' := 7) (L' := [some (.ref 19), some (.ref 4), none]) (st' := [.int 5, .ref 19]) (h' := zH (zui I 19 1 6) (zPr 6)) 1 rfl ?_
  refine wp_callf (d := 68) (as := [.ref 19, .int 5]) (rest := []) (Ld := [some (.ref 19), some (.int 5)]) (pc' := 10) (st' := [.ref 33]) (r := some (.ref 33)) (h1 := zH (zui I 19 1 6) (zPr 6)) rfl rfl rfl rfl rfl rfl rfl rfl rfl (sp_at19_6_5 (X := X) (zui I 19 1 6)) ?_
  refine wp_blk (pc' := 11) (L' := [some (.ref 19), some (.ref 4), some (.ref 33)]) (st' := []) (h' := zH (zui I 19 1 6) (zPr 6)) 1 rfl ?_
  refine wp_blk (pc' := 12) (L' := [some (.ref 19), some (.ref 4), some (.ref 33)]) (st' := [.ref 33]) (h' := zH (zui I 19 1 6) (zPr 6)) 1 rfl ?_
  refine wp_blk (pc' := 17) (L' := [some (.ref 19), some (.ref 4), some (.ref 33)]) (st' := []) (h' := zH (zui I 19 1 6) (zPr 6)) 1 rfl ?_
  refine wp_blk (pc' := 18) (L' := [some (.ref 19), some (.ref 4), some (.ref 33)]) (st' := [.ref 4]) (h' := zH (zui I 19 1 6) (zPr 6)) 1 rfl ?_
  refine wp_blk (pc' := 19) (L' := [some (.ref 19), some (.ref 4), some (.ref 33)]) (st' := [.ref 33, .ref 4]) (h' := zH (zui I 19 1 6) (zPr 6)) 1 rfl ?_
  refine wp_callf (d := 37) (as := [.ref 4, .ref 33]) (rest := []) (Ld := [some (.ref 4), some (.ref 33)]) (pc' := 22) (st' := []) (r := none) (h1 := zH (g_M_copy 4 5 6 7 33 34 35 36 (zui I 19 1 6)) (zPr 6)) rfl rfl rfl rfl rfl rfl rfl rfl rfl (xp_M_copy_4_33 _ _ (0, (g_M_copy 4 5 6 7 33 34 35 36 (zui I 19 1 6))) rfl) ?_
  refine wp_blk (pc' := 23) (L' := [some (.ref 19), some (.ref 4), some (.ref 33)]) (st' := [.ref 19]) (h' := zH (g_M_copy 4 5 6 7 33 34 35 36 (zui I 19 1 6)) (zPr 6)) 1 rfl ?_
  refine wp_blk (pc' := 24) (L' := [some (.ref 19), some (.ref 4), some (.ref 33)]) (st' := [.ref 19, .ref 19]) (h' := zH (g_M_copy 4 5 6 7 33 34 35 36 (zui I 19 1 6)) (zPr 6)) 1 rfl ?_
  refine wp_blk (pc' := 27) (L' := [some (.ref 19), some (.ref 4), some (.ref 33)]) (st' := [.int ((g_M_copy 4 5 6 7 33 34 35 36 (zui I 19 1 6)) 19 1), .ref 19]) (h' := zH (g_M_copy 4 5 6 7 33 34 35 36 (zui I 19 1 6)) (zPr 6)) 1 rfl ?_
  refine wp_blk (pc' := 28) (L' := [some (.ref 19), some (.ref 4), some (.ref 33)]) (st' := [.int 1, .int ((g_M_copy 4 5 6 7 33 34 35 36 (zui I 19 1 6)) 19 1), .ref 19]) (h' := zH (g_M_copy 4 5 6 7 33 34 35 36 (zui I 19 1 6)) (zPr 6)) 1 rfl ?_
  refine wp_blk (pc' := 29) (L' := [some (.ref 19), some (.ref 4), some (.ref 33)]) (st' := [.int (((g_M_copy 4 5 6 7 33 34 35 36 (zui I 19 1 6)) 19 1) - 1), .ref 19]) (h' := zH (g_M_copy 4 5 6 7 33 34 35 36 (zui I 19 1 6)) (zPr 6)) 1 rfl ?_
  refine wp_blk (pc' := 32) (L' := [some (.ref 19), some (.ref 4), some (.ref 33)]) (st' := []) (h' := zH (zui (g_M_copy 4 5 6 7 33 34 35 36 (zui I 19 1 6)) 19 1 (((g_M_copy 4 5 6 7 33 34 35 36 (zui I 19 1 6)) 19 1) - 1)) (zPr 6)) 1 rfl ?_
  refine wp_blk (pc' := 33) (L' := [some (.ref 19), some (.ref 4), some (.ref 33)]) (st' := [.int 1]) (h' := zH (zui (g_M_copy 4 5 6 7 33 34 35 36 (zui I 19 1 6)) 19 1 (((g_M_copy 4 5 6 7 33 34 35 36 (zui I 19 1 6)) 19 1) - 1)) (zPr 6)) 1 rfl ?_
  exact wp_end rfl rfl ⟨rfl, rfl⟩
set_option maxRecDepth 100000 in
theorem sp_put19_6_7 {X : Nat × (Nat → Int32)} (I : Nat → Nat → Int32) : Wf X 65 [some (.ref 19), some (.ref 4), none] (zH (zui I 19 1 7) (zPr 6)) none (zH (zui (g_M_copy 41 42 43 44 4 5 6 7 (zui I 19 1 7)) 19 1 (((g_M_copy 41 42 43 44 4 5 6 7 (zui I 19 1 7)) 19 1) + 1)) (zPr 6)) := by
  unfold Wf
  refine wp_blk (pc' := 1) (L' := [some (.ref 19), some (.ref 4), none]) (st' := [.ref 19]) (h' := zH (zui I 19 1 7) (zPr 6)) 1 rfl ?_
  refine wp_callf (d := 66) (as := [.ref 19]) (rest := []) (Ld := [some (.ref 19)]) (pc' := 4) (st' := [.int 0]) (r := some (.int 0)) (h1 := zH (zui I 19 1 7) (zPr 6)) rfl rfl rfl rfl rfl rfl rfl rfl rfl (sp_H1_isFull (X := X) (zui I 19 1 7) (zPr 6)) ?_
  refine wp_blk (pc' := 11) (L' := [some (.ref 19), some (.ref 4), none]) (st' := []) (h' := zH (zui I 19 1 7) (zPr 6)) 1 rfl ?_
  refine wp_blk (pc' := 12) (L' := [some (.ref 19), some (.ref 4), none]) (st' := [.ref 19]) (h' := zH (zui I 19 1 7) (zPr 6)) 1 rfl ?_
  refine wp_blk (pc' := 13) (L' := [some (.ref 19), some (.ref 4), none]) (st' := [.ref 19, .ref 19]) (h' := zH (zui I 19 1 7) (zPr 6)) 1 rfl ?_
  refine wp_blk (pc' := 16) (L' := [some (.ref 19), some (.ref 4), none]) (st' := [.int 7, .ref 19]) (h' := zH (zui I 19 1 7) (zPr 6)) 1 rfl ?_
  refine wp_callf (d := 68) (as := [.ref 19, .int 7]) (rest := []) (Ld := [some (.ref 19), some (.int 7)]) (pc' := 19) (st' := [.ref 41]) (r := some (.ref 41)) (h1 := zH (zui I 19 1 7) (zPr 6)) rfl rfl rfl rfl rfl rfl rfl rfl rfl (sp_at19_6_7 (X := X) (zui I 19 1 7)) ?_
  refine wp_blk (pc' := 20) (L' := [some (.ref 19), some (.ref 4), some (.ref 41)]) (st' := []) (h' := zH (zui I 19 1 7) (zPr 6)) 1 rfl ?_
  refine wp_blk (pc' := 21) (L' := [some (.ref 19), some (.ref 4), some (.ref 41)]) (st' := [.ref 41]) (h' := zH (zui I 19 1 7) (zPr 6)) 1 rfl ?_
  refine wp_blk (pc' := 24) (L' := [some (.ref 19), some (.ref 4), some (.ref 41)]) (st' := []) (h' := zH (zui I 19 1 7) (zPr 6)) 1 rfl ?_
  refine wp_blk (pc' := 25) (L' := [some (.ref 19), some (.ref 4), some (.ref 41)]) (st' := [.ref 41]) (h' := zH (zui I 19 1 7) (zPr 6)) 1 rfl ?_
  refine wp_blk (pc' := 26) (L' := [some (.ref 19), some (.ref 4), some (.ref 41)]) (st' := [.ref 4, .ref 41]) (h' := zH (zui I 19 1 7) (zPr 6)) 1 rfl ?_
  refine wp_callf (d := 37) (as := [.ref 41, .ref 4]) (rest := []) (Ld := [some (.ref 41), some (.ref 4)]) (pc' := 29) (st' := []) (r := none) (h1 := zH (g_M_copy 41 42 43 44 4 5 6 7 (zui I 19 1 7)) (zPr 6)) rfl rfl rfl rfl rfl rfl rfl rfl rfl (xp_M_copy_41_4 _ _ (0, (g_M_copy 41 42 43 44 4 5 6 7 (zui I 19 1 7))) rfl) ?_
  refine wp_blk (pc' := 30) (L' := [some (.ref 19), some (.ref 4), some (.ref 41)]) (st' := [.ref 19]) (h' := zH (g_M_copy 41 42 43 44 4 5 6 7 (zui I 19 1 7)) (zPr 6)) 1 rfl ?_
  refine wp_blk (pc' := 31) (L' := [some (.ref 19), some (.ref 4), some (.ref 41)]) (st' := [.ref 19, .ref 19]) (h' := zH (g_M_copy 41 42 43 44 4 5 6 7 (zui I 19 1 7)) (zPr 6)) 1 rfl ?_
  refine wp_blk (pc' := 34) (L' := [some (.ref 19), some (.ref 4), some (.ref 41)]) (st' := [.int ((g_M_copy 41 42 43 44 4 5 6 7 (zui I 19 1 7)) 19 1), .ref 19]) (h' := zH (g_M_copy 41 42 43 44 4 5 6 7 (zui I 19 1 7)) (zPr 6)) 1 rfl ?_
  refine wp_blk (pc' := 35) (L' := [some (.ref 19), some (.ref 4), some (.ref 41)]) (st' := [.int 1, .int ((g_M_copy 41 42 43 44 4 5 6 7 (zui I 19 1 7)) 19 1), .ref 19]) (h' := zH (g_M_copy 41 42 43 44 4 5 6 7 (zui I 19 1 7)) (zPr 6)) 1 rfl ?_
  refine wp_blk (pc' := 36) (L' := [some (.ref 19), some (.ref 4), some (.ref 41)]) (st' := [.int (((g_M_copy 41 42 43 44 4 5 6 7 (zui I 19 1 7)) 19 1) + 1), .ref 19]) (h' := zH (g_M_copy 41 42 43 44 4 5 6 7 (zui I 19 1 7)) (zPr 6)) 1 rfl ?_
  refine wp_blk (pc' := 39) (L' := [some (.ref 19), some (.ref 4), some (.ref 41)]) (st' := []) (h' := zH (zui (g_M_copy 41 42 43 44 4 5 6 7 (zui I 19 1 7)) 19 1 (((g_M_copy 41 42 43 44 4 5 6 7 (zui I 19 1 7)) 19 1) + 1)) (zPr 6)) 1 rfl ?_
  exact wp_end rfl rfl ⟨rfl, rfl⟩
set_option maxRecDepth 100000 in
theorem sp_take19_6_7 {X : Nat × (Nat → Int32)} (I : Nat → Nat → Int32) : Wf X 79 [some (.ref 19), some (.ref 4), none] (zH (zui I 19 1 7) (zPr 6)) (some (.int 1)) (zH (zui (g_M_copy 4 5 6 7 37 38 39 40 (zui I 19 1 7)) 19 1 (((g_M_copy 4 5 6 7 37 38 39 40 (zui I 19 1 7)) 19 1) - 1)) (zPr 6)) := by
  unfold Wf
  refine wp_blk (pc' := 1) (L' := [some (.ref 19), some (.ref 4), none]) (st' := [.ref 19]) (h' := zH (zui I 19 1 7) (zPr 6)) 1 rfl ?_
  refine wp_blk (pc' := 2) (L' := [some (.ref 19), some (.ref 4), none]) (st' := [.ref 19, .ref 19]) (h' := zH (zui I 19 1 7) (zPr 6)) 1 rfl ?_
  refine wp_blk (pc' := 5) (L' := [some (.ref 19), some (.ref 4), none]) (st' := [.int 7, .ref 19]) (h' := zH (zui I 19 1 7) (zPr 6)) 1 rfl ?_
  refine wp_blk (pc' := 6) (L' := [some (.ref 19), some (.ref 4), none]) (st' := [.int 1, .int 7, .ref 19]) (h' := zH (zui I 19 1 7) (zPr 6)) 1 rfl ?_
  refine wp_blk (pc' := 7) (L' := [some (.ref 19), some (.ref 4), none]) (st' := [.int 6, .ref 19]) (h' := zH (zui I 19 1 7) (zPr 6)) 1 rfl ?_
  refine wp_callf (d := 68) (as := [.ref 19, .int 6]) (rest := []) (Ld := [some (.ref 19), some (.int 6)]) (pc' := 10) (st' := [.ref 37]) (r := some (.ref 37)) (h1 := zH (zui I 19 1 7) (zPr 6)) rfl rfl rfl rfl rfl rfl rfl rfl rfl (sp_at19_6_6 (X := X) (zui I 19 1 7)) ?_
  refine wp_blk (pc' := 11) (L' := [some (.ref 19), some (.ref 4), some (.ref 37)]) (st' := []) (h' := zH (zui I 19 1 7) (zPr 6)) 1 rfl ?_
  refine wp_blk (pc' := 12) (L' := [some (.ref 19), some (.ref 4), some (.ref 37)]) (st' := [.ref 37]) (h' := zH (zui I 19 1 7) (zPr 6)) 1 rfl ?_
  refine wp_blk (pc' := 17) (L' := [some (.ref 19), some (.ref 4), some (.ref 37)]) (st' := []) (h' := zH (zui I 19 1 7) (zPr 6)) 1 rfl ?_
  refine wp_blk (pc' := 18) (L' := [some (.ref 19), some (.ref 4), some (.ref 37)]) (st' := [.ref 4]) (h' := zH (zui I 19 1 7) (zPr 6)) 1 rfl ?_
  refine wp_blk (pc' := 19) (L' := [some (.ref 19), some (.ref 4), some (.ref 37)]) (st' := [.ref 37, .ref 4]) (h' := zH (zui I 19 1 7) (zPr 6)) 1 rfl ?_
  refine wp_callf (d := 37) (as := [.ref 4, .ref 37]) (rest := []) (Ld := [some (.ref 4), some (.ref 37)]) (pc' := 22) (st' := []) (r := none) (h1 := zH (g_M_copy 4 5 6 7 37 38 39 40 (zui I 19 1 7)) (zPr 6)) rfl rfl rfl rfl rfl rfl rfl rfl rfl (xp_M_copy_4_37 _ _ (0, (g_M_copy 4 5 6 7 37 38 39 40 (zui I 19 1 7))) rfl) ?_
  refine wp_blk (pc' := 23) (L' := [some (.ref 19), some (.ref 4), some (.ref 37)]) (st' := [.ref 19]) (h' := zH (g_M_copy 4 5 6 7 37 38 39 40 (zui I 19 1 7)) (zPr 6)) 1 rfl ?_
  refine wp_blk (pc' := 24) (L' := [some (.ref 19), some (.ref 4), some (.ref 37)]) (st' := [.ref 19, .ref 19]) (h' := zH (g_M_copy 4 5 6 7 37 38 39 40 (zui I 19 1 7)) (zPr 6)) 1 rfl ?_
  refine wp_blk (pc' := 27) (L' := [some (.ref 19), some (.ref 4), some (.ref 37)]) (st' := [.int ((g_M_copy 4 5 6 7 37 38 39 40 (zui I 19 1 7)) 19 1), .ref 19]) (h' := zH (g_M_copy 4 5 6 7 37 38 39 40 (zui I 19 1 7)) (zPr 6)) 1 rfl ?_
  refine wp_blk (pc' := 28) (L' := [some (.ref 19), some (.ref 4), some (.ref 37)]) (st' := [.int 1, .int ((g_M_copy 4 5 6 7 37 38 39 40 (zui I 19 1 7)) 19 1), .ref 19]) (h' := zH (g_M_copy 4 5 6 7 37 38 39 40 (zui I 19 1 7)) (zPr 6)) 1 rfl ?_
  refine wp_blk (pc' := 29) (L' := [some (.ref 19), some (.ref 4), some (.ref 37)]) (st' := [.int (((g_M_copy 4 5 6 7 37 38 39 40 (zui I 19 1 7)) 19 1) - 1), .ref 19]) (h' := zH (g_M_copy 4 5 6 7 37 38 39 40 (zui I 19 1 7)) (zPr 6)) 1 rfl ?_
  refine wp_blk (pc' := 32) (L' := [some (.ref 19), some (.ref 4), some (.ref 37)]) (st' := []) (h' := zH (zui (g_M_copy 4 5 6 7 37 38 39 40 (zui I 19 1 7)) 19 1 (((g_M_copy 4 5 6 7 37 38 39 40 (zui I 19 1 7)) 19 1) - 1)) (zPr 6)) 1 rfl ?_
  refine wp_blk (pc' := 33) (L' := [some (.ref 19), some (.ref 4), some (.ref 37)]) (st' := [.int 1]) (h' := zH (zui (g_M_copy 4 5 6 7 37 38 39 40 (zui I 19 1 7)) 19 1 (((g_M_copy 4 5 6 7 37 38 39 40 (zui I 19 1 7)) 19 1) - 1)) (zPr 6)) 1 rfl ?_
  exact wp_end rfl rfl ⟨rfl, rfl⟩
set_option maxRecDepth 100000 in
theorem sp_put19_6_8 {X : Nat × (Nat → Int32)} (I : Nat → Nat → Int32) : Wf X 65 [some (.ref 19), some (.ref 4), none] (zH (zui I 19 1 8) (zPr 6)) none (zH (zui (g_M_copy 45 46 47 48 4 5 6 7 (zui (zui I 19 1 8) 19 1 7)) 19 1 (((g_M_copy 45 46 47 48 4 5 6 7 (zui (zui I 19 1 8) 19 1 7)) 19 1) + 1)) (zPr 7)) := by
  unfold Wf
  refine wp_blk (pc' := 1) (L' := [some (.ref 19), some (.ref 4), none]) (st' := [.ref 19]) (h' := zH (zui I 19 1 8) (zPr 6)) 1 rfl ?_
  refine wp_callf (d := 66) (as := [.ref 19]) (rest := []) (Ld := [some (.ref 19)]) (pc' := 4) (st' := [.int 1]) (r := some (.int 1)) (h1 := zH (zui I 19 1 8) (zPr 6)) rfl rfl rfl rfl rfl rfl rfl rfl rfl (sp_H1_isFull (X := X) (zui I 19 1 8) (zPr 6)) ?_
  refine wp_blk (pc' := 7) (L' := [some (.ref 19), some (.ref 4), none]) (st' := []) (h' := zH (zui I 19 1 8) (zPr 6)) 1 rfl ?_
  refine wp_blk (pc' := 8) (L' := [some (.ref 19), some (.ref 4), none]) (st' := [.ref 19]) (h' := zH (zui I 19 1 8) (zPr 6)) 1 rfl ?_
  refine wp_callf (d := 67) (as := [.ref 19]) (rest := []) (Ld := [some (.ref 19), none, none]) (pc' := 11) (st' := []) (r := none) (h1 := zH (zui (zui I 19 1 8) 19 1 7) (zPr 7)) rfl rfl rfl rfl rfl rfl rfl rfl rfl (sp_drop_6 (X := X) (zui I 19 1 8)) ?_
  refine wp_blk (pc' := 12) (L' := [some (.ref 19), some (.ref 4), none]) (st' := [.ref 19]) (h' := zH (zui (zui I 19 1 8) 19 1 7) (zPr 7)) 1 rfl ?_
  refine wp_blk (pc' := 13) (L' := [some (.ref 19), some (.ref 4), none]) (st' := [.ref 19, .ref 19]) (h' := zH (zui (zui I 19 1 8) 19 1 7) (zPr 7)) 1 rfl ?_
  refine wp_blk (pc' := 16) (L' := [some (.ref 19), some (.ref 4), none]) (st' := [.int 7, .ref 19]) (h' := zH (zui (zui I 19 1 8) 19 1 7) (zPr 7)) 1 rfl ?_
  refine wp_callf (d := 68) (as := [.ref 19, .int 7]) (rest := []) (Ld := [some (.ref 19), some (.int 7)]) (pc' := 19) (st' := [.ref 45]) (r := some (.ref 45)) (h1 := zH (zui (zui I 19 1 8) 19 1 7) (zPr 7)) rfl rfl rfl rfl rfl rfl rfl rfl rfl (sp_at19_7_7 (X := X) (zui (zui I 19 1 8) 19 1 7)) ?_
  refine wp_blk (pc' := 20) (L' := [some (.ref 19), some (.ref 4), some (.ref 45)]) (st' := []) (h' := zH (zui (zui I 19 1 8) 19 1 7) (zPr 7)) 1 rfl ?_
  refine wp_blk (pc' := 21) (L' := [some (.ref 19), some (.ref 4), some (.ref 45)]) (st' := [.ref 45]) (h' := zH (zui (zui I 19 1 8) 19 1 7) (zPr 7)) 1 rfl ?_
  refine wp_blk (pc' := 24) (L' := [some (.ref 19), some (.ref 4), some (.ref 45)]) (st' := []) (h' := zH (zui (zui I 19 1 8) 19 1 7) (zPr 7)) 1 rfl ?_
  refine wp_blk (pc' := 25) (L' := [some (.ref 19), some (.ref 4), some (.ref 45)]) (st' := [.ref 45]) (h' := zH (zui (zui I 19 1 8) 19 1 7) (zPr 7)) 1 rfl ?_
  refine wp_blk (pc' := 26) (L' := [some (.ref 19), some (.ref 4), some (.ref 45)]) (st' := [.ref 4, .ref 45]) (h' := zH (zui (zui I 19 1 8) 19 1 7) (zPr 7)) 1 rfl ?_
  refine wp_callf (d := 37) (as := [.ref 45, .ref 4]) (rest := []) (Ld := [some (.ref 45), some (.ref 4)]) (pc' := 29) (st' := []) (r := none) (h1 := zH (g_M_copy 45 46 47 48 4 5 6 7 (zui (zui I 19 1 8) 19 1 7)) (zPr 7)) rfl rfl rfl rfl rfl rfl rfl rfl rfl (xp_M_copy_45_4 _ _ (0, (g_M_copy 45 46 47 48 4 5 6 7 (zui (zui I 19 1 8) 19 1 7))) rfl) ?_
  refine wp_blk (pc' := 30) (L' := [some (.ref 19), some (.ref 4), some (.ref 45)]) (st' := [.ref 19]) (h' := zH (g_M_copy 45 46 47 48 4 5 6 7 (zui (zui I 19 1 8) 19 1 7)) (zPr 7)) 1 rfl ?_
  refine wp_blk (pc' := 31) (L' := [some (.ref 19), some (.ref 4), some (.ref 45)]) (st' := [.ref 19, .ref 19]) (h' := zH (g_M_copy 45 46 47 48 4 5 6 7 (zui (zui I 19 1 8) 19 1 7)) (zPr 7)) 1 rfl ?_
  refine wp_blk (pc' := 34) (L' := [some (.ref 19), some (.ref 4), some (.ref 45)]) (st' := [.int ((g_M_copy 45 46 47 48 4 5 6 7 (zui (zui I 19 1 8) 19 1 7)) 19 1), .ref 19]) (h' := zH (g_M_copy 45 46 47 48 4 5 6 7 (zui (zui I 19 1 8) 19 1 7)) (zPr 7)) 1 rfl ?_
  refine wp_blk (pc' := 35) (L' := [some (.ref 19), some (.ref 4), some (.ref 45)]) (st' := [.int 1, .int ((g_M_copy 45 46 47 48 4 5 6 7 (zui (zui I 19 1 8) 19 1 7)) 19 1), .ref 19]) (h' := zH (g_M_copy 45 46 47 48 4 5 6 7 (zui (zui I 19 1 8) 19 1 7)) (zPr 7)) 1 rfl ?_
  refine wp_blk (pc' := 36) (L' := [some (.ref 19), some (.ref 4), some (.ref 45)]) (st' := [.int (((g_M_copy 45 46 47 48 4 5 6 7 (zui (zui I 19 1 8) 19 1 7)) 19 1) + 1), .ref 19]) (h' := zH (g_M_copy 45 46 47 48 4 5 6 7 (zui (zui I 19 1 8) 19 1 7)) (zPr 7)) 1 rfl ?_
  refine wp_blk (pc' := 39) (L' := [some (.ref 19), some (.ref 4), some (.ref 45)]) (st' := []) (h' := zH (zui (g_M_copy 45 46 47 48 4 5 6 7 (zui (zui I 19 1 8) 19 1 7)) 19 1 (((g_M_copy 45 46 47 48 4 5 6 7 (zui (zui I 19 1 8) 19 1 7)) 19 1) + 1)) (zPr 7)) 1 rfl ?_
  exact wp_end rfl rfl ⟨rfl, rfl⟩
set_option maxRecDepth 100000 in
theorem sp_take19_6_8 {X : Nat × (Nat → Int32)} (I : Nat → Nat → Int32) : Wf X 79 [some (.ref 19), some (.ref 4), none] (zH (zui I 19 1 8) (zPr 6)) (some (.int 1)) (zH (zui (g_M_copy 4 5 6 7 41 42 43 44 (zui I 19 1 8)) 19 1 (((g_M_copy 4 5 6 7 41 42 43 44 (zui I 19 1 8)) 19 1) - 1)) (zPr 6)) := by
  unfold Wf
  refine wp_blk (pc' := 1) (L' := [some (.ref 19), some (.ref 4), none]) (st' := [.ref 19]) (h' := zH (zui I 19 1 8) (zPr 6)) 1 rfl ?_
  refine wp_blk (pc' := 2) (L' := [some (.ref 19), some (.ref 4), none]) (st' := [.ref 19, .ref 19]) (h' := zH (zui I 19 1 8) (zPr 6)) 1 rfl ?_
  refine wp_blk (pc' := 5) (L' := [some (.ref 19), some (.ref 4), none]) (st' := [.int 8, .ref 19]) (h' := zH (zui I 19 1 8) (zPr 6)) 1 rfl ?_
  refine wp_blk (pc' := 6) (L' := [some (.ref 19), some (.ref 4), none]) (st' := [.int 1, .int 8, .ref 19]) (h' := zH (zui I 19 1 8) (zPr 6)) 1 rfl ?_
  refine wp_blk (pc' := 7) (L' := [some (.ref 19), some (.ref 4), none]) (st' := [.int 7, .ref 19]) (h' := zH (zui I 19 1 8) (zPr 6)) 1 rfl ?_
  refine wp_callf (d := 68) (as := [.ref 19, .int 7]) (rest := []) (Ld := [some (.ref 19), some (.int 7)]) (pc' := 10) (st' := [.ref 41]) (r := some (.ref 41)) (h1 := zH (zui I 19 1 8) (zPr 6)) rfl rfl rfl rfl rfl rfl rfl rfl rfl (sp_at19_6_7 (X := X) (zui I 19 1 8)) ?_
  refine wp_blk (pc' := 11) (L' := [some (.ref 19), some (.ref 4), some (.ref 41)]) (st' := []) (h' := zH (zui I 19 1 8) (zPr 6)) 1 rfl ?_
  refine wp_blk (pc' := 12) (L' := [some (.ref 19), some (.ref 4), some (.ref 41)]) (st' := [.ref 41]) (h' := zH (zui I 19 1 8) (zPr 6)) 1 rfl ?_
  refine wp_blk (pc' := 17) (L' := [some (.ref 19), some (.ref 4), some (.ref 41)]) (st' := []) (h' := zH (zui I 19 1 8) (zPr 6)) 1 rfl ?_
  refine wp_blk (pc' := 18) (L' := [some (.ref 19), some (.ref 4), some (.ref 41)]) (st' := [.ref 4]) (h' := zH (zui I 19 1 8) (zPr 6)) 1 rfl ?_
  refine wp_blk (pc' := 19) (L' := [some (.ref 19), some (.ref 4), some (.ref 41)]) (st' := [.ref 41, .ref 4]) (h' := zH (zui I 19 1 8) (zPr 6)) 1 rfl ?_
  refine wp_callf (d := 37) (as := [.ref 4, .ref 41]) (rest := []) (Ld := [some (.ref 4), some (.ref 41)]) (pc' := 22) (st' := []) (r := none) (h1 := zH (g_M_copy 4 5 6 7 41 42 43 44 (zui I 19 1 8)) (zPr 6)) rfl rfl rfl rfl rfl rfl rfl rfl rfl (xp_M_copy_4_41 _ _ (0, (g_M_copy 4 5 6 7 41 42 43 44 (zui I 19 1 8))) rfl) ?_
  refine wp_blk (pc' := 23) (L' := [some (.ref 19), some (.ref 4), some (.ref 41)]) (st' := [.ref 19]) (h' := zH (g_M_copy 4 5 6 7 41 42 43 44 (zui I 19 1 8)) (zPr 6)) 1 rfl ?_
  refine wp_blk (pc' := 24) (L' := [some (.ref 19), some (.ref 4), some (.ref 41)]) (st' := [.ref 19, .ref 19]) (h' := zH (g_M_copy 4 5 6 7 41 42 43 44 (zui I 19 1 8)) (zPr 6)) 1 rfl ?_
  refine wp_blk (pc' := 27) (L' := [some (.ref 19), some (.ref 4), some (.ref 41)]) (st' := [.int ((g_M_copy 4 5 6 7 41 42 43 44 (zui I 19 1 8)) 19 1), .ref 19]) (h' := zH (g_M_copy 4 5 6 7 41 42 43 44 (zui I 19 1 8)) (zPr 6)) 1 rfl ?_
  refine wp_blk (pc' := 28) (L' := [some (.ref 19), some (.ref 4), some (.ref 41)]) (st' := [.int 1, .int ((g_M_copy 4 5 6 7 41 42 43 44 (zui I 19 1 8)) 19 1), .ref 19]) (h' := zH (g_M_copy 4 5 6 7 41 42 43 44 (zui I 19 1 8)) (zPr 6)) 1 rfl ?_
  refine wp_blk (pc' := 29) (L' := [some (.ref 19), some (.ref 4), some (.ref 41)]) (st' := [.int (((g_M_copy 4 5 6 7 41 42 43 44 (zui I 19 1 8)) 19 1) - 1), .ref 19]) (h' := zH (g_M_copy 4 5 6 7 41 42 43 44 (zui I 19 1 8)) (zPr 6)) 1 rfl ?_
  refine wp_blk (pc' := 32) (L' := [some (.ref 19), some (.ref 4), some (.ref 41)]) (st' := []) (h' := zH (zui (g_M_copy 4 5 6 7 41 42 43 44 (zui I 19 1 8)) 19 1 (((g_M_copy 4 5 6 7 41 42 43 44 (zui I 19 1 8)) 19 1) - 1)) (zPr 6)) 1 rfl ?_
  refine wp_blk (pc' := 33) (L' := [some (.ref 19), some (.ref 4), some (.ref 41)]) (st' := [.int 1]) (h' := zH (zui (g_M_copy 4 5 6 7 41 42 43 44 (zui I 19 1 8)) 19 1 (((g_M_copy 4 5 6 7 41 42 43 44 (zui I 19 1 8)) 19 1) - 1)) (zPr 6)) 1 rfl ?_
  exact wp_end rfl rfl ⟨rfl, rfl⟩
set_option maxRecDepth 100000 in
theorem sp_put19_7_0 {X : Nat × (Nat → Int32)} (I : Nat → Nat → Int32) : Wf X 65 [some (.ref 19), some (.ref 4), none] (zH (zui I 19 1 0) (zPr 7)) none (zH (zui (g_M_copy 49 50 51 52 4 5 6 7 (zui I 19 1 0)) 19 1 (((g_M_copy 49 50 51 52 4 5 6 7 (zui I 19 1 0)) 19 1) + 1)) (zPr 7)) := by
  unfold Wf
  refine wp_blk (pc' := 1) (L' := [some (.ref 19), some (.ref 4), none]) (st' := [.ref 19]) (h' := zH (zui I 19 1 0) (zPr 7)) 1 rfl ?_
  refine wp_callf (d := 66) (as := [.ref 19]) (rest := []) (Ld := [some (.ref 19)]) (pc' := 4) (st' := [.int 0]) (r := some (.int 0)) (h1 := zH (zui I 19 1 0) (zPr 7)) rfl rfl rfl rfl rfl rfl rfl rfl rfl (sp_H1_isFull (X := X) (zui I 19 1 0) (zPr 7)) ?_
  refine wp_blk (pc' := 11) (L' := [some (.ref 19), some (.ref 4), none]) (st' := []) (h' := zH (zui I 19 1 0) (zPr 7)) 1 rfl ?_
  refine wp_blk (pc' := 12) (L' := [some (.ref 19), some (.ref 4), none]) (st' := [.ref 19]) (h' := zH (zui I 19 1 0) (zPr 7)) 1 rfl ?_
  refine wp_blk (pc' := 13) (L' := [some (.ref 19), some (.ref 4), none]) (st' := [.ref 19, .ref 19]) (h' := zH (zui I 19 1 0) (zPr 7)) 1 rfl ?_
  refine wp_blk (pc' := 16) (L' := [some (.ref 19), some (.ref 4), none]) (st' := [.int 0, .ref 19]) (h' := zH (zui I 19 1 0) (zPr 7)) 1 rfl ?_
  refine wp_callf (d := 68) (as := [.ref 19, .int 0]) (rest := []) (Ld := [some (.ref 19), some (.int 0)]) (pc' := 19) (st' := [.ref 49]) (r := some (.ref 49)) (h1 := zH (zui I 19 1 0) (zPr 7)) rfl rfl rfl rfl rfl rfl rfl rfl rfl (sp_at19_7_0 (X := X) (zui I 19 1 0)) ?_
  refine wp_blk (pc' := 20) (L' := [some (.ref 19), some (.ref 4), some (.ref 49)]) (st' := []) (h' := zH (zui I 19 1 0) (zPr 7)) 1 rfl ?_
  refine wp_blk (pc' := 21) (L' := [some (.ref 19), some (.ref 4), some (.ref 49)]) (st' := [.ref 49]) (h' := zH (zui I 19 1 0) (zPr 7)) 1 rfl ?_
  refine wp_blk (pc' := 24) (L' := [some (.ref 19), some (.ref 4), some (.ref 49)]) (st' := []) (h' := zH (zui I 19 1 0) (zPr 7)) 1 rfl ?_
  refine wp_blk (pc' := 25) (L' := [some (.ref 19), some (.ref 4), some (.ref 49)]) (st' := [.ref 49]) (h' := zH (zui I 19 1 0) (zPr 7)) 1 rfl ?_
  refine wp_blk (pc' := 26) (L' := [some (.ref 19), some (.ref 4), some (.ref 49)]) (st' := [.ref 4, .ref 49]) (h' := zH (zui I 19 1 0) (zPr 7)) 1 rfl ?_
  refine wp_callf (d := 37) (as := [.ref 49, .ref 4]) (rest := []) (Ld := [some (.ref 49), some (.ref 4)]) (pc' := 29) (st' := []) (r := none) (h1 := zH (g_M_copy 49 50 51 52 4 5 6 7 (zui I 19 1 0)) (zPr 7)) rfl rfl rfl rfl rfl rfl rfl rfl rfl (xp_M_copy_49_4 _ _ (0, (g_M_copy 49 50 51 52 4 5 6 7 (zui I 19 1 0))) rfl) ?_
  refine wp_blk (pc' := 30) (L' := [some (.ref 19), some (.ref 4), some (.ref 49)]) (st' := [.ref 19]) (h' := zH (g_M_copy 49 50 51 52 4 5 6 7 (zui I 19 1 0)) (zPr 7)) 1 rfl ?_
  refine wp_blk (pc' := 31) (L' := [some (.ref 19), some (.ref 4), some (.ref 49)]) (st' := [.ref 19, .ref 19]) (h' := zH (g_M_copy 49 50 51 52 4 5 6 7 (zui I 19 1 0)) (zPr 7)) 1 rfl ?_
  refine wp_blk (pc' := 34) (L' := [some (.ref 19), some (.ref 4), some (.ref 49)]) (st' := [.int ((g_M_copy 49 50 51 52 4 5 6 7 (zui I 19 1 0)) 19 1), .ref 19]) (h' := zH (g_M_copy 49 50 51 52 4 5 6 7 (zui I 19 1 0)) (zPr 7)) 1 rfl ?_
  refine wp_blk (pc' := 35) (L' := [some (.ref 19), some (.ref 4), some (.ref 49)]) (st' := [.int 1, .int ((g_M_copy 49 50 51 52 4 5 6 7 (zui I 19 1 0)) 19 1), .ref 19]) (h' := zH (g_M_copy 49 50 51 52 4 5 6 7 (zui I 19 1 0)) (zPr 7)) 1 rfl ?_
  refine wp_blk (pc' := 36) (L' := [some (.ref 19), some (.ref 4), some (.ref 49)]) (st' := [.int (((g_M_copy 49 50 51 52 4 5 6 7 (zui I 19 1 0)) 19 1) + 1), .ref 19]) (h' := zH (g_M_copy 49 50 51 52 4 5 6 7 (zui I 19 1 0)) (zPr 7)) 1 rfl ?_
  refine wp_blk (pc' := 39) (L' := [some (.ref 19), some (.ref 4), some (.ref 49)]) (st' := []) (h' := zH (zui (g_M_copy 49 50 51 52 4 5 6 7 (zui I 19 1 0)) 19 1 (((g_M_copy 49 50 51 52 4 5 6 7 (zui I 19 1 0)) 19 1) + 1)) (zPr 7)) 1 rfl ?_
  exact wp_end rfl rfl ⟨rfl, rfl⟩
set_option maxRecDepth 100000 in
theorem sp_take19_7_0 {X : Nat × (Nat → Int32)} (I : Nat → Nat → Int32) : Wf X 79 [some (.ref 19), some (.ref 4), none] (zH (zui I 19 1 0) (zPr 7)) (some (.int 0)) (zH (zui I 19 1 0) (zPr 7)) := by
  unfold Wf
  refine wp_blk (pc' := 1) (L' := [some (.ref 19), some (.ref 4), none]) (st' := [.ref 19]) (h' := zH (zui I 19 1 0) (zPr 7)) 1 rfl ?_
  refine wp_blk (pc' := 2) (L' := [some (.ref 19), some (.ref 4), none]) (st' := [.ref 19, .ref 19]) (h' := zH (zui I 19 1 0) (zPr 7)) 1 rfl ?_
  refine wp_blk (pc' := 5) (L' := [some (.ref 19), some (.ref 4), none]) (st' := [.int 0, .ref 19]) (h' := zH (zui I 19 1 0) (zPr 7)) 1 rfl ?_
  refine wp_blk (pc' := 6) (L' := [some (.ref 19), some (.ref 4), none]) (st' := [.int 1, .int 0, .ref 19]) (h' := zH (zui I 19 1 0) (zPr 7)) 1 rfl ?_
  refine wp_blk (pc' := 7) (L' := [some (.ref 19), some (.ref 4), none]) (st' := [.int (-1), .ref 19]) (h' := zH (zui I 19 1 0) (zPr 7)) 1 rfl ?_
  refine wp_callf (d := 68) (as := [.ref 19, .int (-1)]) (rest := []) (Ld := [some (.ref 19), some (.int (-1))]) (pc' := 10) (st' := [.null]) (r := some (.null)) (h1 := zH (zui I 19 1 0) (zPr 7)) rfl rfl rfl rfl rfl rfl rfl rfl rfl (sp_at19_7_m (X := X) (zui I 19 1 0)) ?_
  refine wp_blk (pc' := 11) (L' := [some (.ref 19), some (.ref 4), some (.null)]) (st' := []) (h' := zH (zui I 19 1 0) (zPr 7)) 1 rfl ?_
  refine wp_blk (pc' := 12) (L' := [some (.ref 19), some (.ref 4), some (.null)]) (st' := [.null]) (h' := zH (zui I 19 1 0) (zPr 7)) 1 rfl ?_
  refine wp_blk (pc' := 15) (L' := [some (.ref 19), some (.ref 4), some (.null)]) (st' := []) (h' := zH (zui I 19 1 0) (zPr 7)) 1 rfl ?_
  refine wp_blk (pc' := 16) (L' := [some (.ref 19), some (.ref 4), some (.null)]) (st' := [.int 0]) (h' := zH (zui I 19 1 0) (zPr 7)) 1 rfl ?_
  exact wp_end rfl rfl ⟨rfl, rfl⟩
set_option maxRecDepth 100000 in
theorem sp_put19_7_1 {X : Nat × (Nat → Int32)} (I : Nat → Nat → Int32) : Wf X 65 [some (.ref 19), some (.ref 4), none] (zH (zui I 19 1 1) (zPr 7)) none (zH (zui (g_M_copy 21 22 23 24 4 5 6 7 (zui I 19 1 1)) 19 1 (((g_M_copy 21 22 23 24 4 5 6 7 (zui I 19 1 1)) 19 1) + 1)) (zPr 7)) := by
  unfold Wf
  refine wp_blk (pc' := 1) (L' := [some (.ref 19), some (.ref 4), none]) (st' := [.ref 19]) (h' := zH (zui I 19 1 1) (zPr 7)) 1 rfl ?_
  refine wp_callf (d := 66) (as := [.ref 19]) (rest := []) (Ld := [some (.ref 19)]) (pc' := 4) (st' := [.int 0]) (r := some (.int 0)) (h1 := zH (zui I 19 1 1) (zPr 7)) rfl rfl rfl rfl rfl rfl rfl rfl rfl (sp_H1_isFull (X := X) (zui I 19 1 1) (zPr 7)) ?_
  refine wp_blk (pc' := 11) (L' := [some (.ref 19), some (.ref 4), none]) (st' := []) (h' := zH (zui I 19 1 1) (zPr 7)) 1 rfl ?_
  refine wp_blk (pc' := 12) (L' := [some (.ref 19), some (.ref 4), none]) (st' := [.ref 19]) (h' := zH (zui I 19 1 1) (zPr 7)) 1 rfl ?_
  refine wp_blk (pc' := 13) (L' := [some (.ref 19), some (.ref 4), none]) (st' := [.ref 19, .ref 19]) (h' := zH (zui I 19 1 1) (zPr 7)) 1 rfl ?_
  refine wp_blk (pc' := 16) (L' := [some (.ref 19), some (.ref 4), none]) (st' := [.int 1, .ref 19]) (h' := zH (zui I 19 1 1) (zPr 7)) 1 rfl ?_
  refine wp_callf (d := 68) (as := [.ref 19, .int 1]) (rest := []) (Ld := [some (.ref 19), some (.int 1)]) (pc' := 19) (st' := [.ref 21]) (r := some (.ref 21)) (h1 := zH (zui I 19 1 1) (zPr 7)) rfl rfl rfl rfl rfl rfl rfl rfl rfl (sp_at19_7_1 (X := X) (zui I 19 1 1)) ?_
  refine wp_blk (pc' := 20) (L' := [some (.ref 19), some (.ref 4), some (.ref 21)]) (st' := []) (h' := zH (zui I 19 1 1) (zPr 7)) 1 rfl ?_
  refine wp_blk (pc' := 21) (L' := [some (.ref 19), some (.ref 4), some (.ref 21)]) (st' := [.ref 21]) (h' := zH (zui I 19 1 1) (zPr 7)) 1 rfl ?_
  refine wp_blk (pc' := 24) (L' := [some (.ref 19), some (.ref 4), some (.ref 21)]) (st' := []) (h' := zH (zui I 19 1 1) (zPr 7)) 1 rfl ?_
  refine wp_blk (pc' := 25) (L' := [some (.ref 19), some (.ref 4), some (.ref 21)]) (st' := [.ref 21]) (h' := zH (zui I 19 1 1) (zPr 7)) 1 rfl ?_
  refine wp_blk (pc' := 26) (L' := [some (.ref 19), some (.ref 4), some (.ref 21)]) (st' := [.ref 4, .ref 21]) (h' := zH (zui I 19 1 1) (zPr 7)) 1 rfl ?_
  refine wp_callf (d := 37) (as := [.ref 21, .ref 4]) (rest := []) (Ld := [some (.ref 21), some (.ref 4)]) (pc' := 29) (st' := []) (r := none) (h1 := zH (g_M_copy 21 22 23 24 4 5 6 7 (zui I 19 1 1)) (zPr 7)) rfl rfl rfl rfl rfl rfl rfl rfl rfl (xp_M_copy_21_4 _ _ (0, (g_M_copy 21 22 23 24 4 5 6 7 (zui I 19 1 1))) rfl) ?_
  refine wp_blk (pc' := 30) (L' := [some (.ref 19), some (.ref 4), some (.ref 21)]) (st' := [.ref 19]) (h' := zH (g_M_copy 21 22 23 24 4 5 6 7 (zui I 19 1 1)) (zPr 7)) 1 rfl ?_
  refine wp_blk (pc' := 31) (L' := [some (.ref 19), some (.ref 4), some (.ref 21)]) (st' := [.ref 19, .ref 19]) (h' := zH (g_M_copy 21 22 23 24 4 5 6 7 (zui I 19 1 1)) (zPr 7)) 1 rfl ?_
  refine wp_blk (pc' := 34) (L' := [some (.ref 19), some (.ref 4), some (.ref 21)]) (st' := [.int ((g_M_copy 21 22 23 24 4 5 6 7 (zui I 19 1 1)) 19 1), .ref 19]) (h' := zH (g_M_copy 21 22 23 24 4 5 6 7 (zui I 19 1 1)) (zPr 7)) 1 rfl ?_
  refine wp_blk (pc' := 35) (L' := [some (.ref 19), some (.ref 4), some (.ref 21)]) (st' := [.int 1, .int ((g_M_copy 21 22 23 24 4 5 6 7 (zui I 19 1 1)) 19 1), .ref 19]) (h' := zH (g_M_copy 21 22 23 24 4 5 6 7 (zui I 19 1 1)) (zPr 7)) 1 rfl ?_
  refine wp_blk (pc' := 36) (L' := [some (.ref 19), some (.ref 4), some (.ref 21)]) (st' := [.int (((g_M_copy 21 22 23 24 4 5 6 7 (zui I 19 1 1)) 19 1) + 1), .ref 19]) (h' := zH (g_M_copy 21 22 23 24 4 5 6 7 (zui I 19 1 1)) (zPr 7)) 1 rfl ?_
  refine wp_blk (pc' := 39) (L' := [some (.ref 19), some (.ref 4), some (.ref 21)]) (st' := []) (h' := zH (zui (g_M_copy 21 22 23 24 4 5 6 7 (zui I 19 1 1)) 19 1 (((g_M_copy 21 22 23 24 4 5 6 7 (zui I 19 1 1)) 19 1) + 1)) (zPr 7)) 1 rfl ?_
  exact wp_end rfl rfl ⟨rfl, rfl⟩
set_option maxRecDepth 100000 in
theorem sp_take19_7_1 {X : Nat × (Nat → Int32)} (I : Nat → Nat → Int32) : Wf X 79 [some (.ref 19), some (.ref 4), none] (zH (zui I 19 1 1) (zPr 7)) (some (.int 1)) (zH (zui (g_M_copy 4 5 6 7 49 50 51 52 (zui I 19 1 1)) 19 1 (((g_M_copy 4 5 6 7 49 50 51 52 (zui I 19 1 1)) 19 1) - 1)) (zPr 7)) := by
  unfold Wf
  refine wp_blk (pc' := 1) (L' := [some (.ref 19), some (.ref 4), none]) (st' := [.ref 19]) (h' := zH (zui I 19 1 1) (zPr 7)) 1 rfl ?_
  refine wp_blk (pc' := 2) (L' := [some (.ref 19), some (.ref 4), none]) (st' := [.ref 19, .ref 19]) (h' := zH (zui I 19 1 1) (zPr 7)) 1 rfl ?_
  refine wp_blk (pc' := 5) (L' := [some (.ref 19), some (.ref 4), none]) (st' := [.int 1, .ref 19]) (h' := zH (zui I 19 1 1) (zPr 7)) 1 rfl ?_
  refine wp_blk (pc' := 6) (L' := [some (.ref 19), some (.ref 4), none]) (st' := [.int 1, .int 1, .ref 19]) (h' := zH (zui I 19 1 1) (zPr 7)) 1 rfl ?_
  refine wp_blk (pc' := 7) (L' := [some (.ref 19), some (.ref 4), none]) (st' := [.int 0, .ref 19]) (h' := zH (zui I 19 1 1) (zPr 7)) 1 rfl ?_
  refine wp_callf (d := 68) (as := [.ref 19, .int 0]) (rest := []) (Ld := [some (.ref 19), some (.int 0)]) (pc' := 10) (st' := [.ref 49]) (r := some (.ref 49)) (h1 := zH (zui I 19 1 1) (zPr 7)) rfl rfl rfl rfl rfl rfl rfl rfl rfl (sp_at19_7_0 (X := X) (zui I 19 1 1)) ?_
  refine wp_blk (pc' := 11) (L' := [some (.ref 19), some (.ref 4), some (.ref 49)]) (st' := []) (h' := zH (zui I 19 1 1) (zPr 7)) 1 rfl ?_
  refine wp_blk (pc' := 12) (L' := [some (.ref 19), some (.ref 4), some (.ref 49)]) (st' := [.ref 49]) (h' := zH (zui I 19 1 1) (zPr 7)) 1 rfl ?_
  refine wp_blk (pc' := 17) (L' := [some (.ref 19), some (.ref 4), some (.ref 49)]) (st' := []) (h' := zH (zui I 19 1 1) (zPr 7)) 1 rfl ?_
  refine wp_blk (pc' := 18) (L' := [some (.ref 19), some (.ref 4), some (.ref 49)]) (st' := [.ref 4]) (h' := zH (zui I 19 1 1) (zPr 7)) 1 rfl ?_
  refine wp_blk (pc' := 19) (L' := [some (.ref 19), some (.ref 4), some (.ref 49)]) (st' := [.ref 49, .ref 4]) (h' := zH (zui I 19 1 1) (zPr 7)) 1 rfl ?_
  refine wp_callf (d := 37) (as := [.ref 4, .ref 49]) (rest := []) (Ld := [some (.ref 4), some (.ref 49)]) (pc' := 22) (st' := []) (r := none) (h1 := zH (g_M_copy 4 5 6 7 49 50 51 52 (zui I 19 1 1)) (zPr 7)) rfl rfl rfl rfl rfl rfl rfl rfl rfl (xp_M_copy_4_49 _ _ (0, (g_M_copy 4 5 6 7 49 50 51 52 (zui I 19 1 1))) rfl) ?_
  refine wp_blk (pc' := 23) (L' := [some (.ref 19), some (.ref 4), some (.ref 49)]) (st' := [.ref 19]) (h' := zH (g_M_copy 4 5 6 7 49 50 51 52 (zui I 19 1 1)) (zPr 7)) 1 rfl ?_
  refine wp_blk (pc' := 24) (L' := [some (.ref 19), some (.ref 4), some (.ref 49)]) (st' := [.ref 19, .ref 19]) (h' := zH (g_M_copy 4 5 6 7 49 50 51 52 (zui I 19 1 1)) (zPr 7)) 1 rfl ?_
  refine wp_blk (pc' := 27) (L' := [some (.ref 19), some (.ref 4), some (.ref 49)]) (st' := [.int ((g_M_copy 4 5 6 7 49 50 51 52 (zui I 19 1 1)) 19 1), .ref 19]) (h' := zH (g_M_copy 4 5 6 7 49 50 51 52 (zui I 19 1 1)) (zPr 7)) 1 rfl ?_
  refine wp_blk (pc' := 28) (L' := [some (.ref 19), some (.ref 4), some (.ref 49)]) (st' := [.int 1, .int ((g_M_copy 4 5 6 7 49 50 51 52 (zui I 19 1 1)) 19 1), .ref 19]) (h' := zH (g_M_copy 4 5 6 7 49 50 51 52 (zui I 19 1 1)) (zPr 7)) 1 rfl ?_
  refine wp_blk (pc' := 29) (L' := [some (.ref 19), some (.ref 4), some (.ref 49)]) (st' := [.int (((g_M_copy 4 5 6 7 49 50 51 52 (zui I 19 1 1)) 19 1) - 1), .ref 19]) (h' := zH (g_M_copy 4 5 6 7 49 50 51 52 (zui I 19 1 1)) (zPr 7)) 1 rfl ?_
  refine wp_blk (pc' := 32) (L' := [some (.ref 19), some (.ref 4), some (.ref 49)]) (st' := []) (h' := zH (zui (g_M_copy 4 5 6 7 49 50 51 52 (zui I 19 1 1)) 19 1 (((g_M_copy 4 5 6 7 49 50 51 52 (zui I 19 1 1)) 19 1) - 1)) (zPr 7)) 1 rfl ?_
  refine wp_blk (pc' := 33) (L' := [some (.ref 19), some (.ref 4), some (.ref 49)]) (st' := [.int 1]) (h' := zH (zui (g_M_copy 4 5 6 7 49 50 51 52 (zui I 19 1 1)) 19 1 (((g_M_copy 4 5 6 7 49 50 51 52 (zui I 19 1 1)) 19 1) - 1)) (zPr 7)) 1 rfl ?_
  exact wp_end rfl rfl ⟨rfl, rfl⟩
set_option maxRecDepth 100000 in
theorem sp_put19_7_2 {X : Nat × (Nat → Int32)} (I : Nat → Nat → Int32) : Wf X 65 [some (.ref 19), some (.ref 4), none] (zH (zui I 19 1 2) (zPr 7)) none (zH (zui (g_M_copy 25 26 27 28 4 5 6 7 (zui I 19 1 2)) 19 1 (((g_M_copy 25 26 27 28 4 5 6 7 (zui I 19 1 2)) 19 1) + 1)) (zPr 7)) := by
  unfold Wf
  refine wp_blk (pc' := 1) (L' := [some (.ref 19), some (.ref 4), none]) (st' := [.ref 19]) (h' := zH (zui I 19 1 2) (zPr 7)) 1 rfl ?_
  refine wp_callf (d := 66) (as := [.ref 19]) (rest := []) (Ld := [some (.ref 19)]) (pc' := 4) (st' := [.int 0]) (r := some (.int 0)) (h1 := zH (zui I 19 1 2) (zPr 7)) rfl rfl rfl rfl rfl rfl rfl rfl rfl (sp_H1_isFull (X := X) (zui I 19 1 2) (zPr 7)) ?_
  refine wp_blk (pc' := 11) (L' := [some (.ref 19), some (.ref 4), none]) (st' := []) (h' := zH (zui I 19 1 2) (zPr 7)) 1 rfl ?_
  refine wp_blk (pc' := 12) (L' := [some (.ref 19), some (.ref 4), none]) (st' := [.ref 19]) (h' := zH (zui I 19 1 2) (zPr 7)) 1 rfl ?_
  refine wp_blk (pc' := 13) (L' := [some (.ref 19), some (.ref 4), none]) (st' := [.ref 19, .ref 19]) (h' := zH (zui I 19 1 2) (zPr 7)) 1 rfl ?_
  refine wp_blk (pc' := 16) (L' := [some (.ref 19), some (.ref 4), none]) (st' := [.int 2, .ref 19]) (h' := zH (zui I 19 1 2) (zPr 7)) 1 rfl ?_
  refine wp_callf (d := 68) (as := [.ref 19, .int 2]) (rest := []) (Ld := [some (.ref 19), some (.int 2)]) (pc' := 19) (st' := [.ref 25]) (r := some (.ref 25)) (h1 := zH (zui I 19 1 2) (zPr 7)) rfl rfl rfl rfl rfl rfl rfl rfl rfl (sp_at19_7_2 (X := X) (zui I 19 1 2)) ?_
  refine wp_blk (pc' := 20) (L' := [some (.ref 19), some (.ref 4), some (.ref 25)]) (st' := []) (h' := zH (zui I 19 1 2) (zPr 7)) 1 rfl ?_
  refine wp_blk (pc' := 21) (L' := [some (.ref 19), some (.ref 4), some (.ref 25)]) (st' := [.ref 25]) (h' := zH (zui I 19 1 2) (zPr 7)) 1 rfl ?_
  refine wp_blk (pc' := 24) (L' := [some (.ref 19), some (.ref 4), some (.ref 25)]) (st' := []) (h' := zH (zui I 19 1 2) (zPr 7)) 1 rfl ?_
  refine wp_blk (pc' := 25) (L' := [some (.ref 19), some (.ref 4), some (.ref 25)]) (st' := [.ref 25]) (h' := zH (zui I 19 1 2) (zPr 7)) 1 rfl ?_
  refine wp_blk (pc' := 26) (L' := [some (.ref 19), some (.ref 4), some (.ref 25)]) (st' := [.ref 4, .ref 25]) (h' := zH (zui I 19 1 2) (zPr 7)) 1 rfl ?_
  refine wp_callf (d := 37) (as := [.ref 25, .ref 4]) (rest := []) (Ld := [some (.ref 25), some (.ref 4)]) (pc' := 29) (st' := []) (r := none) (h1 := zH (g_M_copy 25 26 27 28 4 5 6 7 (zui I 19 1 2)) (zPr 7)) rfl rfl rfl rfl rfl rfl rfl rfl rfl (xp_M_copy_25_4 _ _ (0, (g_M_copy 25 26 27 28 4 5 6 7 (zui I 19 1 2))) rfl) ?_
  refine wp_blk (pc' := 30) (L' := [some (.ref 19), some (.ref 4), some (.ref 25)]) (st' := [.ref 19]) (h' := zH (g_M_copy 25 26 27 28 4 5 6 7 (zui I 19 1 2)) (zPr 7)) 1 rfl ?_
  refine wp_blk (pc' := 31) (L' := [some (.ref 19), some (.ref 4), some (.ref 25)]) (st' := [.ref 19, .ref 19]) (h' := zH (g_M_copy 25 26 27 28 4 5 6 7 (zui I 19 1 2)) (zPr 7)) 1 rfl ?_
  refine wp_blk (pc' := 34) (L' := [some (.ref 19), some (.ref 4), some (.ref 25)]) (st' := [.int ((g_M_copy 25 26 27 28 4 5 6 7 (zui I 19 1 2)) 19 1), .ref 19]) (h' := zH (g_M_copy 25 26 27 28 4 5 6 7 (zui I 19 1 2)) (zPr 7)) 1 rfl ?_
  refine wp_blk (pc' := 35) (L' := [some (.ref 19), some (.ref 4), some (.ref 25)]) (st' := [.int 1, .int ((g_M_copy 25 26 27 28 4 5 6 7 (zui I 19 1 2)) 19 1), .ref 19]) (h' := zH (g_M_copy 25 26 27 28 4 5 6 7 (zui I 19 1 2)) (zPr 7)) 1 rfl ?_
  refine wp_blk (pc' := 36) (L' := [some (.ref 19), some (.ref 4), some (.ref 25)]) (st' := [.int (((g_M_copy 25 26 27 28 4 5 6 7 (zui I 19 1 2)) 19 1) + 1), .ref 19]) (h' := zH (g_M_copy 25 26 27 28 4 5 6 7 (zui I 19 1 2)) (zPr 7)) 1 rfl ?_
  refine wp_blk (pc' := 39) (L' := [some (.ref 19), some (.ref 4), some (.ref 25)]) (st' := []) (h' := zH (zui (g_M_copy 25 26 27 28 4 5 6 7 (zui I 19 1 2)) 19 1 (((g_M_copy 25 26 27 28 4 5 6 7 (zui I 19 1 2)) 19 1) + 1)) (zPr 7)) 1 rfl ?_
  exact wp_end rfl rfl ⟨rfl, rfl⟩
set_option maxRecDepth 100000 in
theorem sp_take19_7_2 {X : Nat × (Nat → Int32)} (I : Nat → Nat → Int32) : Wf X 79 [some (.ref 19), some (.ref 4), none] (zH (zui I 19 1 2) (zPr 7)) (some (.int 1)) (zH (zui (g_M_copy 4 5 6 7 21 22 23 24 (zui I 19 1 2)) 19 1 (((g_M_copy 4 5 6 7 21 22 23 24 (zui I 19 1 2)) 19 1) - 1)) (zPr 7)) := by
  unfold Wf
  refine wp_blk (pc' := 1) (L' := [some (.ref 19), some (.ref 4), none]) (st' := [.ref 19]) (h' := zH (zui I 19 1 2) (zPr 7)) 1 rfl ?_
  refine wp_blk (pc' := 2) (L' := [some (.ref 19), some (.ref 4), none]) (st' := [.ref 19, .ref 19]) (h' := zH (zui I 19 1 2) (zPr 7)) 1 rfl ?_
  refine wp_blk (pc' := 5) (L' := [some (.ref 19), some (.ref 4), none]) (st' := [.int 2, .ref 19]) (h' := zH (zui I 19 1 2) (zPr 7)) 1 rfl ?_
  refine wp_blk (pc' := 6) (L' := [some (.ref 19), some (.ref 4), none]) (st' := [.int 1, .int 2, .ref 19]) (h' := zH (zui I 19 1 2) (zPr 7)) 1 rfl ?_
  refine wp_blk (pc' := 7) (L' := [some (.ref 19), some (.ref 4), none]) (st' := [.int 1, .ref 19]) (h' := zH (zui I 19 1 2) (zPr 7)) 1 rfl ?_
  refine wp_callf (d := 68) (as := [.ref 19, .int 1]) (rest := []) (Ld := [some (.ref 19), some (.int 1)]) (pc' := 10) (st' := [.ref 21]) (r := some (.ref 21)) (h1 := zH (zui I 19 1 2) (zPr 7)) rfl rfl rfl rfl rfl rfl rfl rfl rfl (sp_at19_7_1 (X := X) (zui I 19 1 2)) ?_
  refine wp_blk (pc' := 11) (L' := [some (.ref 19), some (.ref 4), some (.ref 21)]) (st' := []) (h' := zH (zui I 19 1 2) (zPr 7)) 1 rfl ?_
  refine wp_blk (pc' := 12) (L' := [some (.ref 19), some (.ref 4), some (.ref 21)]) (st' := [.ref 21]) (h' := zH (zui I 19 1 2) (zPr 7)) 1 rfl ?_
  refine wp_blk (pc' := 17) (L' := [some (.ref 19), some (.ref 4), some (.ref 21)]) (st' := []) (h' := zH (zui I 19 1 2) (zPr 7)) 1 rfl ?_
  refine wp_blk (pc' := 18) (L' := [some (.ref 19), some (.ref 4), some (.ref 21)]) (st' := [.ref 4]) (h' := zH (zui I 19 1 2) (zPr 7)) 1 rfl ?_
  refine wp_blk (pc' := 19) (L' := [some (.ref 19), some (.ref 4), some (.ref 21)]) (st' := [.ref 21, .ref 4]) (h' := zH (zui I 19 1 2) (zPr 7)) 1 rfl ?_
  refine wp_callf (d := 37) (as := [.ref 4, .ref 21]) (rest := []) (Ld := [some (.ref 4), some (.ref 21)]) (pc' := 22) (st' := []) (r := none) (h1 := zH (g_M_copy 4 5 6 7 21 22 23 24 (zui I 19 1 2)) (zPr 7)) rfl rfl rfl rfl rfl rfl rfl rfl rfl (xp_M_copy_4_21 _ _ (0, (g_M_copy 4 5 6 7 21 22 23 24 (zui I 19 1 2))) rfl) ?_
  refine wp_blk (pc' := 23) (L' := [some (.ref 19), some (.ref 4), some (.ref 21)]) (st' := [.ref 19]) (h' := zH (g_M_copy 4 5 6 7 21 22 23 24 (zui I 19 1 2)) (zPr 7)) 1 rfl ?_
  refine wp_blk (pc' := 24) (L' := [some (.ref 19), some (.ref 4), some (.ref 21)]) (st' := [.ref 19, .ref 19]) (h' := zH (g_M_copy 4 5 6 7 21 22 23 24 (zui I 19 1 2)) (zPr 7)) 1 rfl ?_
  refine wp_blk (pc' := 27) (L' := [some (.ref 19), some (.ref 4), some (.ref 21)]) (st' := [.int ((g_M_copy 4 5 6 7 21 22 23 24 (zui I 19 1 2)) 19 1), .ref 19]) (h' := zH (g_M_copy 4 5 6 7 21 22 23 24 (zui I 19 1 2)) (zPr 7)) 1 rfl ?_
  refine wp_blk (pc' := 28) (L' := [some (.ref 19), some (.ref 4), some (.ref 21)]) (st' := [.int 1, .int ((g_M_copy 4 5 6 7 21 22 23 24 (zui I 19 1 2)) 19 1), .ref 19]) (h' := zH (g_M_copy 4 5 6 7 21 22 23 24 (zui I 19 1 2)) (zPr 7)) 1 rfl ?_
  refine wp_blk (pc' := 29) (L' := [some (.ref 19), some (.ref 4), some (.ref 21)]) (st' := [.int (((g_M_copy 4 5 6 7 21 22 23 24 (zui I 19 1 2)) 19 1) - 1), .ref 19]) (h' := zH (g_M_copy 4 5 6 7 21 22 23 24 (zui I 19 1 2)) (zPr 7)) 1 rfl ?_
  refine wp_blk (pc' := 32) (L' := [some (.ref 19), some (.ref 4), some (.ref 21)]) (st' := []) (h' := zH (zui (g_M_copy 4 5 6 7 21 22 23 24 (zui I 19 1 2)) 19 1 (((g_M_copy 4 5 6 7 21 22 23 24 (zui I 19 1 2)) 19 1) - 1)) (zPr 7)) 1 rfl ?_
  refine wp_blk (pc' := 33) (L' := [some (.ref 19), some (.ref 4), some (.ref 21)]) (st' := [.int 1]) (h' := zH (zui (g_M_copy 4 5 6 7 21 22 23 24 (zui I 19 1 2)) 19 1 (((g_M_copy 4 5 6 7 21 22 23 24 (zui I 19 1 2)) 19 1) - 1)) (zPr 7)) 1 rfl ?_
  exact wp_end rfl rfl ⟨rfl, rfl⟩
set_option maxRecDepth 100000 in
theorem sp_put19_7_3 {X : Nat × (Nat → Int32)} (I : Nat → Nat → Int32) : Wf X 65 [some (.ref 19), some (.ref 4), none] (zH (zui I 19 1 3) (zPr 7)) none (zH (zui (g_M_copy 29 30 31 32 4 5 6 7 (zui I 19 1 3)) 19 1 (((g_M_copy 29 30 31 32 4 5 6 7 (zui I 19 1 3)) 19 1) + 1)) (zPr 7)) := by
  unfold Wf
  refine wp_blk (pc' := 1) (L' := [some (.ref 19), some (.ref 4), none]) (st' := [.ref 19]) (h' := zH (zui I 19 1 3) (zPr 7)) 1 rfl ?_
  refine wp_callf (d := 66) (as := [.ref 19]) (rest := []) (Ld := [some (.ref 19)]) (pc' := 4) (st' := [.int 0]) (r := some (.int 0)) (h1 := zH (zui I 19 1 3) (zPr 7)) rfl rfl rfl rfl rfl rfl rfl rfl rfl (sp_H1_isFull (X := X) (zui I 19 1 3) (zPr 7)) ?_
  refine wp_blk (pc' := 11) (L' := [some (.ref 19), some (.ref 4), none]) (st' := []) (h' := zH (zui I 19 1 3) (zPr 7)) 1 rfl ?_
  refine wp_blk (pc' := 12) (L' := [some (.ref 19), some (.ref 4), none]) (st' := [.ref 19]) (h' := zH (zui I 19 1 3) (zPr 7)) 1 rfl ?_
  refine wp_blk (pc' := 13) (L' := [some (.ref 19), some (.ref 4), none]) (st' := [.ref 19, .ref 19]) (h' := zH (zui I 19 1 3) (zPr 7)) 1 rfl ?_
  refine wp_blk (pc' := 16) (L' := [some (.ref 19), some (.ref 4), none]) (st' := [.int 3, .ref 19]) (h' := zH (zui I 19 1 3) (zPr 7)) 1 rfl ?_
  refine wp_callf (d := 68) (as := [.ref 19, .int 3]) (rest := []) (Ld := [some (.ref 19), some (.int 3)]) (pc' := 19) (st' := [.ref 29]) (r := some (.ref 29)) (h1 := zH (zui I 19 1 3) (zPr 7)) rfl rfl rfl rfl rfl rfl rfl rfl rfl (sp_at19_7_3 (X := X) (zui I 19 1 3)) ?_
  refine wp_blk (pc' := 20) (L' := [some (.ref 19), some (.ref 4), some (.ref 29)]) (st' := []) (h' := zH (zui I 19 1 3) (zPr 7)) 1 rfl ?_
  refine wp_blk (pc' := 21) (L' := [some (.ref 19), some (.ref 4), some (.ref 29)]) (st' := [.ref 29]) (h' := zH (zui I 19 1 3) (zPr 7)) 1 rfl ?_
  refine wp_blk (pc' := 24) (L' := [some (.ref 19), some (.ref 4), some (.ref 29)]) (st' := []) (h' := zH (zui I 19 1 3) (zPr 7)) 1 rfl ?_
  refine wp_blk (pc' := 25) (L' := [some (.ref 19), some (.ref 4), some (.ref 29)]) (st' := [.ref 29]) (h' := zH (zui I 19 1 3) (zPr 7)) 1 rfl ?_
  refine wp_blk (pc' := 26) (L' := [some (.ref 19), some (.ref 4), some (.ref 29)]) (st' := [.ref 4, .ref 29]) (h' := zH (zui I 19 1 3) (zPr 7)) 1 rfl ?_
  refine wp_callf (d := 37) (as := [.ref 29, .ref 4]) (rest := []) (Ld := [some (.ref 29), some (.ref 4)]) (pc' := 29) (st' := []) (r := none) (h1 := zH (g_M_copy 29 30 31 32 4 5 6 7 (zui I 19 1 3)) (zPr 7)) rfl rfl rfl rfl rfl rfl rfl rfl rfl (xp_M_copy_29_4 _ _ (0, (g_M_copy 29 30 31 32 4 5 6 7 (zui I 19 1 3))) rfl) ?_
  refine wp_blk (pc' := 30) (L' := [some (.ref 19), some (.ref 4), some (.ref 29)]) (st' := [.ref 19]) (h' := zH (g_M_copy 29 30 31 32 4 5 6 7 (zui I 19 1 3)) (zPr 7)) 1 rfl ?_
  refine wp_blk (pc' := 31) (L' := [some (.ref 19), some (.ref 4), some (.ref 29)]) (st' := [.ref 19, .ref 19]) (h' := zH (g_M_copy 29 30 31 32 4 5 6 7 (zui I 19 1 3)) (zPr 7)) 1 rfl ?_
  refine wp_blk (pc' := 34) (L' := [some (.ref 19), some (.ref 4), some (.ref 29)]) (st' := [.int ((g_M_copy 29 30 31 32 4 5 6 7 (zui I 19 1 3)) 19 1), .ref 19]) (h' := zH (g_M_copy 29 30 31 32 4 5 6 7 (zui I 19 1 3)) (zPr 7)) 1 rfl ?_
  refine wp_blk (pc' := 35) (L' := [some (.ref 19), some (.ref 4), some (.ref 29)]) (st' := [.int 1, .int ((g_M_copy 29 30 31 32 4 5 6 7 (zui I 19 1 3)) 19 1), .ref 19]) (h' := zH (g_M_copy 29 30 31 32 4 5 6 7 (zui I 19 1 3)) (zPr 7)) 1 rfl ?_
  refine wp_blk (pc' := 36) (L' := [some (.ref 19), some (.ref 4), some (.ref 29)]) (st' := [.int (((g_M_copy 29 30 31 32 4 5 6 7 (zui I 19 1 3)) 19 1) + 1), .ref 19]) (h' := zH (g_M_copy 29 30 31 32 4 5 6 7 (zui I 19 1 3)) (zPr 7)) 1 rfl ?_
  refine wp_blk (pc' := 39) (L' := [some (.ref 19), some (.ref 4), some (.ref 29)]) (st' := []) (h' := zH (zui (g_M_copy 29 30 31 32 4 5 6 7 (zui I 19 1 3)) 19 1 (((g_M_copy 29 30 31 32 4 5 6 7 (zui I 19 1 3)) 19 1) + 1)) (zPr 7)) 1 rfl ?_
  exact wp_end rfl rfl ⟨rfl, rfl⟩
set_option maxRecDepth 100000 in
theorem sp_take19_7_3 {X : Nat × (Nat → Int32)} (I : Nat → Nat → Int32) : Wf X 79 [some (.ref 19), some (.ref 4), none] (zH (zui I 19 1 3) (zPr 7)) (some (.int 1)) (zH (zui (g_M_copy 4 5 6 7 25 26 27 28 (zui I 19 1 3)) 19 1 (((g_M_copy 4 5 6 7 25 26 27 28 (zui I 19 1 3)) 19 1) - 1)) (zPr 7)) := by
  unfold Wf
  refine wp_blk (pc' := 1) (L' := [some (.ref 19), some (.ref 4), none]) (st' := [.ref 19]) (h' := zH (zui I 19 1 3) (zPr 7)) 1 rfl ?_
  refine wp_blk (pc' := 2) (L' := [some (.ref 19), some (.ref 4), none]) (st' := [.ref 19, .ref 19]) (h' := zH (zui I 19 1 3) (zPr 7)) 1 rfl ?_
  refine wp_blk (pc' := 5) (L' := [some (.ref 19), some (.ref 4), none]) (st' := [.int 3, .ref 19]) (h' := zH (zui I 19 1 3) (zPr 7)) 1 rfl ?_
  refine wp_blk (pc' := 6) (L' := [some (.ref 19), some (.ref 4), none]) (st' := [.int 1, .int 3, .ref 19]) (h' := zH (zui I 19 1 3) (zPr 7)) 1 rfl ?_
  refine wp_blk (pc' := 7) (L' := [some (.ref 19), some (.ref 4), none]) (st' := [.int 2, .ref 19]) (h' := zH (zui I 19 1 3) (zPr 7)) 1 rfl ?_
  refine wp_callf (d := 68) (as := [.ref 19, .int 2]) (rest := []) (Ld := [some (.ref 19), some (.int 2)]) (pc' := 10) (st' := [.ref 25]) (r := some (.ref 25)) (h1 := zH (zui I 19 1 3) (zPr 7)) rfl rfl rfl rfl rfl rfl rfl rfl rfl (sp_at19_7_2 (X := X) (zui I 19 1 3)) ?_
  refine wp_blk (pc' := 11) (L' := [some (.ref 19), some (.ref 4), some (.ref 25)]) (st' := []) (h' := zH (zui I 19 1 3) (zPr 7)) 1 rfl ?_
  refine wp_blk (pc' := 12) (L' := [some (.ref 19), some (.ref 4), some (.ref 25)]) (st' := [.ref 25]) (h' := zH (zui I 19 1 3) (zPr 7)) 1 rfl ?_
  refine wp_blk (pc' := 17) (L' := [some (.ref 19), some (.ref 4), some (.ref 25)]) (st' := []) (h' := zH (zui I 19 1 3) (zPr 7)) 1 rfl ?_
  refine wp_blk (pc' := 18) (L' := [some (.ref 19), some (.ref 4), some (.ref 25)]) (st' := [.ref 4]) (h' := zH (zui I 19 1 3) (zPr 7)) 1 rfl ?_
  refine wp_blk (pc' := 19) (L' := [some (.ref 19), some (.ref 4), some (.ref 25)]) (st' := [.ref 25, .ref 4]) (h' := zH (zui I 19 1 3) (zPr 7)) 1 rfl ?_
  refine wp_callf (d := 37) (as := [.ref 4, .ref 25]) (rest := []) (Ld := [some (.ref 4), some (.ref 25)]) (pc' := 22) (st' := []) (r := none) (h1 := zH (g_M_copy 4 5 6 7 25 26 27 28 (zui I 19 1 3)) (zPr 7)) rfl rfl rfl rfl rfl rfl rfl rfl rfl (xp_M_copy_4_25 _ _ (0, (g_M_copy 4 5 6 7 25 26 27 28 (zui I 19 1 3))) rfl) ?_
  refine wp_blk (pc' := 23) (L' := [some (.ref 19), some (.ref 4), some (.ref 25)]) (st' := [.ref 19]) (h' := zH (g_M_copy 4 5 6 7 25 26 27 28 (zui I 19 1 3)) (zPr 7)) 1 rfl ?_
  refine wp_blk (pc' := 24) (L' := [some (.ref 19), some (.ref 4), some (.ref 25)]) (st' := [.ref 19, .ref 19]) (h' := zH (g_M_copy 4 5 6 7 25 26 27 28 (zui I 19 1 3)) (zPr 7)) 1 rfl ?_
  refine wp_blk (pc' := 27) (L' := [some (.ref 19), some (.ref 4), some (.ref 25)]) (st' := [.int ((g_M_copy 4 5 6 7 25 26 27 28 (zui I 19 1 3)) 19 1), .ref 19]) (h' := zH (g_M_copy 4 5 6 7 25 26 27 28 (zui I 19 1 3)) (zPr 7)) 1 rfl ?_
  refine wp_blk (pc' := 28) (L' := [some (.ref 19), some (.ref 4), some (.ref 25)]) (st' := [.int 1, .int ((g_M_copy 4 5 6 7 25 26 27 28 (zui I 19 1 3)) 19 1), .ref 19]) (h' := zH (g_M_copy 4 5 6 7 25 26 27 28 (zui I 19 1 3)) (zPr 7)) 1 rfl ?_
  refine wp_blk (pc' := 29) (L' := [some (.ref 19), some (.ref 4), some (.ref 25)]) (st' := [.int (((g_M_copy 4 5 6 7 25 26 27 28 (zui I 19 1 3)) 19 1) - 1), .ref 19]) (h' := zH (g_M_copy 4 5 6 7 25 26 27 28 (zui I 19 1 3)) (zPr 7)) 1 rfl ?_
  refine wp_blk (pc' := 32) (L' := [some (.ref 19), some (.ref 4), some (.ref 25)]) (st' := []) (h' := zH (zui (g_M_copy 4 5 6 7 25 26 27 28 (zui I 19 1 3)) 19 1 (((g_M_copy 4 5 6 7 25 26 27 28 (zui I 19 1 3)) 19 1) - 1)) (zPr 7)) 1 rfl ?_
  refine wp_blk (pc' := 33) (L' := [some (.ref 19), some (.ref 4), some (.ref 25)]) (st' := [.int 1]) (h' := zH (zui (g_M_copy 4 5 6 7 25 26 27 28 (zui I 19 1 3)) 19 1 (((g_M_copy 4 5 6 7 25 26 27 28 (zui I 19 1 3)) 19 1) - 1)) (zPr 7)) 1 rfl ?_
  exact wp_end rfl rfl ⟨rfl, rfl⟩
set_option maxRecDepth 100000 in
theorem sp_put19_7_4 {X : Nat × (Nat → Int32)} (I : Nat → Nat → Int32) : Wf X 65 [some (.ref 19), some (.ref 4), none] (zH (zui I 19 1 4) (zPr 7)) none (zH (zui (g_M_copy 33 34 35 36 4 5 6 7 (zui I 19 1 4)) 19 1 (((g_M_copy 33 34 35 36 4 5 6 7 (zui I 19 1 4)) 19 1) + 1)) (zPr 7)) := by
  unfold Wf
  refine wp_blk (pc' := 1) (L' := [some (.ref 19), some (.ref 4), none]) (st' := [.ref 19]) (h' := zH (zui I 19 1 4) (zPr 7)) 1 rfl ?_
  refine wp_callf (d := 66) (as := [.ref 19]) (rest := []) (Ld := [some (.ref 19)]) (pc' := 4) (st' := [.int 0]) (r := some (.int 0)) (h1 := zH (zui I 19 1 4) (zPr 7)) rfl rfl rfl rfl rfl rfl rfl rfl rfl (sp_H1_isFull (X := X) (zui I 19 1 4) (zPr 7)) ?_
  refine wp_blk (pc' := 11) (L' := [some (.ref 19), some (.ref 4), none]) (st' := []) (h' := zH (zui I 19 1 4) (zPr 7)) 1 rfl ?_
  refine wp_blk (pc' := 12) (L' := [some (.ref 19), some (.ref 4), none]) (st' := [.ref 19]) (h' := zH (zui I 19 1 4) (zPr 7)) 1 rfl ?_
  refine wp_blk (pc' := 13) (L' := [some (.ref 19), some (.ref 4), none]) (st' := [.ref 19, .ref 19]) (h' := zH (zui I 19 1 4) (zPr 7)) 1 rfl ?_
  refine wp_blk (pc' := 16) (L' := [some (.ref 19), some (.ref 4), none]) (st' := [.int 4, .ref 19]) (h' := zH (zui I 19 1 4) (zPr 7)) 1 rfl ?_
  refine wp_callf (d := 68) (as := [.ref 19, .int 4]) (rest := []) (Ld := [some (.ref 19), some (.int 4)]) (pc' := 19) (st' := [.ref 33]) (r := some (.ref 33)) (h1 := zH (zui I 19 1 4) (zPr 7)) rfl rfl rfl rfl rfl rfl rfl rfl rfl (sp_at19_7_4 (X := X) (zui I 19 1 4)) ?_
  refine wp_blk (pc' := 20) (L' := [some (.ref 19), some (.ref 4), some (.ref 33)]) (st' := []) (h' := zH (zui I 19 1 4) (zPr 7)) 1 rfl ?_
  refine wp_blk (pc' := 21) (L' := [some (.ref 19), some (.ref 4), some (.ref 33)]) (st' := [.ref 33]) (h' := zH (zui I 19 1 4) (zPr 7)) 1 rfl ?_
  refine wp_blk (pc' := 24) (L' := [some (.ref 19), some (.ref 4), some (.ref 33)]) (st' := []) (h' := zH (zui I 19 1 4) (zPr 7)) 1 rfl ?_
  refine wp_blk (pc' := 25) (L' := [some (.ref 19), some (.ref 4), some (.ref 33)]) (st' := [.ref 33]) (h' := zH (zui I 19 1 4) (zPr 7)) 1 rfl ?_
  refine wp_blk (pc' := 26) (L' := [some (.ref 19), some (.ref 4), some (.ref 33)]) (st' := [.ref 4, .ref 33]) (h' := zH (zui I 19 1 4) (zPr 7)) 1 rfl ?_
  refine wp_callf (d := 37) (as := [.ref 33, .ref 4]) (rest := []) (Ld := [some (.ref 33), some (.ref 4)]) (pc' := 29) (st' := []) (r := none) (h1 := zH (g_M_copy 33 34 35 36 4 5 6 7 (zui I 19 1 4)) (zPr 7)) rfl rfl rfl rfl rfl rfl rfl rfl rfl (xp_M_copy_33_4 _ _ (0, (g_M_copy 33 34 35 36 4 5 6 7 (zui I 19 1 4))) rfl) ?_
  refine wp_blk (pc' := 30) (L' := [some (.ref 19), some (.ref 4), some (.ref 33)]) (st' := [.ref 19]) (h' := zH (g_M_copy 33 34 35 36 4 5 6 7 (zui I 19 1 4)) (zPr 7)) 1 rfl ?_
  refine wp_blk (pc' := 31) (L' := [some (.ref 19), some (.ref 4), some (.ref 33)]) (st' := [.ref 19, .ref 19]) (h' := zH (g_M_copy 33 34 35 36 4 5 6 7 (zui I 19 1 4)) (zPr 7)) 1 rfl ?_
  refine wp_blk (pc' := 34) (L' := [some (.ref 19), some (.ref 4), some (.ref 33)]) (st' := [.int ((g_M_copy 33 34 35 36 4 5 6 7 (zui I 19 1 4)) 19 1), .ref 19]) (h' := zH (g_M_copy 33 34 35 36 4 5 6 7 (zui I 19 1 4)) (zPr 7)) 1 rfl ?_
  refine wp_blk (pc' := 35) (L' := [some (.ref 19), some (.ref 4), some (.ref 33)]) (st' := [.int 1, .int ((g_M_copy 33 34 35 36 4 5 6 7 (zui I 19 1 4)) 19 1), .ref 19]) (h' := zH (g_M_copy 33 34 35 36 4 5 6 7 (zui I 19 1 4)) (zPr 7)) 1 rfl ?_
  refine wp_blk (pc' := 36) (L' := [some (.ref 19), some (.ref 4), some (.ref 33)]) (st' := [.int (((g_M_copy 33 34 35 36 4 5 6 7 (zui I 19 1 4)) 19 1) + 1), .ref 19]) (h' := zH (g_M_copy 33 34 35 36 4 5 6 7 (zui I 19 1 4)) (zPr 7)) 1 rfl ?_
  refine wp_blk (pc' := 39) (L' := [some (.ref 19), some (.ref 4), some (.ref 33)]) (st' := []) (h' := zH (zui (g_M_copy 33 34 35 36 4 5 6 7 (zui I 19 1 4)) 19 1 (((g_M_copy 33 34 35 36 4 5 6 7 (zui I 19 1 4)) 19 1) + 1)) (zPr 7)) 1 rfl ?_
  exact wp_end rfl rfl ⟨rfl, rfl⟩
set_option maxRecDepth 100000 in
theorem sp_take19_7_4 {X : Nat × (Nat → Int32)} (I : Nat → Nat → Int32) : Wf X 79 [some (.ref 19), some (.ref 4), none] (zH (zui I 19 1 4) (zPr 7)) (some (.int 1)) (zH (zui (g_M_copy 4 5 6 7 29 30 31 32 (zui I 19 1 4)) 19 1 (((g_M_copy 4 5 6 7 29 30 31 32 (zui I 19 1 4)) 19 1) - 1)) (zPr 7)) := by
  unfold Wf
  refine wp_blk (pc' := 1) (L' := [some (.ref 19), some (.ref 4), none]) (st' := [.ref 19]) (h' := zH (zui I 19 1 4) (zPr 7)) 1 rfl ?_
  refine wp_blk (pc' := 2) (L' := [some (.ref 19), some (.ref 4), none]) (st' := [.ref 19, .ref 19]) (h' := zH (zui I 19 1 4) (zPr 7)) 1 rfl ?_
  refine wp_blk (pc' := 5) (L' := [some (.ref 19), some (.ref 4), none]) (st' := [.int 4, .ref 19]) (h' := zH (zui I 19 1 4) (zPr 7)) 1 rfl ?_
  refine wp_blk (pc' := 6) (L' := [some (.ref 19), some (.ref 4), none]) (st' := [.int 1, .int 4, .ref 19]) (h' := zH (zui I 19 1 4) (zPr 7)) 1 rfl ?_
  refine wp_blk (pc' := 7) (L' := [some (.ref 19), some (.ref 4), none]) (st' := [.int 3, .ref 19]) (h' := zH (zui I 19 1 4) (zPr 7)) 1 rfl ?_
  refine wp_callf (d := 68) (as := [.ref 19, .int 3]) (rest := []) (Ld := [some (.ref 19), some (.int 3)]) (pc' := 10) (st' := [.ref 29]) (r := some (.ref 29)) (h1 := zH (zui I 19 1 4) (zPr 7)) rfl rfl rfl rfl rfl rfl rfl rfl rfl (sp_at19_7_3 (X := X) (zui I 19 1 4)) ?_
  refine wp_blk (pc' := 11) (L' := [some (.ref 19), some (.ref 4), some (.ref 29)]) (st' := []) (h' := zH (zui I 19 1 4) (zPr 7)) 1 rfl ?_
  refine wp_blk (pc' := 12) (L' := [some (.ref 19), some (.ref 4), some (.ref 29)]) (st' := [.ref 29]) (h' := zH (zui I 19 1 4) (zPr 7)) 1 rfl ?_
  refine wp_blk (pc' := 17) (L' := [some (.ref 19), some (.ref 4), some (.ref 29)]) (st' := []) (h' := zH (zui I 19 1 4) (zPr 7)) 1 rfl ?_
  refine wp_blk (pc' := 18) (L' := [some (.ref 19), some (.ref 4), some (.ref 29)]) (st' := [.ref 4]) (h' := zH (zui I 19 1 4) (zPr 7)) 1 rfl ?_
  refine wp_blk (pc' := 19) (L' := [some (.ref 19), some (.ref 4), some (.ref 29)]) (st' := [.ref 29, .ref 4]) (h' := zH (zui I 19 1 4) (zPr 7)) 1 rfl ?_
  refine wp_callf (d := 37) (as := [.ref 4, .ref 29]) (rest := []) (Ld := [some (.ref 4), some (.ref 29)]) (pc' := 22) (st' := []) (r := none) (h1 := zH (g_M_copy 4 5 6 7 29 30 31 32 (zui I 19 1 4)) (zPr 7)) rfl rfl rfl rfl rfl rfl rfl rfl rfl (xp_M_copy_4_29 _ _ (0, (g_M_copy 4 5 6 7 29 30 31 32 (zui I 19 1 4))) rfl) ?_
  refine wp_blk (pc' := 23) (L' := [some (.ref 19), some (.ref 4), some (.ref 29)]) (st' := [.ref 19]) (h' := zH (g_M_copy 4 5 6 7 29 30 31 32 (zui I 19 1 4)) (zPr 7)) 1 rfl ?_
  refine wp_blk (pc' := 24) (L' := [some (.ref 19), some (.ref 4), some (.ref 29)]) (st' := [.ref 19, .ref 19]) (h' := zH (g_M_copy 4 5 6 7 29 30 31 32 (zui I 19 1 4)) (zPr 7)) 1 rfl ?_
  refine wp_blk (pc' := 27) (L' := [some (.ref 19), some (.ref 4), some (.ref 29)]) (st' := [.int ((g_M_copy 4 5 6 7 29 30 31 32 (zui I 19 1 4)) 19 1), .ref 19]) (h' := zH (g_M_copy 4 5 6 7 29 30 31 32 (zui I 19 1 4)) (zPr 7)) 1 rfl ?_
  refine wp_blk (pc' := 28) (L' := [some (.ref 19), some (.ref 4), some (.ref 29)]) (st' := [.int 1, .int ((g_M_copy 4 5 6 7 29 30 31 32 (zui I 19 1 4)) 19 1), .ref 19]) (h' := zH (g_M_copy 4 5 6 7 29 30 31 32 (zui I 19 1 4)) (zPr 7)) 1 rfl ?_
  refine wp_blk (pc' := 29) (L' := [some (.ref 19), some (.ref 4), some (.ref 29)]) (st' := [.int (((g_M_copy 4 5 6 7 29 30 31 32 (zui I 19 1 4)) 19 1) - 1), .ref 19]) (h' := zH (g_M_copy 4 5 6 7 29 30 31 32 (zui I 19 1 4)) (zPr 7)) 1 rfl ?_
  refine wp_blk (pc' := 32) (L' := [some (.ref 19), some (.ref 4), some (.ref 29)]) (st' := []) (h' := zH (zui (g_M_copy 4 5 6 7 29 30 31 32 (zui I 19 1 4)) 19 1 (((g_M_copy 4 5 6 7 29 30 31 32 (zui I 19 1 4)) 19 1) - 1)) (zPr 7)) 1 rfl ?_
  refine wp_blk (pc' := 33) (L' := [some (.ref 19), some (.ref 4), some (.ref 29)]) (st' := [.int 1]) (h' := zH (zui (g_M_copy 4 5 6 7 29 30 31 32 (zui I 19 1 4)) 19 1 (((g_M_copy 4 5 6 7 29 30 31 32 (zui I 19 1 4)) 19 1) - 1)) (zPr 7)) 1 rfl ?_
  exact wp_end rfl rfl ⟨rfl, rfl⟩
set_option maxRecDepth 100000 in
theorem sp_put19_7_5 {X : Nat × (Nat → Int32)} (I : Nat → Nat → Int32) : Wf X 65 [some (.ref 19), some (.ref 4), none] (zH (zui I 19 1 5) (zPr 7)) none (zH (zui (g_M_copy 37 38 39 40 4 5 6 7 (zui I 19 1 5)) 19 1 (((g_M_copy 37 38 39 40 4 5 6 7 (zui I 19 1 5)) 19 1) + 1)) (zPr 7)) := by
  unfold Wf
  refine wp_blk (pc' := 1) (L' := [some (.ref 19), some (.ref 4), none]) (st' := [.ref 19]) (h' := zH (zui I 19 1 5) (zPr 7)) 1 rfl ?_
  refine wp_callf (d := 66) (as := [.ref 19]) (rest := []) (Ld := [some (.ref 19)]) (pc' := 4) (st' := [.int 0]) (r := some (.int 0)) (h1 := zH (zui I 19 1 5) (zPr 7)) rfl rfl rfl rfl rfl rfl rfl rfl rfl (sp_H1_isFull (X := X) (zui I 19 1 5) (zPr 7)) ?_
  refine wp_blk (pc' := 11) (L' := [some (.ref 19), some (.ref 4), none]) (st' := []) (h' := zH (zui I 19 1 5) (zPr 7)) 1 rfl ?_
  refine wp_blk (pc' := 12) (L' := [some (.ref 19), some (.ref 4), none]) (st' := [.ref 19]) (h' := zH (zui I 19 1 5) (zPr 7)) 1 rfl ?_
  refine wp_blk (pc' := 13) (L' := [some (.ref 19), some (.ref 4), none]) (st' := [.ref 19, .ref 19]) (h' := zH (zui I 19 1 5) (zPr 7)) 1 rfl ?_
  refine wp_blk (pc' := 16) (L' := [some (.ref 19), some (.ref 4), none]) (st' := [.int 5, .ref 19]) (h' := zH (zui I 19 1 5) (zPr 7)) 1 rfl ?_
  refine wp_callf (d := 68) (as := [.ref 19, .int 5]) (rest := []) (Ld := [some (.ref 19), some (.int 5)]) (pc' := 19) (st' := [.ref 37]) (r := some (.ref 37)) (h1 := zH (zui I 19 1 5) (zPr 7)) rfl rfl rfl rfl rfl rfl rfl rfl rfl (sp_at19_7_5 (X := X) (zui I 19 1 5)) ?_
  refine wp_blk (pc' := 20) (L' := [some (.ref 19), some (.ref 4), some (.ref 37)]) (st' := []) (h' := zH (zui I 19 1 5) (zPr 7)) 1 rfl ?_
  refine wp_blk (pc' := 21) (L' := [some (.ref 19), some (.ref 4), some (.ref 37)]) (st' := [.ref 37]) (h' := zH (zui I 19 1 5) (zPr 7)) 1 rfl ?_
  refine wp_blk (pc' := 24) (L' := [some (.ref 19), some (.ref 4), some (.ref 37)]) (st' := []) (h' := zH (zui I 19 1 5) (zPr 7)) 1 rfl ?_
  refine wp_blk (pc' := 25) (L' := [some (.ref 19), some (.ref 4), some (.ref 37)]) (st' := [.ref 37]) (h' := zH (zui I 19 1 5) (zPr 7)) 1 rfl ?_
  refine wp_blk (pc' := 26) (L' := [some (.ref 19), some (.ref 4), some (.ref 37)]) (st' := [.ref 4, .ref 37]) (h' := zH (zui I 19 1 5) (zPr 7)) 1 rfl ?_
  refine wp_callf (d := 37) (as := [.ref 37, .ref 4]) (rest := []) (Ld := [some (.ref 37), some (.ref 4)]) (pc' := 29) (st' := []) (r := none) (h1 := zH (g_M_copy 37 38 39 40 4 5 6 7 (zui I 19 1 5)) (zPr 7)) rfl rfl rfl rfl rfl rfl rfl rfl rfl (xp_M_copy_37_4 _ _ (0, (g_M_copy 37 38 39 40 4 5 6 7 (zui I 19 1 5))) rfl) ?_
  refine wp_blk (pc' := 30) (L' := [some (.ref 19), some (.ref 4), some (.ref 37)]) (st' := [.ref 19]) (h' := zH (g_M_copy 37 38 39 40 4 5 6 7 (zui I 19 1 5)) (zPr 7)) 1 rfl ?_
  refine wp_blk (pc' := 31) (L' := [some (.ref 19), some (.ref 4), some (.ref 37)]) (st' := [.ref 19, .ref 19]) (h' := zH (g_M_copy 37 38 39 40 4 5 6 7 (zui I 19 1 5)) (zPr 7)) 1 rfl ?_
  refine wp_blk (pc' := 34) (L' := [some (.ref 19), some (.ref 4), some (.ref 37)]) (st' := [.int ((g_M_copy 37 38 39 40 4 5 6 7 (zui I 19 1 5)) 19 1), .ref 19]) (h' := zH (g_M_copy 37 38 39 40 4 5 6 7 (zui I 19 1 5)) (zPr 7)) 1 rfl ?_
  refine wp_blk (pc' := 35) (L' := [some (.ref 19), some (.ref 4), some (.ref 37)]) (st' := [.int 1, .int ((g_M_copy 37 38 39 40 4 5 6 7 (zui I 19 1 5)) 19 1), .ref 19]) (h' := zH (g_M_copy 37 38 39 40 4 5 6 7 (zui I 19 1 5)) (zPr 7)) 1 rfl ?_
  refine wp_blk (pc' := 36) (L' := [some (.ref 19), some (.ref 4), some (.ref 37)]) (st' := [.int (((g_M_copy 37 38 39 40 4 5 6 7 (zui I 19 1 5)) 19 1) + 1), .ref 19]) (h' := zH (g_M_copy 37 38 39 40 4 5 6 7 (zui I 19 1 5)) (zPr 7)) 1 rfl ?_
  refine wp_blk (pc' := 39) (L' := [some (.ref 19), some (.ref 4), some (.ref 37)]) (st' := []) (h' := zH (zui (g_M_copy 37 38 39 40 4 5 6 7 (zui I 19 1 5)) 19 1 (((g_M_copy 37 38 39 40 4 5 6 7 (zui I 19 1 5)) 19 1) + 1)) (zPr 7)) 1 rfl ?_
  exact wp_end rfl rfl ⟨rfl, rfl⟩
set_option maxRecDepth 100000 in
theorem sp_take19_7_5 {X : Nat × (Nat → Int32)} (I : Nat → Nat → Int32) : Wf X 79 [some (.ref 19), some (.ref 4), none] (zH (zui I 19 1 5) (zPr 7)) (some (.int 1)) (zH (zui (g_M_copy 4 5 6 7 33 34 35 36 (zui I 19 1 5)) 19 1 (((g_M_copy 4 5 6 7 33 34 35 36 (zui I 19 1 5)) 19 1) - 1)) (zPr 7)) := by
  unfold Wf
  refine wp_blk (pc' := 1) (L' := [some (.ref 19), some (.ref 4), none]) (st' := [.ref 19]) (h' := zH (zui I 19 1 5) (zPr 7)) 1 rfl ?_
  refine wp_blk (pc' := 2) (L' := [some (.ref 19), some (.ref 4), none]) (st' := [.ref 19, .ref 19]) (h' := zH (zui I 19 1 5) (zPr 7)) 1 rfl ?_
  refine wp_blk (pc' := 5) (L' := [some (.ref 19), some (.ref 4), none]) (st' := [.int 5, .ref 19]) (h' := zH (zui I 19 1 5) (zPr 7)) 1 rfl ?_
  refine wp_blk (pc' := 6) (L' := [some (.ref 19), some (.ref 4), none]) (st' := [.int 1, .int 5, .ref 19]) (h' := zH (zui I 19 1 5) (zPr 7)) 1 rfl ?_
  refine wp_blk (pc' := 7) (L' := [some (.ref 19), some (.ref 4), none]) (st' := [.int 4, .ref 19]) (h' := zH (zui I 19 1 5) (zPr 7)) 1 rfl ?_
  refine wp_callf (d := 68) (as := [.ref 19, .int 4]) (rest := []) (Ld := [some (.ref 19), some (.int 4)]) (pc' := 10) (st' := [.ref 33]) (r := some (.ref 33)) (h1 := zH (zui I 19 1 5) (zPr 7)) rfl rfl rfl rfl rfl rfl rfl rfl rfl (sp_at19_7_4 (X := X) (zui I 19 1 5)) ?_
  refine wp_blk (pc' := 11) (L' := [some (.ref 19), some (.ref 4), some (.ref 33)]) (st' := []) (h' := zH (zui I 19 1 5) (zPr 7)) 1 rfl ?_
  refine wp_blk (pc' := 12) (L' := [some (.ref 19), some (.ref 4), some (.ref 33)]) (st' := [.ref 33]) (h' := zH (zui I 19 1 5) (zPr 7)) 1 rfl ?_
  refine wp_blk (pc' := 17) (L' := [some (.ref 19), some (.ref 4), some (.ref 33)]) (st' := []) (h' := zH (zui I 19 1 5) (zPr 7)) 1 rfl ?_
  refine wp_blk (pc' := 18) (L' := [some (.ref 19), some (.ref 4), some (.ref 33)]) (st' := [.ref 4]) (h' := zH (zui I 19 1 5) (zPr 7)) 1 rfl ?_
  refine wp_blk (pc' := 19) (L' := [some (.ref 19), some (.ref 4), some (.ref 33)]) (st' := [.ref 33, .ref 4]) (h' := zH (zui I 19 1 5) (zPr 7)) 1 rfl ?_
  refine wp_callf (d := 37) (as := [.ref 4, .ref 33]) (rest := []) (Ld := [some (.ref 4), some (.ref 33)]) (pc' := 22) (st' := []) (r := none) (h1 := zH (g_M_copy 4 5 6 7 33 34 35 36 (zui I 19 1 5)) (zPr 7)) rfl rfl rfl rfl rfl rfl rfl rfl rfl (xp_M_copy_4_33 _ _ (0, (g_M_copy 4 5 6 7 33 34 35 36 (zui I 19 1 5))) rfl) ?_
  refine wp_blk (pc' := 23) (L' := [some (.ref 19), some (.ref 4), some (.ref 33)]) (st' := [.ref 19]) (h' := zH (g_M_copy 4 5 6 7 33 34 35 36 (zui I 19 1 5)) (zPr 7)) 1 rfl ?_
  refine wp_blk (pc' := 24) (L' := [some (.ref 19), some (.ref 4), some (.ref 33)]) (st' := [.ref 19, .ref 19]) (h' := zH (g_M_copy 4 5 6 7 33 34 35 36 (zui I 19 1 5)) (zPr 7)) 1 rfl ?_
  refine wp_blk (pc' := 27) (L' := [some (.ref 19), some (.ref 4), some (.ref 33)]) (st' := [.int ((g_M_copy 4 5 6 7 33 34 35 36 (zui I 19 1 5)) 19 1), .ref 19]) (h' := zH (g_M_copy 4 5 6 7 33 34 35 36 (zui I 19 1 5)) (zPr 7)) 1 rfl ?_
  refine wp_blk (pc' := 28) (L' := [some (.ref 19), some (.ref 4), some (.ref 33)]) (st' := [.int 1, .int ((g_M_copy 4 5 6 7 33 34 35 36 (zui I 19 1 5)) 19 1), .ref 19]) (h' := zH (g_M_copy 4 5 6 7 33 34 35 36 (zui I 19 1 5)) (zPr 7)) 1 rfl ?_
  refine wp_blk (pc' := 29) (L' := [some (.ref 19), some (.ref 4), some (.ref 33)]) (st' := [.int (((g_M_copy 4 5 6 7 33 34 35 36 (zui I 19 1 5)) 19 1) - 1), .ref 19]) (h' := zH (g_M_copy 4 5 6 7 33 34 35 36 (zui I 19 1 5)) (zPr 7)) 1 rfl ?_
  refine wp_blk (pc' := 32) (L' := [some (.ref 19), some (.ref 4), some (.ref 33)]) (st' := []) (h' := zH (zui (g_M_copy 4 5 6 7 33 34 35 36 (zui I 19 1 5)) 19 1 (((g_M_copy 4 5 6 7 33 34 35 36 (zui I 19 1 5)) 19 1) - 1)) (zPr 7)) 1 rfl ?_
  refine wp_blk (pc' := 33) (L' := [some (.ref 19), some (.ref 4), some (.ref 33)]) (st' := [.int 1]) (h' := zH (zui (g_M_copy 4 5 6 7 33 34 35 36 (zui I 19 1 5)) 19 1 (((g_M_copy 4 5 6 7 33 34 35 36 (zui I 19 1 5)) 19 1) - 1)) (zPr 7)) 1 rfl ?_
  exact wp_end rfl rfl ⟨rfl, rfl⟩
set_option maxRecDepth 100000 in
theorem sp_put19_7_6 {X : Nat × (Nat → Int32)} (I : Nat → Nat → Int32) : Wf X 65 [some (.ref 19), some (.ref 4), none] (zH (zui I 19 1 6) (zPr 7)) none (zH (zui (g_M_copy 41 42 43 44 4 5 6 7 (zui I 19 1 6)) 19 1 (((g_M_copy 41 42 43 44 4 5 6 7 (zui I 19 1 6)) 19 1) + 1)) (zPr 7)) := by
  unfold Wf
  refine wp_blk (pc' := 1) (L' := [some (.ref 19), some (.ref 4), none]) (st' := [.ref 19]) (h' := zH (zui I 19 1 6) (zPr 7)) 1 rfl ?_
  refine wp_callf (d := 66) (as := [.ref 19]) (rest := []) (Ld := [some (.ref 19)]) (pc' := 4) (st' := [.int 0]) (r := some (.int 0)) (h1 := zH (zui I 19 1 6) (zPr 7)) rfl rfl rfl rfl rfl rfl rfl rfl rfl (sp_H1_isFull (X := X) (zui I 19 1 6) (zPr 7)) ?_
  refine wp_blk (pc' := 11) (L' := [some (.ref 19), some (.ref 4), none]) (st' := []) (h' := zH (zui I 19 1 6) (zPr 7)) 1 rfl ?_
  refine wp_blk (pc' := 12) (L' := [some (.ref 19), some (.ref 4), none]) (st' := [.ref 19]) (h' := zH (zui I 19 1 6) (zPr 7)) 1 rfl ?_
  refine wp_blk (pc' := 13) (L' := [some (.ref 19), some (.ref 4), none]) (st' := [.ref 19, .ref 19]) (h' := zH (zui I 19 1 6) (zPr 7)) 1 rfl ?_
  refine wp_blk (pc' := 16) (L' := [some (.ref 19), some (.ref 4), none]) (st' := [.int 6, .ref 19]) (h' := zH (zui I 19 1 6) (zPr 7)) 1 rfl ?_
  refine wp_callf (d := 68) (as := [.ref 19, .int 6]) (rest := []) (Ld := [some (.ref 19), some (.int 6)]) (pc' := 19) (st' := [.ref 41]) (r := some (.ref 41)) (h1 := zH (zui I 19 1 6) (zPr 7)) rfl rfl rfl rfl rfl rfl rfl rfl rfl (sp_at19_7_6 (X := X) (zui I 19 1 6)) ?_
  refine wp_blk (pc' := 20) (L' := [some (.ref 19), some (.ref 4), some (.ref 41)]) (st' := []) (h' := zH (zui I 19 1 6) (zPr 7)) 1 rfl ?_
  refine wp_blk (pc' := 21) (L' := [some (.ref 19), some (.ref 4), some (.ref 41)]) (st' := [.ref 41]) (h' := zH (zui I 19 1 6) (zPr 7)) 1 rfl ?_
  refine wp_blk (pc' := 24) (L' := [some (.ref 19), some (.ref 4), some (.ref 41)]) (st' := []) (h' := zH (zui I 19 1 6) (zPr 7)) 1 rfl ?_
  refine wp_blk (pc' := 25) (L' := [some (.ref 19), some (.ref 4), some (.ref 41)]) (st' := [.ref 41]) (h' := zH (zui I 19 1 6) (zPr 7)) 1 rfl ?_
  refine wp_blk (pc' := 26) (L' := [some (.ref 19), some (.ref 4), some (.ref 41)]) (st' := [.ref 4, .ref 41]) (h' := zH (zui I 19 1 6) (zPr 7)) 1 rfl ?_
  refine wp_callf (d := 37) (as := [.ref 41, .ref 4]) (rest := []) (Ld := [some (.ref 41), some (.ref 4)]) (pc' := 29) (st' := []) (r := none) (h1 := zH (g_M_copy 41 42 43 44 4 5 6 7 (zui I 19 1 6)) (zPr 7)) rfl rfl rfl rfl rfl rfl rfl rfl rfl (xp_M_copy_41_4 _ _ (0, (g_M_copy 41 42 43 44 4 5 6 7 (zui I 19 1 6))) rfl) ?_
  refine wp_blk (pc' := 30) (L' := [some (.ref 19), some (.ref 4), some (.ref 41)]) (st' := [.ref 19]) (h' := zH (g_M_copy 41 42 43 44 4 5 6 7 (zui I 19 1 6)) (zPr 7)) 1 rfl ?_
  refine wp_blk (pc' := 31) (L' := [some (.ref 19), some (.ref 4), some (.ref 41)]) (st' := [.ref 19, .ref 19]) (h' := zH (g_M_copy 41 42 43 44 4 5 6 7 (zui I 19 1 6)) (zPr 7)) 1 rfl ?_
  refine wp_blk (pc' := 34) (L' := [some (.ref 19), some (.ref 4), some (.ref 41)]) (st' := [.int ((g_M_copy 41 42 43 44 4 5 6 7 (zui I 19 1 6)) 19 1), .ref 19]) (h' := zH (g_M_copy 41 42 43 44 4 5 6 7 (zui I 19 1 6)) (zPr 7)) 1 rfl ?_
  refine wp_blk (pc' := 35) (L' := [some (.ref 19), some (.ref 4), some (.ref 41)]) (st' := [.int 1, .int ((g_M_copy 41 42 43 44 4 5 6 7 (zui I 19 1 6)) 19 1), .ref 19]) (h' := zH (g_M_copy 41 42 43 44 4 5 6 7 (zui I 19 1 6)) (zPr 7)) 1 rfl ?_
  refine wp_blk (pc' := 36) (L' := [some (.ref 19), some (.ref 4), some (.ref 41)]) (st' := [.int (((g_M_copy 41 42 43 44 4 5 6 7 (zui I 19 1 6)) 19 1) + 1), .ref 19]) (h' := zH (g_M_copy 41 42 43 44 4 5 6 7 (zui I 19 1 6)) (zPr 7)) 1 rfl ?_
  refine wp_blk (pc' := 39) (L' := [some (.ref 19), some (.ref 4), some (.ref 41)]) (st' := []) (h' := zH (zui (g_M_copy 41 42 43 44 4 5 6 7 (zui I 19 1 6)) 19 1 (((g_M_copy 41 42 43 44 4 5 6 7 (zui I 19 1 6)) 19 1) + 1)) (zPr 7)) 1 rfl ?_
  exact wp_end rfl rfl ⟨rfl, rfl⟩
set_option maxRecDepth 100000 in
theorem sp_take19_7_6 {X : Nat × (Nat → Int32)} (I : Nat → Nat → Int32) : Wf X 79 [some (.ref 19), some (.ref 4), none] (zH (zui I 19 1 6) (zPr 7)) (some (.int 1)) (zH (zui (g_M_copy 4 5 6 7 37 38 39 40 (zui I 19 1 6)) 19 1 (((g_M_copy 4 5 6 7 37 38 39 40 (zui I 19 1 6)) 19 1) - 1)) (zPr 7)) := by
  unfold Wf
  refine wp_blk (pc' := 1) (L' := [some (.ref 19), some (.ref 4), none]) (st' := [.ref 19]) (h' := zH (zui I 19 1 6) (zPr 7)) 1 rfl ?_
  refine wp_blk (pc' := 2) (L' := [some (.ref 19), some (.ref 4), none]) (st' := [.ref 19, .ref 19]) (h' := zH (zui I 19 1 6) (zPr 7)) 1 rfl ?_
  refine wp_blk (pc' := 5) (L' := [some (.ref 19), some (.ref 4), none]) (st' := [.int 6, .ref 19]) (h' := zH (zui I 19 1 6) (zPr 7)) 1 rfl ?_
  refine wp_blk (pc' := 6) (L' := [some (.ref 19), some (.ref 4), none]) (st' := [.int 1, .int 6, .ref 19]) (h' := zH (zui I 19 1 6) (zPr 7)) 1 rfl ?_
  refine wp_blk (pc' := 7) (L' := [some (.ref 19), some (.ref 4), none]) (st' := [.int 5, .ref 19]) (h' := zH (zui I 19 1 6) (zPr 7)) 1 rfl ?_
  refine wp_callf (d := 68) (as := [.ref 19, .int 5]) (rest := []) (Ld := [some (.ref 19), some (.int 5)]) (pc' := 10) (st' := [.ref 37]) (r := some (.ref 37)) (h1 := zH (zui I 19 1 6) (zPr 7)) rfl rfl rfl rfl rfl rfl rfl rfl rfl (sp_at19_7_5 (X := X) (zui I 19 1 6)) ?_
  refine wp_blk (pc' := 11) (L' := [some (.ref 19), some (.ref 4), some (.ref 37)]) (st' := []) (h' := zH (zui I 19 1 6) (zPr 7)) 1 rfl ?_
  refine wp_blk (pc' := 12) (L' := [some (.ref 19), some (.ref 4), some (.ref 37)]) (st' := [.ref 37]) (h' := zH (zui I 19 1 6) (zPr 7)) 1 rfl ?_
  refine wp_blk (pc' := 17) (L' := [some (.ref 19), some (.ref 4), some (.ref 37)]) (st' := []) (h' := zH (zui I 19 1 6) (zPr 7)) 1 rfl ?_
  refine wp_blk (pc' := 18) (L' := [some (.ref 19), some (.ref 4), some (.ref 37)]) (st' := [.ref 4]) (h' := zH (zui I 19 1 6) (zPr 7)) 1 rfl ?_
  refine wp_blk (pc' := 19) (L' := [some (.ref 19), some (.ref 4), some (.ref 37)]) (st' := [.ref 37, .ref 4]) (h' := zH (zui I 19 1 6) (zPr 7)) 1 rfl ?_
  refine wp_callf (d := 37) (as := [.ref 4, .ref 37]) (rest := []) (Ld := [some (.ref 4), some (.ref 37)]) (pc' := 22) (st' := []) (r := none) (h1 := zH (g_M_copy 4 5 6 7 37 38 39 40 (zui I 19 1 6)) (zPr 7)) rfl rfl rfl rfl rfl rfl rfl rfl rfl (xp_M_copy_4_37 _ _ (0, (g_M_copy 4 5 6 7 37 38 39 40 (zui I 19 1 6))) rfl) ?_
  refine wp_blk (pc' := 23) (L' := [some (.ref 19), some (.ref 4), some (.ref 37)]) (st' := [.ref 19]) (h' := zH (g_M_copy 4 5 6 7 37 38 39 40 (zui I 19 1 6)) (zPr 7)) 1 rfl ?_
  refine wp_blk (pc' := 24) (L' := [some (.ref 19), some (.ref 4), some (.ref 37)]) (st' := [.ref 19, .ref 19]) (h' := zH (g_M_copy 4 5 6 7 37 38 39 40 (zui I 19 1 6)) (zPr 7)) 1 rfl ?_
  refine wp_blk (pc' := 27) (L' := [some (.ref 19), some (.ref 4), some (.ref 37)]) (st' := [.int ((g_M_copy 4 5 6 7 37 38 39 40 (zui I 19 1 6)) 19 1), .ref 19]) (h' := zH (g_M_copy 4 5 6 7 37 38 39 40 (zui I 19 1 6)) (zPr 7)) 1 rfl ?_
  refine wp_blk (pc' := 28) (L' := [some (.ref 19), some (.ref 4), some (.ref 37)]) (st' := [.int 1, .int ((g_M_copy 4 5 6 7 37 38 39 40 (zui I 19 1 6)) 19 1), .ref 19]) (h' := zH (g_M_copy 4 5 6 7 37 38 39 40 (zui I 19 1 6)) (zPr 7)) 1 rfl ?_
  refine wp_blk (pc' := 29) (L' := [some (.ref 19), some (.ref 4), some (.ref 37)]) (st' := [.int (((g_M_copy 4 5 6 7 37 38 39 40 (zui I 19 1 6)) 19 1) - 1), .ref 19]) (h' := zH (g_M_copy 4 5 6 7 37 38 39 40 (zui I 19 1 6)) (zPr 7)) 1 rfl ?_
  refine wp_blk (pc' := 32) (L' := [some (.ref 19), some (.ref 4), some (.ref 37)]) (st' := []) (h' := zH (zui (g_M_copy 4 5 6 7 37 38 39 40 (zui I 19 1 6)) 19 1 (((g_M_copy 4 5 6 7 37 38 39 40 (zui I 19 1 6)) 19 1) - 1)) (zPr 7)) 1 rfl ?_
  refine wp_blk (pc' := 33) (L' := [some (.ref 19), some (.ref 4), some (.ref 37)]) (st' := [.int 1]) (h' := zH (zui (g_M_copy 4 5 6 7 37 38 39 40 (zui I 19 1 6)) 19 1 (((g_M_copy 4 5 6 7 37 38 39 40 (zui I 19 1 6)) 19 1) - 1)) (zPr 7)) 1 rfl ?_
  exact wp_end rfl rfl ⟨rfl, rfl⟩
set_option maxRecDepth 100000 in
theorem sp_put19_7_7 {X : Nat × (Nat → Int32)} (I : Nat → Nat → Int32) : Wf X 65 [some (.ref 19), some (.ref 4), none] (zH (zui I 19 1 7) (zPr 7)) none (zH (zui (g_M_copy 45 46 47 48 4 5 6 7 (zui I 19 1 7)) 19 1 (((g_M_copy 45 46 47 48 4 5 6 7 (zui I 19 1 7)) 19 1) + 1)) (zPr 7)) := by
  unfold Wf
  refine wp_blk (pc' := 1) (L' := [some (.ref 19), some (.ref 4), none]) (st' := [.ref 19]) (h' := zH (zui I 19 1 7) (zPr 7)) 1 rfl ?_
  refine wp_callf (d := 66) (as := [.ref 19]) (rest := []) (Ld := [some (.ref 19)]) (pc' := 4) (st' := [.int 0]) (r := some (.int 0)) (h1 := zH (zui I 19 1 7) (zPr 7)) rfl rfl rfl rfl rfl rfl rfl rfl rfl (sp_H1_isFull (X := X) (zui I 19 1 7) (zPr 7)) ?_
  refine wp_blk (pc' := 11) (L' := [some (.ref 19), some (.ref 4), none]) (st' := []) (h' := zH (zui I 19 1 7) (zPr 7)) 1 rfl ?_
  refine wp_blk (pc' := 12) (L' := [some (.ref 19), some (.ref 4), none]) (st' := [.ref 19]) (h' := zH (zui I 19 1 7) (zPr 7)) 1 rfl ?_
  refine wp_blk (pc' := 13) (L' := [some (.ref 19), some (.ref 4), none]) (st' := [.ref 19, .ref 19]) (h' := zH (zui I 19 1 7) (zPr 7)) 1 rfl ?_
  refine wp_blk (pc' := 16) (L' := [some (.ref 19), some (.ref 4), none]) (st' := [.int 7, .ref 19]) (h' := zH (zui I 19 1 7) (zPr 7)) 1 rfl ?_
  refine wp_callf (d := 68) (as := [.ref 19, .int 7]) (rest := []) (Ld := [some (.ref 19), some (.int 7)]) (pc' := 19) (st' := [.ref 45]) (r := some (.ref 45)) (h1 := zH (zui I 19 1 7) (zPr 7)) rfl rfl rfl rfl rfl rfl rfl rfl rfl (sp_at19_7_7 (X := X) (zui I 19 1 7)) ?_
  refine wp_blk (pc' := 20) (L' := [some (.ref 19), some (.ref 4), some (.ref 45)]) (st' := []) (h' := zH (zui I 19 1 7) (zPr 7)) 1 rfl ?_
  refine wp_blk (pc' := 21) (L' := [some (.ref 19), some (.ref 4), some (.ref 45)]) (st' := [.ref 45]) (h' := zH (zui I 19 1 7) (zPr 7)) 1 rfl ?_
  refine wp_blk (pc' := 24) (L' := [some (.ref 19), some (.ref 4), some (.ref 45)]) (st' := []) (h' := zH (zui I 19 1 7) (zPr 7)) 1 rfl ?_
  refine wp_blk (pc' := 25) (L' := [some (.ref 19), some (.ref 4), some (.ref 45)]) (st' := [.ref 45]) (h' := zH (zui I 19 1 7) (zPr 7)) 1 rfl ?_
  refine wp_blk (pc' := 26) (L' := [some (.ref 19), some (.ref 4), some (.ref 45)]) (st' := [.ref 4, .ref 45]) (h' := zH (zui I 19 1 7) (zPr 7)) 1 rfl ?_
  refine wp_callf (d := 37) (as := [.ref 45, .ref 4]) (rest := []) (Ld := [some (.ref 45), some (.ref 4)]) (pc' := 29) (st' := []) (r := none) (h1 := zH (g_M_copy 45 46 47 48 4 5 6 7 (zui I 19 1 7)) (zPr 7)) rfl rfl rfl rfl rfl rfl rfl rfl rfl (xp_M_copy_45_4 _ _ (0, (g_M_copy 45 46 47 48 4 5 6 7 (zui I 19 1 7))) rfl) ?_
  refine wp_blk (pc' := 30) (L' := [some (.ref 19), some (.ref 4), some (.ref 45)]) (st' := [.ref 19]) (h' := zH (g_M_copy 45 46 47 48 4 5 6 7 (zui I 19 1 7)) (zPr 7)) 1 rfl ?_
  refine wp_blk (pc' := 31) (L' := [some (.ref 19), some (.ref 4), some (.ref 45)]) (st' := [.ref 19, .ref 19]) (h' := zH (g_M_copy 45 46 47 48 4 5 6 7 (zui I 19 1 7)) (zPr 7)) 1 rfl ?_
  refine wp_blk (pc' := 34) (L' := [some (.ref 19), some (.ref 4), some (.ref 45)]) (st' := [.int ((g_M_copy 45 46 47 48 4 5 6 7 (zui I 19 1 7)) 19 1), .ref 19]) (h' := zH (g_M_copy 45 46 47 48 4 5 6 7 (zui I 19 1 7)) (zPr 7)) 1 rfl ?_
  refine wp_blk (pc' := 35) (L' := [some (.ref 19), some (.ref 4), some (.ref 45)]) (st' := [.int 1, .int ((g_M_copy 45 46 47 48 4 5 6 7 (zui I 19 1 7)) 19 1), .ref 19]) (h' := zH (g_M_copy 45 46 47 48 4 5 6 7 (zui I 19 1 7)) (zPr 7)) 1 rfl ?_
  refine wp_blk (pc' := 36) (L' := [some (.ref 19), some (.ref 4), some (.ref 45)]) (st' := [.int (((g_M_copy 45 46 47 48 4 5 6 7 (zui I 19 1 7)) 19 1) + 1), .ref 19]) (h' := zH (g_M_copy 45 46 47 48 4 5 6 7 (zui I 19 1 7)) (zPr 7)) 1 rfl ?_
  refine wp_blk (pc' := 39) (L' := [some (.ref 19), some (.ref 4), some (.ref 45)]) (st' := []) (h' := zH (zui (g_M_copy 45 46 47 48 4 5 6 7 (zui I 19 1 7)) 19 1 (((g_M_copy 45 46 47 48 4 5 6 7 (zui I 19 1 7)) 19 1) + 1)) (zPr 7)) 1 rfl ?_
  exact wp_end rfl rfl ⟨rfl, rfl⟩
set_option maxRecDepth 100000 in
theorem sp_take19_7_7 {X : Nat × (Nat → Int32)} (I : Nat → Nat → Int32) : Wf X 79 [some (.ref 19), some (.ref 4), none] (zH (zui I 19 1 7) (zPr 7)) (some (.int 1)) (zH (zui (g_M_copy 4 5 6 7 41 42 43 44 (zui I 19 1 7)) 19 1 (((g_M_copy 4 5 6 7 41 42 43 44 (zui I 19 1 7)) 19 1) - 1)) (zPr 7)) := by
  unfold Wf
  refine wp_blk (pc' := 1) (L' := [some (.ref 19), some (.ref 4), none]) (st' := [.ref 19]) (h' := zH (zui I 19 1 7) (zPr 7)) 1 rfl ?_
  refine wp_blk (pc' := 2) (L' := [some (.ref 19), some (.ref 4), none]) (st' := [.ref 19, .ref 19]) (h' := zH (zui I 19 1 7) (zPr 7)) 1 rfl ?_
  refine wp_blk (pc' := 5) (L' := [some (.ref 19), some (.ref 4), none]) (st' := [.int 7, .ref 19]) (h' := zH (zui I 19 1 7) (zPr 7)) 1 rfl ?_
  refine wp_blk (pc' := 6) (L' := [some (.ref 19), some (.ref 4), none]) (st' := [.int 1, .int 7, .ref 19]) (h' := zH (zui I 19 1 7) (zPr 7)) 1 rfl ?_
  refine wp_blk (pc' := 7) (L' := [some (.ref 19), some (.ref 4), none]) (st' := [.int 6, .ref 19]) (h' := zH (zui I 19 1 7) (zPr 7)) 1 rfl ?_
  refine wp_callf (d := 68) (as := [.ref 19, .int 6]) (rest := []) (Ld := [some (.ref 19), some (.int 6)]) (pc' := 10) (st' := [.ref 41]) (r := some (.ref 41)) (h1 := zH (zui I 19 1 7) (zPr 7)) rfl rfl rfl rfl rfl rfl rfl rfl rfl (sp_at19_7_6 (X := X) (zui I 19 1 7)) ?_
  refine wp_blk (pc' := 11) (L' := [some (.ref 19), some (.ref 4), some (.ref 41)]) (st' := []) (h' := zH (zui I 19 1 7) (zPr 7)) 1 rfl ?_
  refine wp_blk (pc' := 12) (L' := [some (.ref 19), some (.ref 4), some (.ref 41)]) (st' := [.ref 41]) (h' := zH (zui I 19 1 7) (zPr 7)) 1 rfl ?_
  refine wp_blk (pc' := 17) (L' := [some (.ref 19), some (.ref 4), some (.ref 41)]) (st' := []) (h' := zH (zui I 19 1 7) (zPr 7)) 1 rfl ?_
  refine wp_blk (pc' := 18) (L' := [some (.ref 19), some (.ref 4), some (.ref 41)]) (st' := [.ref 4]) (h' := zH (zui I 19 1 7) (zPr 7)) 1 rfl ?_
  refine wp_blk (pc' := 19) (L' := [some (.ref 19), some (.ref 4), some (.ref 41)]) (st' := [.ref 41, .ref 4]) (h' := zH (zui I 19 1 7) (zPr 7)) 1 rfl ?_
  refine wp_callf (d := 37) (as := [.ref 4, .ref 41]) (rest := []) (Ld := [some (.ref 4), some (.ref 41)]) (pc' := 22) (st' := []) (r := none) (h1 := zH (g_M_copy 4 5 6 7 41 42 43 44 (zui I 19 1 7)) (zPr 7)) rfl rfl rfl rfl rfl rfl rfl rfl rfl (xp_M_copy_4_41 _ _ (0, (g_M_copy 4 5 6 7 41 42 43 44 (zui I 19 1 7))) rfl) ?_
  refine wp_blk (pc' := 23) (L' := [some (.ref 19), some (.ref 4), some (.ref 41)]) (st' := [.ref 19]) (h' := zH (g_M_copy 4 5 6 7 41 42 43 44 (zui I 19 1 7)) (zPr 7)) 1 rfl ?_
  refine wp_blk (pc' := 24) (L' := [some (.ref 19), some (.ref 4), some (.ref 41)]) (st' := [.ref 19, .ref 19]) (h' := zH (g_M_copy 4 5 6 7 41 42 43 44 (zui I 19 1 7)) (zPr 7)) 1 rfl ?_
  refine wp_blk (pc' := 27) (L' := [some (.ref 19), some (.ref 4), some (.ref 41)]) (st' := [.int ((g_M_copy 4 5 6 7 41 42 43 44 (zui I 19 1 7)) 19 1), .ref 19]) (h' := zH (g_M_copy 4 5 6 7 41 42 43 44 (zui I 19 1 7)) (zPr 7)) 1 rfl ?_
  refine wp_blk (pc' := 28) (L' := [some (.ref 19), some (.ref 4), some (.ref 41)]) (st' := [.int 1, .int ((g_M_copy 4 5 6 7 41 42 43 44 (zui I 19 1 7)) 19 1), .ref 19]) (h' := zH (g_M_copy 4 5 6 7 41 42 43 44 (zui I 19 1 7)) (zPr 7)) 1 rfl ?_
  refine wp_blk (pc' := 29) (L' := [some (.ref 19), some (.ref 4), some (.ref 41)]) (st' := [.int (((g_M_copy 4 5 6 7 41 42 43 44 (zui I 19 1 7)) 19 1) - 1), .ref 19]) (h' := zH (g_M_copy 4 5 6 7 41 42 43 44 (zui I 19 1 7)) (zPr 7)) 1 rfl ?_
  refine wp_blk (pc' := 32) (L' := [some (.ref 19), some (.ref 4), some (.ref 41)]) (st' := []) (h' := zH (zui (g_M_copy 4 5 6 7 41 42 43 44 (zui I 19 1 7)) 19 1 (((g_M_copy 4 5 6 7 41 42 43 44 (zui I 19 1 7)) 19 1) - 1)) (zPr 7)) 1 rfl ?_
  refine wp_blk (pc' := 33) (L' := [some (.ref 19), some (.ref 4), some (.ref 41)]) (st' := [.int 1]) (h' := zH (zui (g_M_copy 4 5 6 7 41 42 43 44 (zui I 19 1 7)) 19 1 (((g_M_copy 4 5 6 7 41 42 43 44 (zui I 19 1 7)) 19 1) - 1)) (zPr 7)) 1 rfl ?_
  exact wp_end rfl rfl ⟨rfl, rfl⟩
set_option maxRecDepth 100000 in
theorem sp_put19_7_8 {X : Nat × (Nat → Int32)} (I : Nat → Nat → Int32) : Wf X 65 [some (.ref 19), some (.ref 4), none] (zH (zui I 19 1 8) (zPr 7)) none (zH (zui (g_M_copy 49 50 51 52 4 5 6 7 (zui (zui I 19 1 8) 19 1 7)) 19 1 (((g_M_copy 49 50 51 52 4 5 6 7 (zui (zui I 19 1 8) 19 1 7)) 19 1) + 1)) (zPr 0)) := by
  unfold Wf
  refine wp_blk (pc' := 1) (L' := [some (.ref 19), some (.ref 4), none]) (st' := [.ref 19]) (h' := zH (zui I 19 1 8) (zPr 7)) 1 rfl ?_
  refine wp_callf (d := 66) (as := [.ref 19]) (rest := []) (Ld := [some (.ref 19)]) (pc' := 4) (st' := [.int 1]) (r := some (.int 1)) (h1 := zH (zui I 19 1 8) (zPr 7)) rfl rfl rfl rfl rfl rfl rfl rfl rfl (sp_H1_isFull (X := X) (zui I 19 1 8) (zPr 7)) ?_
  refine wp_blk (pc' := 7) (L' := [some (.ref 19), some (.ref 4), none]) (st' := []) (h' := zH (zui I 19 1 8) (zPr 7)) 1 rfl ?_
  refine wp_blk (pc' := 8) (L' := [some (.ref 19), some (.ref 4), none]) (st' := [.ref 19]) (h' := zH (zui I 19 1 8) (zPr 7)) 1 rfl ?_
  refine wp_callf (d := 67) (as := [.ref 19]) (rest := []) (Ld := [some (.ref 19), none, none]) (pc' := 11) (st' := []) (r := none) (h1 := zH (zui (zui I 19 1 8) 19 1 7) (zPr 0)) rfl rfl rfl rfl rfl rfl rfl rfl rfl (sp_drop_7 (X := X) (zui I 19 1 8)) ?_
  refine wp_blk (pc' := 12) (L' := [some (.ref 19), some (.ref 4), none]) (st' := [.ref 19]) (h' := zH (zui (zui I 19 1 8) 19 1 7) (zPr 0)) 1 rfl ?_
  refine wp_blk (pc' := 13) (L' := [some (.ref 19), some (.ref 4), none]) (st' := [.ref 19, .ref 19]) (h' := zH (zui (zui I 19 1 8) 19 1 7) (zPr 0)) 1 rfl ?_
  refine wp_blk (pc' := 16) (L' := [some (.ref 19), some (.ref 4), none]) (st' := [.int 7, .ref 19]) (h' := zH (zui (zui I 19 1 8) 19 1 7) (zPr 0)) 1 rfl ?_
  refine wp_callf (d := 68) (as := [.ref 19, .int 7]) (rest := []) (Ld := [some (.ref 19), some (.int 7)]) (pc' := 19) (st' := [.ref 49]) (r := some (.ref 49)) (h1 := zH (zui (zui I 19 1 8) 19 1 7) (zPr 0)) rfl rfl rfl rfl rfl rfl rfl rfl rfl (sp_at19_0_7 (X := X) (zui (zui I 19 1 8) 19 1 7)) ?_
  refine wp_blk (pc' := 20) (L' := [some (.ref 19), some (.ref 4), some (.ref 49)]) (st' := []) (h' := zH (zui (zui I 19 1 8) 19 1 7) (zPr 0)) 1 rfl ?_
  refine wp_blk (pc' := 21) (L' := [some (.ref 19), some (.ref 4), some (.ref 49)]) (st' := [.ref 49]) (h' := zH (zui (zui I 19 1 8) 19 1 7) (zPr 0)) 1 rfl ?_
  refine wp_blk (pc' := 24) (L' := [some (.ref 19), some (.ref 4), some (.ref 49)]) (st' := []) (h' := zH (zui (zui I 19 1 8) 19 1 7) (zPr 0)) 1 rfl ?_
  refine wp_blk (pc' := 25) (L' := [some (.ref 19), some (.ref 4), some (.ref 49)]) (st' := [.ref 49]) (h' := zH (zui (zui I 19 1 8) 19 1 7) (zPr 0)) 1 rfl ?_
  refine wp_blk (pc' := 26) (L' := [some (.ref 19), some (.ref 4), some (.ref 49)]) (st' := [.ref 4, .ref 49]) (h' := zH (zui (zui I 19 1 8) 19 1 7) (zPr 0)) 1 rfl ?_
  refine wp_callf (d := 37) (as := [.ref 49, .ref 4]) (rest := []) (Ld := [some (.ref 49), some (.ref 4)]) (pc' := 29) (st' := []) (r := none) (h1 := zH (g_M_copy 49 50 51 52 4 5 6 7 (zui (zui I 19 1 8) 19 1 7)) (zPr 0)) rfl rfl rfl rfl rfl rfl rfl rfl rfl (xp_M_copy_49_4 _ _ (0, (g_M_copy 49 50 51 52 4 5 6 7 (zui (zui I 19 1 8) 19 1 7))) rfl) ?_
  refine wp_blk (pc' := 30) (L' := [some (.ref 19), some (.ref 4), some (.ref 49)]) (st' := [.ref 19]) (h' := zH (g_M_copy 49 50 51 52 4 5 6 7 (zui (zui I 19 1 8) 19 1 7)) (zPr 0)) 1 rfl ?_
  refine wp_blk (pc' := 31) (L' := [some (.ref 19), some (.ref 4), some (.ref 49)]) (st' := [.ref 19, .ref 19]) (h' := zH (g_M_copy 49 50 51 52 4 5 6 7 (zui (zui I 19 1 8) 19 1 7)) (zPr 0)) 1 rfl ?_
  refine wp_blk (pc' := 34) (L' := [some (.ref 19), some (.ref 4), some (.ref 49)]) (st' := [.int ((g_M_copy 49 50 51 52 4 5 6 7 (zui (zui I 19 1 8) 19 1 7)) 19 1), .ref 19]) (h' := zH (g_M_copy 49 50 51 52 4 5 6 7 (zui (zui I 19 1 8) 19 1 7)) (zPr 0)) 1 rfl ?_
  refine wp_blk (pc' := 35) (L' := [some (.ref 19), some (.ref 4), some (.ref 49)]) (st' := [.int 1, .int ((g_M_copy 49 50 51 52 4 5 6 7 (zui (zui I 19 1 8) 19 1 7)) 19 1), .ref 19]) (h' := zH (g_M_copy 49 50 51 52 4 5 6 7 (zui (zui I 19 1 8) 19 1 7)) (zPr 0)) 1 rfl ?_
  refine wp_blk (pc' := 36) (L' := [some (.ref 19), some (.ref 4), some (.ref 49)]) (st' := [.int (((g_M_copy 49 50 51 52 4 5 6 7 (zui (zui I 19 1 8) 19 1 7)) 19 1) + 1), .ref 19]) (h' := zH (g_M_copy 49 50 51 52 4 5 6 7 (zui (zui I 19 1 8) 19 1 7)) (zPr 0)) 1 rfl ?_
  refine wp_blk (pc' := 39) (L' := [some (.ref 19), some (.ref 4), some (.ref 49)]) (st' := []) (h' := zH (zui (g_M_copy 49 50 51 52 4 5 6 7 (zui (zui I 19 1 8) 19 1 7)) 19 1 (((g_M_copy 49 50 51 52 4 5 6 7 (zui (zui I 19 1 8) 19 1 7)) 19 1) + 1)) (zPr 0)) 1 rfl ?_
  exact wp_end rfl rfl ⟨rfl, rfl⟩
set_option maxRecDepth 100000 in
theorem sp_take19_7_8 {X : Nat × (Nat → Int32)} (I : Nat → Nat → Int32) : Wf X 79 [some (.ref 19), some (.ref 4), none] (zH (zui I 19 1 8) (zPr 7)) (some (.int 1)) (zH (zui (g_M_copy 4 5 6 7 45 46 47 48 (zui I 19 1 8)) 19 1 (((g_M_copy 4 5 6 7 45 46 47 48 (zui I 19 1 8)) 19 1) - 1)) (zPr 7)) := by
  unfold Wf
  refine wp_blk (pc' := 1) (L' := [some (.ref 19), some (.ref 4), none]) (st' := [.ref 19]) (h' := zH (zui I 19 1 8) (zPr 7)) 1 rfl ?_
  refine wp_blk (pc' := 2) (L' := [some (.ref 19), some (.ref 4), none]) (st' := [.ref 19, .ref 19]) (h' := zH (zui I 19 1 8) (zPr 7)) 1 rfl ?_
  refine wp_blk (pc' := 5) (L' := [some (.ref 19), some (.ref 4), none]) (st' := [.int 8, .ref 19]) (h' := zH (zui I 19 1 8) (zPr 7)) 1 rfl ?_
  refine wp_blk (pc' := 6) (L' := [some (.ref 19), some (.ref 4), none]) (st' := [.int 1, .int 8, .ref 19]) (h' := zH (zui I 19 1 8) (zPr 7)) 1 rfl ?_
  refine wp_blk (pc' := 7) (L' := [some (.ref 19), some (.ref 4), none]) (st' := [.int 7, .ref 19]) (h' := zH (zui I 19 1 8) (zPr 7)) 1 rfl ?_
  refine wp_callf (d := 68) (as := [.ref 19, .int 7]) (rest := []) (Ld := [some (.ref 19), some (.int 7)]) (pc' := 10) (st' := [.ref 45]) (r := some (.ref 45)) (h1 := zH (zui I 19 1 8) (zPr 7)) rfl rfl rfl rfl rfl rfl rfl rfl rfl (sp_at19_7_7 (X := X) (zui I 19 1 8)) ?_
  refine wp_blk (pc' := 11) (L' := [some (.ref 19), some (.ref 4), some (.ref 45)]) (st' := []) (h' := zH (zui I 19 1 8) (zPr 7)) 1 rfl ?_
  refine wp_blk (pc' := 12) (L' := [some (.ref 19), some (.ref 4), some (.ref 45)]) (st' := [.ref 45]) (h' := zH (zui I 19 1 8) (zPr 7)) 1 rfl ?_
  refine wp_blk (pc' := 17) (L' := [some (.ref 19), some (.ref 4), some (.ref 45)]) (st' := []) (h' := zH (zui I 19 1 8) (zPr 7)) 1 rfl ?_
  refine wp_blk (pc' := 18) (L' := [some (.ref 19), some (.ref 4), some (.ref 45)]) (st' := [.ref 4]) (h' := zH (zui I 19 1 8) (zPr 7)) 1 rfl ?_
  refine wp_blk (pc' := 19) (L' := [some (.ref 19), some (.ref 4), some (.ref 45)]) (st' := [.ref 45, .ref 4]) (h' := zH (zui I 19 1 8) (zPr 7)) 1 rfl ?_
  refine wp_callf (d := 37) (as := [.ref 4, .ref 45]) (rest := []) (Ld := [some (.ref 4), some (.ref 45)]) (pc' := 22) (st' := []) (r := none) (h1 := zH (g_M_copy 4 5 6 7 45 46 47 48 (zui I 19 1 8)) (zPr 7)) rfl rfl rfl rfl rfl rfl rfl rfl rfl (xp_M_copy_4_45 _ _ (0, (g_M_copy 4 5 6 7 45 46 47 48 (zui I 19 1 8))) rfl) ?_
  refine wp_blk (pc' := 23) (L' := [some (.ref 19), some (.ref 4), some (.ref 45)]) (st' := [.ref 19]) (h' := zH (g_M_copy 4 5 6 7 45 46 47 48 (zui I 19 1 8)) (zPr 7)) 1 rfl ?_
  refine wp_blk (pc' := 24) (L' := [some (.ref 19), some (.ref 4), some (.ref 45)]) (st' := [.ref 19, .ref 19]) (h' := zH (g_M_copy 4 5 6 7 45 46 47 48 (zui I 19 1 8)) (zPr 7)) 1 rfl ?_
  refine wp_blk (pc' := 27) (L' := [some (.ref 19), some (.ref 4), some (.ref 45)]) (st' := [.int ((g_M_copy 4 5 6 7 45 46 47 48 (zui I 19 1 8)) 19 1), .ref 19]) (h' := zH (g_M_copy 4 5 6 7 45 46 47 48 (zui I 19 1 8)) (zPr 7)) 1 rfl ?_
  refine wp_blk (pc' := 28) (L' := [some (.ref 19), some (.ref 4), some (.ref 45)]) (st' := [.int 1, .int ((g_M_copy 4 5 6 7 45 46 47 48 (zui I 19 1 8)) 19 1), .ref 19]) (h' := zH (g_M_copy 4 5 6 7 45 46 47 48 (zui I 19 1 8)) (zPr 7)) 1 rfl ?_
  refine wp_blk (pc' := 29) (L' := [some (.ref 19), some (.ref 4), some (.ref 45)]) (st' := [.int (((g_M_copy 4 5 6 7 45 46 47 48 (zui I 19 1 8)) 19 1) - 1), .ref 19]) (h' := zH (g_M_copy 4 5 6 7 45 46 47 48 (zui I 19 1 8)) (zPr 7)) 1 rfl ?_
  refine wp_blk (pc' := 32) (L' := [some (.ref 19), some (.ref 4), some (.ref 45)]) (st' := []) (h' := zH (zui (g_M_copy 4 5 6 7 45 46 47 48 (zui I 19 1 8)) 19 1 (((g_M_copy 4 5 6 7 45 46 47 48 (zui I 19 1 8)) 19 1) - 1)) (zPr 7)) 1 rfl ?_
  refine wp_blk (pc' := 33) (L' := [some (.ref 19), some (.ref 4), some (.ref 45)]) (st' := [.int 1]) (h' := zH (zui (g_M_copy 4 5 6 7 45 46 47 48 (zui I 19 1 8)) 19 1 (((g_M_copy 4 5 6 7 45 46 47 48 (zui I 19 1 8)) 19 1) - 1)) (zPr 7)) 1 rfl ?_
  exact wp_end rfl rfl ⟨rfl, rfl⟩
set_option maxRecDepth 100000 in
theorem sp_put53_k_0 {X : Nat × (Nat → Int32)} (I : Nat → Nat → Int32) (r : Nat) : Wf X 65 [some (.ref 53), some (.ref 4), none] (zH (zui I 53 1 0) (zPr r)) none (zH (zui (g_M_copy 55 56 57 58 4 5 6 7 (zui I 53 1 0)) 53 1 (((g_M_copy 55 56 57 58 4 5 6 7 (zui I 53 1 0)) 53 1) + 1)) (zPr r)) := by
  unfold Wf
  refine wp_blk (pc' := 1) (L' := [some (.ref 53), some (.ref 4), none]) (st' := [.ref 53]) (h' := zH (zui I 53 1 0) (zPr r)) 1 rfl ?_
  refine wp_callf (d := 66) (as := [.ref 53]) (rest := []) (Ld := [some (.ref 53)]) (pc' := 4) (st' := [.int 0]) (r := some (.int 0)) (h1 := zH (zui I 53 1 0) (zPr r)) rfl rfl rfl rfl rfl rfl rfl rfl rfl (sp_H2_isFull (X := X) (zui I 53 1 0) (zPr r)) ?_
  refine wp_blk (pc' := 11) (L' := [some (.ref 53), some (.ref 4), none]) (st' := []) (h' := zH (zui I 53 1 0) (zPr r)) 1 rfl ?_
  refine wp_blk (pc' := 12) (L' := [some (.ref 53), some (.ref 4), none]) (st' := [.ref 53]) (h' := zH (zui I 53 1 0) (zPr r)) 1 rfl ?_
  refine wp_blk (pc' := 13) (L' := [some (.ref 53), some (.ref 4), none]) (st' := [.ref 53, .ref 53]) (h' := zH (zui I 53 1 0) (zPr r)) 1 rfl ?_
  refine wp_blk (pc' := 16) (L' := [some (.ref 53), some (.ref 4), none]) (st' := [.int 0, .ref 53]) (h' := zH (zui I 53 1 0) (zPr r)) 1 rfl ?_
  refine wp_callf (d := 68) (as := [.ref 53, .int 0]) (rest := []) (Ld := [some (.ref 53), some (.int 0)]) (pc' := 19) (st' := [.ref 55]) (r := some (.ref 55)) (h1 := zH (zui I 53 1 0) (zPr r)) rfl rfl rfl rfl rfl rfl rfl rfl rfl (sp_at53_k_0 (X := X) (zui I 53 1 0) r) ?_
  refine wp_blk (pc' := 20) (L' := [some (.ref 53), some (.ref 4), some (.ref 55)]) (st' := []) (h' := zH (zui I 53 1 0) (zPr r)) 1 rfl ?_
  refine wp_blk (pc' := 21) (L' := [some (.ref 53), some (.ref 4), some (.ref 55)]) (st' := [.ref 55]) (h' := zH (zui I 53 1 0) (zPr r)) 1 rfl ?_
  refine wp_blk (pc' := 24) (L' := [some (.ref 53), some (.ref 4), some (.ref 55)]) (st' := []) (h' := zH (zui I 53 1 0) (zPr r)) 1 rfl ?_
  refine wp_blk (pc' := 25) (L' := [some (.ref 53), some (.ref 4), some (.ref 55)]) (st' := [.ref 55]) (h' := zH (zui I 53 1 0) (zPr r)) 1 rfl ?_
  refine wp_blk (pc' := 26) (L' := [some (.ref 53), some (.ref 4), some (.ref 55)]) (st' := [.ref 4, .ref 55]) (h' := zH (zui I 53 1 0) (zPr r)) 1 rfl ?_
  refine wp_callf (d := 37) (as := [.ref 55, .ref 4]) (rest := []) (Ld := [some (.ref 55), some (.ref 4)]) (pc' := 29) (st' := []) (r := none) (h1 := zH (g_M_copy 55 56 57 58 4 5 6 7 (zui I 53 1 0)) (zPr r)) rfl rfl rfl rfl rfl rfl rfl rfl rfl (xp_M_copy_55_4 _ _ (0, (g_M_copy 55 56 57 58 4 5 6 7 (zui I 53 1 0))) rfl) ?_
  refine wp_blk (pc' := 30) (L' := [some (.ref 53), some (.ref 4), some (.ref 55)]) (st' := [.ref 53]) (h' := zH (g_M_copy 55 56 57 58 4 5 6 7 (zui I 53 1 0)) (zPr r)) 1 rfl ?_
  refine wp_blk (pc' := 31) (L' := [some (.ref 53), some (.ref 4), some (.ref 55)]) (st' := [.ref 53, .ref 53]) (h' := zH (g_M_copy 55 56 57 58 4 5 6 7 (zui I 53 1 0)) (zPr r)) 1 rfl ?_
  refine wp_blk (pc' := 34) (L' := [some (.ref 53), some (.ref 4), some (.ref 55)]) (st' := [.int ((g_M_copy 55 56 57 58 4 5 6 7 (zui I 53 1 0)) 53 1), .ref 53]) (h' := zH (g_M_copy 55 56 57 58 4 5 6 7 (zui I 53 1 0)) (zPr r)) 1 rfl ?_
  refine wp_blk (pc' := 35) (L' := [some (.ref 53), some (.ref 4), some (.ref 55)]) (st' := [.int 1, .int ((g_M_copy 55 56 57 58 4 5 6 7 (zui I 53 1 0)) 53 1), .ref 53]) (h' := zH (g_M_copy 55 56 57 58 4 5 6 7 (zui I 53 1 0)) (zPr r)) 1 rfl ?_
  refine wp_blk (pc' := 36) (L' := [some (.ref 53), some (.ref 4), some (.ref 55)]) (st' := [.int (((g_M_copy 55 56 57 58 4 5 6 7 (zui I 53 1 0)) 53 1) + 1), .ref 53]) (h' := zH (g_M_copy 55 56 57 58 4 5 6 7 (zui I 53 1 0)) (zPr r)) 1 rfl ?_
  refine wp_blk (pc' := 39) (L' := [some (.ref 53), some (.ref 4), some (.ref 55)]) (st' := []) (h' := zH (zui (g_M_copy 55 56 57 58 4 5 6 7 (zui I 53 1 0)) 53 1 (((g_M_copy 55 56 57 58 4 5 6 7 (zui I 53 1 0)) 53 1) + 1)) (zPr r)) 1 rfl ?_
  exact wp_end rfl rfl ⟨rfl, rfl⟩
set_option maxRecDepth 100000 in
theorem sp_take53_k_0 {X : Nat × (Nat → Int32)} (I : Nat → Nat → Int32) (r : Nat) : Wf X 79 [some (.ref 53), some (.ref 4), none] (zH (zui I 53 1 0) (zPr r)) (some (.int 0)) (zH (zui I 53 1 0) (zPr r)) := by
  unfold Wf
  refine wp_blk (pc' := 1) (L' := [some (.ref 53), some (.ref 4), none]) (st' := [.ref 53]) (h' := zH (zui I 53 1 0) (zPr r)) 1 rfl ?_
  refine wp_blk (pc' := 2) (L' := [some (.ref 53), some (.ref 4), none]) (st' := [.ref 53, .ref 53]) (h' := zH (zui I 53 1 0) (zPr r)) 1 rfl ?_
  refine wp_blk (pc' := 5) (L' := [some (.ref 53), some (.ref 4), none]) (st' := [.int 0, .ref 53]) (h' := zH (zui I 53 1 0) (zPr r)) 1 rfl ?_
  refine wp_blk (pc' := 6) (L' := [some (.ref 53), some (.ref 4), none]) (st' := [.int 1, .int 0, .ref 53]) (h' := zH (zui I 53 1 0) (zPr r)) 1 rfl ?_
  refine wp_blk (pc' := 7) (L' := [some (.ref 53), some (.ref 4), none]) (st' := [.int (-1), .ref 53]) (h' := zH (zui I 53 1 0) (zPr r)) 1 rfl ?_
  refine wp_callf (d := 68) (as := [.ref 53, .int (-1)]) (rest := []) (Ld := [some (.ref 53), some (.int (-1))]) (pc' := 10) (st' := [.null]) (r := some (.null)) (h1 := zH (zui I 53 1 0) (zPr r)) rfl rfl rfl rfl rfl rfl rfl rfl rfl (sp_at53_k_m (X := X) (zui I 53 1 0) r) ?_
  refine wp_blk (pc' := 11) (L' := [some (.ref 53), some (.ref 4), some (.null)]) (st' := []) (h' := zH (zui I 53 1 0) (zPr r)) 1 rfl ?_
  refine wp_blk (pc' := 12) (L' := [some (.ref 53), some (.ref 4), some (.null)]) (st' := [.null]) (h' := zH (zui I 53 1 0) (zPr r)) 1 rfl ?_
  refine wp_blk (pc' := 15) (L' := [some (.ref 53), some (.ref 4), some (.null)]) (st' := []) (h' := zH (zui I 53 1 0) (zPr r)) 1 rfl ?_
  refine wp_blk (pc' := 16) (L' := [some (.ref 53), some (.ref 4), some (.null)]) (st' := [.int 0]) (h' := zH (zui I 53 1 0) (zPr r)) 1 rfl ?_
  exact wp_end rfl rfl ⟨rfl, rfl⟩
set_option maxRecDepth 100000 in
theorem sp_put53_k_1 {X : Nat × (Nat → Int32)} (I : Nat → Nat → Int32) (r : Nat) : Wf X 65 [some (.ref 53), some (.ref 4), none] (zH (zui I 53 1 1) (zPr r)) none (zH (zui (g_M_copy 59 60 61 62 4 5 6 7 (zui I 53 1 1)) 53 1 (((g_M_copy 59 60 61 62 4 5 6 7 (zui I 53 1 1)) 53 1) + 1)) (zPr r)) := by
  unfold Wf
  refine wp_blk (pc' := 1) (L' := [some (.ref 53), some (.ref 4), none]) (st' := [.ref 53]) (h' := zH (zui I 53 1 1) (zPr r)) 1 rfl ?_
  refine wp_callf (d := 66) (as := [.ref 53]) (rest := []) (Ld := [some (.ref 53)]) (pc' := 4) (st' := [.int 0]) (r := some (.int 0)) (h1 := zH (zui I 53 1 1) (zPr r)) rfl rfl rfl rfl rfl rfl rfl rfl rfl (sp_H2_isFull (X := X) (zui I 53 1 1) (zPr r)) ?_
  refine wp_blk (pc' := 11) (L' := [some (.ref 53), some (.ref 4), none]) (st' := []) (h' := zH (zui I 53 1 1) (zPr r)) 1 rfl ?_
  refine wp_blk (pc' := 12) (L' := [some (.ref 53), some (.ref 4), none]) (st' := [.ref 53]) (h' := zH (zui I 53 1 1) (zPr r)) 1 rfl ?_
  refine wp_blk (pc' := 13) (L' := [some (.ref 53), some (.ref 4), none]) (st' := [.ref 53, .ref 53]) (h' := zH (zui I 53 1 1) (zPr r)) 1 rfl ?_
  refine wp_blk (pc' := 16) (L' := [some (.ref 53), some (.ref 4), none]) (st' := [.int 1, .ref 53]) (h' := zH (zui I 53 1 1) (zPr r)) 1 rfl ?_
  refine wp_callf (d := 68) (as := [.ref 53, .int 1]) (rest := []) (Ld := [some (.ref 53), some (.int 1)]) (pc' := 19) (st' := [.ref 59]) (r := some (.ref 59)) (h1 := zH (zui I 53 1 1) (zPr r)) rfl rfl rfl rfl rfl rfl rfl rfl rfl (sp_at53_k_1 (X := X) (zui I 53 1 1) r) ?_
  refine wp_blk (pc' := 20) (L' := [some (.ref 53), some (.ref 4), some (.ref 59)]) (st' := []) (h' := zH (zui I 53 1 1) (zPr r)) 1 rfl ?_
  refine wp_blk (pc' := 21) (L' := [some (.ref 53), some (.ref 4), some (.ref 59)]) (st' := [.ref 59]) (h' := zH (zui I 53 1 1) (zPr r)) 1 rfl ?_
  refine wp_blk (pc' := 24) (L' := [some (.ref 53), some (.ref 4), some (.ref 59)]) (st' := []) (h' := zH (zui I 53 1 1) (zPr r)) 1 rfl ?_
  refine wp_blk (pc' := 25) (L' := [some (.ref 53), some (.ref 4), some (.ref 59)]) (st' := [.ref 59]) (h' := zH (zui I 53 1 1) (zPr r)) 1 rfl ?_
  refine wp_blk (pc' := 26) (L' := [some (.ref 53), some (.ref 4), some (.ref 59)]) (st' := [.ref 4, .ref 59]) (h' := zH (zui I 53 1 1) (zPr r)) 1 rfl ?_
  refine wp_callf (d := 37) (as := [.ref 59, .ref 4]) (rest := []) (Ld := [some (.ref 59), some (.ref 4)]) (pc' := 29) (st' := []) (r := none) (h1 := zH (g_M_copy 59 60 61 62 4 5 6 7 (zui I 53 1 1)) (zPr r)) rfl rfl rfl rfl rfl rfl rfl rfl rfl (xp_M_copy_59_4 _ _ (0, (g_M_copy 59 60 61 62 4 5 6 7 (zui I 53 1 1))) rfl) ?_
  refine wp_blk (pc' := 30) (L' := [some (.ref 53), some (.ref 4), some (.ref 59)]) (st' := [.ref 53]) (h' := zH (g_M_copy 59 60 61 62 4 5 6 7 (zui I 53 1 1)) (zPr r)) 1 rfl ?_
  refine wp_blk (pc' := 31) (L' := [some (.ref 53), some (.ref 4), some (.ref 59)]) (st' := [.ref 53, .ref 53]) (h' := zH (g_M_copy 59 60 61 62 4 5 6 7 (zui I 53 1 1)) (zPr r)) 1 rfl ?_
  refine wp_blk (pc' := 34) (L' := [some (.ref 53), some (.ref 4), some (.ref 59)]) (st' := [.int ((g_M_copy 59 60 61 62 4 5 6 7 (zui I 53 1 1)) 53 1), .ref 53]) (h' := zH (g_M_copy 59 60 61 62 4 5 6 7 (zui I 53 1 1)) (zPr r)) 1 rfl ?_
  refine wp_blk (pc' := 35) (L' := [some (.ref 53), some (.ref 4), some (.ref 59)]) (st' := [.int 1, .int ((g_M_copy 59 60 61 62 4 5 6 7 (zui I 53 1 1)) 53 1), .ref 53]) (h' := zH (g_M_copy 59 60 61 62 4 5 6 7 (zui I 53 1 1)) (zPr r)) 1 rfl ?_
  refine wp_blk (pc' := 36) (L' := [some (.ref 53), some (.ref 4), some (.ref 59)]) (st' := [.int (((g_M_copy 59 60 61 62 4 5 6 7 (zui I 53 1 1)) 53 1) + 1), .ref 53]) (h' := zH (g_M_copy 59 60 61 62 4 5 6 7 (zui I 53 1 1)) (zPr r)) 1 rfl ?_
  refine wp_blk (pc' := 39) (L' := [some (.ref 53), some (.ref 4), some (.ref 59)]) (st' := []) (h' := zH (zui (g_M_copy 59 60 61 62 4 5 6 7 (zui I 53 1 1)) 53 1 (((g_M_copy 59 60 61 62 4 5 6 7 (zui I 53 1 1)) 53 1) + 1)) (zPr r)) 1 rfl ?_
  exact wp_end rfl rfl ⟨rfl, rfl⟩
set_option maxRecDepth 100000 in
theorem sp_take53_k_1 {X : Nat × (Nat → Int32)} (I : Nat → Nat → Int32) (r : Nat) : Wf X 79 [some (.ref 53), some (.ref 4), none] (zH (zui I 53 1 1) (zPr r)) (some (.int 1)) (zH (zui (g_M_copy 4 5 6 7 55 56 57 58 (zui I 53 1 1)) 53 1 (((g_M_copy 4 5 6 7 55 56 57 58 (zui I 53 1 1)) 53 1) - 1)) (zPr r)) := by
  unfold Wf
  refine wp_blk (pc' := 1) (L' := [some (.ref 53), some (.ref 4), none]) (st' := [.ref 53]) (h' := zH (zui I 53 1 1) (zPr r)) 1 rfl ?_
  refine wp_blk (pc' := 2) (L' := [some (.ref 53), some (.ref 4), none]) (st' := [.ref 53, .ref 53]) (h' := zH (zui I 53 1 1) (zPr r)) 1 rfl ?_
  refine wp_blk (pc' := 5) (L' := [some (.ref 53), some (.ref 4), none]) (st' := [.int 1, .ref 53]) (h' := zH (zui I 53 1 1) (zPr r)) 1 rfl ?_
  refine wp_blk (pc' := 6) (L' := [some (.ref 53), some (.ref 4), none]) (st' := [.int 1, .int 1, .ref 53]) (h' := zH (zui I 53 1 1) (zPr r)) 1 rfl ?_
  refine wp_blk (pc' := 7) (L' := [some (.ref 53), some (.ref 4), none]) (st' := [.int 0, .ref 53]) (h' := zH (zui I 53 1 1) (zPr r)) 1 rfl ?_
  refine wp_callf (d := 68) (as := [.ref 53, .int 0]) (rest := []) (Ld := [some (.ref 53), some (.int 0)]) (pc' := 10) (st' := [.ref 55]) (r := some (.ref 55)) (h1 := zH (zui I 53 1 1) (zPr r)) rfl rfl rfl rfl rfl rfl rfl rfl rfl (sp_at53_k_0 (X := X) (zui I 53 1 1) r) ?_
  refine wp_blk (pc' := 11) (L' := [some (.ref 53), some (.ref 4), some (.ref 55)]) (st' := []) (h' := zH (zui I 53 1 1) (zPr r)) 1 rfl ?_
  refine wp_blk (pc' := 12) (L' := [some (.ref 53), some (.ref 4), some (.ref 55)]) (st' := [.ref 55]) (h' := zH (zui I 53 1 1) (zPr r)) 1 rfl ?_
  refine wp_blk (pc' := 17) (L' := [some (.ref 53), some (.ref 4), some (.ref 55)]) (st' := []) (h' := zH (zui I 53 1 1) (zPr r)) 1 rfl ?_
  refine wp_blk (pc' := 18) (L' := [some (.ref 53), some (.ref 4), some (.ref 55)]) (st' := [.ref 4]) (h' := zH (zui I 53 1 1) (zPr r)) 1 rfl ?_
  refine wp_blk (pc' := 19) (L' := [some (.ref 53), some (.ref 4), some (.ref 55)]) (st' := [.ref 55, .ref 4]) (h' := zH (zui I 53 1 1) (zPr r)) 1 rfl ?_
  refine wp_callf (d := 37) (as := [.ref 4, .ref 55]) (rest := []) (Ld := [some (.ref 4), some (.ref 55)]) (pc' := 22) (st' := []) (r := none) (h1 := zH (g_M_copy 4 5 6 7 55 56 57 58 (zui I 53 1 1)) (zPr r)) rfl rfl rfl rfl rfl rfl rfl rfl rfl (xp_M_copy_4_55 _ _ (0, (g_M_copy 4 5 6 7 55 56 57 58 (zui I 53 1 1))) rfl) ?_
  refine wp_blk (pc' := 23) (L' := [some (.ref 53), some (.ref 4), some (.ref 55)]) (st' := [.ref 53]) (h' := zH (g_M_copy 4 5 6 7 55 56 57 58 (zui I 53 1 1)) (zPr r)) 1 rfl ?_
  refine wp_blk (pc' := 24) (L' := [some (.ref 53), some (.ref 4), some (.ref 55)]) (st' := [.ref 53, .ref 53]) (h' := zH (g_M_copy 4 5 6 7 55 56 57 58 (zui I 53 1 1)) (zPr r)) 1 rfl ?_
  refine wp_blk (pc' := 27) (L' := [some (.ref 53), some (.ref 4), some (.ref 55)]) (st' := [.int ((g_M_copy 4 5 6 7 55 56 57 58 (zui I 53 1 1)) 53 1), .ref 53]) (h' := zH (g_M_copy 4 5 6 7 55 56 57 58 (zui I 53 1 1)) (zPr r)) 1 rfl ?_
  refine wp_blk (pc' := 28) (L' := [some (.ref 53), some (.ref 4), some (.ref 55)]) (st' := [.int 1, .int ((g_M_copy 4 5 6 7 55 56 57 58 (zui I 53 1 1)) 53 1), .ref 53]) (h' := zH (g_M_copy 4 5 6 7 55 56 57 58 (zui I 53 1 1)) (zPr r)) 1 rfl ?_
  refine wp_blk (pc' := 29) (L' := [some (.ref 53), some (.ref 4), some (.ref 55)]) (st' := [.int (((g_M_copy 4 5 6 7 55 56 57 58 (zui I 53 1 1)) 53 1) - 1), .ref 53]) (h' := zH (g_M_copy 4 5 6 7 55 56 57 58 (zui I 53 1 1)) (zPr r)) 1 rfl ?_
  refine wp_blk (pc' := 32) (L' := [some (.ref 53), some (.ref 4), some (.ref 55)]) (st' := []) (h' := zH (zui (g_M_copy 4 5 6 7 55 56 57 58 (zui I 53 1 1)) 53 1 (((g_M_copy 4 5 6 7 55 56 57 58 (zui I 53 1 1)) 53 1) - 1)) (zPr r)) 1 rfl ?_
  refine wp_blk (pc' := 33) (L' := [some (.ref 53), some (.ref 4), some (.ref 55)]) (st' := [.int 1]) (h' := zH (zui (g_M_copy 4 5 6 7 55 56 57 58 (zui I 53 1 1)) 53 1 (((g_M_copy 4 5 6 7 55 56 57 58 (zui I 53 1 1)) 53 1) - 1)) (zPr r)) 1 rfl ?_
  exact wp_end rfl rfl ⟨rfl, rfl⟩
set_option maxRecDepth 100000 in
theorem sp_take53_k_2 {X : Nat × (Nat → Int32)} (I : Nat → Nat → Int32) (r : Nat) : Wf X 79 [some (.ref 53), some (.ref 4), none] (zH (zui I 53 1 2) (zPr r)) (some (.int 1)) (zH (zui (g_M_copy 4 5 6 7 59 60 61 62 (zui I 53 1 2)) 53 1 (((g_M_copy 4 5 6 7 59 60 61 62 (zui I 53 1 2)) 53 1) - 1)) (zPr r)) := by
  unfold Wf
  refine wp_blk (pc' := 1) (L' := [some (.ref 53), some (.ref 4), none]) (st' := [.ref 53]) (h' := zH (zui I 53 1 2) (zPr r)) 1 rfl ?_
  refine wp_blk (pc' := 2) (L' := [some (.ref 53), some (.ref 4), none]) (st' := [.ref 53, .ref 53]) (h' := zH (zui I 53 1 2) (zPr r)) 1 rfl ?_
  refine wp_blk (pc' := 5) (L' := [some (.ref 53), some (.ref 4), none]) (st' := [.int 2, .ref 53]) (h' := zH (zui I 53 1 2) (zPr r)) 1 rfl ?_
  refine wp_blk (pc' := 6) (L' := [some (.ref 53), some (.ref 4), none]) (st' := [.int 1, .int 2, .ref 53]) (h' := zH (zui I 53 1 2) (zPr r)) 1 rfl ?_
  refine wp_blk (pc' := 7) (L' := [some (.ref 53), some (.ref 4), none]) (st' := [.int 1, .ref 53]) (h' := zH (zui I 53 1 2) (zPr r)) 1 rfl ?_
  refine wp_callf (d := 68) (as := [.ref 53, .int 1]) (rest := []) (Ld := [some (.ref 53), some (.int 1)]) (pc' := 10) (st' := [.ref 59]) (r := some (.ref 59)) (h1 := zH (zui I 53 1 2) (zPr r)) rfl rfl rfl rfl rfl rfl rfl rfl rfl (sp_at53_k_1 (X := X) (zui I 53 1 2) r) ?_
  refine wp_blk (pc' := 11) (L' := [some (.ref 53), some (.ref 4), some (.ref 59)]) (st' := []) (h' := zH (zui I 53 1 2) (zPr r)) 1 rfl ?_
  refine wp_blk (pc' := 12) (L' := [some (.ref 53), some (.ref 4), some (.ref 59)]) (st' := [.ref 59]) (h' := zH (zui I 53 1 2) (zPr r)) 1 rfl ?_
  refine wp_blk (pc' := 17) (L' := [some (.ref 53), some (.ref 4), some (.ref 59)]) (st' := []) (h' := zH (zui I 53 1 2) (zPr r)) 1 rfl ?_
  refine wp_blk (pc' := 18) (L' := [some (.ref 53), some (.ref 4), some (.ref 59)]) (st' := [.ref 4]) (h' := zH (zui I 53 1 2) (zPr r)) 1 rfl ?_
  refine wp_blk (pc' := 19) (L' := [some (.ref 53), some (.ref 4), some (.ref 59)]) (st' := [.ref 59, .ref 4]) (h' := zH (zui I 53 1 2) (zPr r)) 1 rfl ?_
  refine wp_callf (d := 37) (as := [.ref 4, .ref 59]) (rest := []) (Ld := [some (.ref 4), some (.ref 59)]) (pc' := 22) (st' := []) (r := none) (h1 := zH (g_M_copy 4 5 6 7 59 60 61 62 (zui I 53 1 2)) (zPr r)) rfl rfl rfl rfl rfl rfl rfl rfl rfl (xp_M_copy_4_59 _ _ (0, (g_M_copy 4 5 6 7 59 60 61 62 (zui I 53 1 2))) rfl) ?_
  refine wp_blk (pc' := 23) (L' := [some (.ref 53), some (.ref 4), some (.ref 59)]) (st' := [.ref 53]) (h' := zH (g_M_copy 4 5 6 7 59 60 61 62 (zui I 53 1 2)) (zPr r)) 1 rfl ?_
  refine wp_blk (pc' := 24) (L' := [some (.ref 53), some (.ref 4), some (.ref 59)]) (st' := [.ref 53, .ref 53]) (h' := zH (g_M_copy 4 5 6 7 59 60 61 62 (zui I 53 1 2)) (zPr r)) 1 rfl ?_
  refine wp_blk (pc' := 27) (L' := [some (.ref 53), some (.ref 4), some (.ref 59)]) (st' := [.int ((g_M_copy 4 5 6 7 59 60 61 62 (zui I 53 1 2)) 53 1), .ref 53]) (h' := zH (g_M_copy 4 5 6 7 59 60 61 62 (zui I 53 1 2)) (zPr r)) 1 rfl ?_
  refine wp_blk (pc' := 28) (L' := [some (.ref 53), some (.ref 4), some (.ref 59)]) (st' := [.int 1, .int ((g_M_copy 4 5 6 7 59 60 61 62 (zui I 53 1 2)) 53 1), .ref 53]) (h' := zH (g_M_copy 4 5 6 7 59 60 61 62 (zui I 53 1 2)) (zPr r)) 1 rfl ?_
  refine wp_blk (pc' := 29) (L' := [some (.ref 53), some (.ref 4), some (.ref 59)]) (st' := [.int (((g_M_copy 4 5 6 7 59 60 61 62 (zui I 53 1 2)) 53 1) - 1), .ref 53]) (h' := zH (g_M_copy 4 5 6 7 59 60 61 62 (zui I 53 1 2)) (zPr r)) 1 rfl ?_
  refine wp_blk (pc' := 32) (L' := [some (.ref 53), some (.ref 4), some (.ref 59)]) (st' := []) (h' := zH (zui (g_M_copy 4 5 6 7 59 60 61 62 (zui I 53 1 2)) 53 1 (((g_M_copy 4 5 6 7 59 60 61 62 (zui I 53 1 2)) 53 1) - 1)) (zPr r)) 1 rfl ?_
  refine wp_blk (pc' := 33) (L' := [some (.ref 53), some (.ref 4), some (.ref 59)]) (st' := [.int 1]) (h' := zH (zui (g_M_copy 4 5 6 7 59 60 61 62 (zui I 53 1 2)) 53 1 (((g_M_copy 4 5 6 7 59 60 61 62 (zui I 53 1 2)) 53 1) - 1)) (zPr r)) 1 rfl ?_
  exact wp_end rfl rfl ⟨rfl, rfl⟩
/-- what put and take make of the heap: k mills lie there, in rotation r -/
def zrotn (r k : Nat) : Nat := if k = 8 then (r + 1) % 8 else r
def zslot (r k : Nat) : Nat := 21 + 4 * ((k + r) % 8)
def zput (t k1 : Nat) (sh : Nat) (I : Nat → Nat → Int32) : Nat → Nat → Int32 := zui (g_M_copy t (t + 1) (t + 2) (t + 3) 4 5 6 7 I) sh 1 (nI k1)
theorem zself (I : Nat → Nat → Int32) {a j : Nat} {v : Int32} (h : I a j = v) : zui I a j v = I := by
  funext b
  unfold zui
  split
  · next q =>
    subst q
    funext i
    unfold upd
    split
    · next q => rw [q, h]
    · rfl
  · rfl
