/-! THE PURE PART: undo, keep, back, see, forget, write, wipe -/
theorem l_undo {k : Nat} (hk : k < 8) : ∀ (d i fuel : Nat) (I : Nat → Nat → Int32), i + d = 45 → d < fuel → I 63 9 = nI k → l_D_undo_22 fuel I (nI i) = some (nI k, cpR I 68 69 0 (45 * k) i 45)
  | 0, i, fuel + 1, I, hi, _, h9 => by
    rw [l_D_undo_22, if_pos (show (45 : Int32) ≤ nI i from (nle (a := 45) (by omega) (by omega)).mpr (by omega)), show i = 45 by omega, cpR_end, h9]
  | d + 1, i, fuel + 1, I, hi, hf, h9 => by
    have e : 45 * I 63 9 + nI i = nI (45 * k + i) := by rw [h9, show (45 : Int32) = nI 45 from rfl, pk_mul, nI_add]
    have ih := l_undo hk d (i + 1) fuel (zui I 68 (0 + i) (I 69 (45 * k + i))) (by omega) (by omega) (by rw [zui_ne _ _ _ (by decide)]; exact h9)
    rw [cpR_step I (by decide) (by omega), Nat.zero_add] at ih
    rw [l_D_undo_22, if_neg (show ¬ (45 : Int32) ≤ nI i from fun z => by have := (nle (a := 45) (by omega) (by omega)).mp z; omega), e, if_pos (nzin (k := 45 * k + i) (N := 360) (by omega) (by decide)), if_pos (nzin (k := i) (N := 45) (by omega) (by decide)), ncl (by omega), ncl (by omega), show nI i + 1 = nI (i + 1) from nI_add i 1]
    exact ih
theorem l_dback {k : Nat} (hk : k < 2) : ∀ (d i fuel : Nat) (I : Nat → Nat → Int32), i + d = 45 → d < fuel → I 63 11 = nI k → l_D_back_22 fuel I (nI i) = some (nI k, zui (cpR I 68 70 0 (45 * k) i 45) 63 9 0)
  | 0, i, fuel + 1, I, hi, _, h9 => by
    rw [l_D_back_22, if_pos (show (45 : Int32) ≤ nI i from (nle (a := 45) (by omega) (by omega)).mpr (by omega)), show i = 45 by omega, cpR_end, h9]
  | d + 1, i, fuel + 1, I, hi, hf, h9 => by
    have e : 45 * I 63 11 + nI i = nI (45 * k + i) := by rw [h9, show (45 : Int32) = nI 45 from rfl, pk_mul, nI_add]
    have ih := l_dback hk d (i + 1) fuel (zui I 68 (0 + i) (I 70 (45 * k + i))) (by omega) (by omega) (by rw [zui_ne _ _ _ (by decide)]; exact h9)
    rw [cpR_step I (by decide) (by omega), Nat.zero_add] at ih
    rw [l_D_back_22, if_neg (show ¬ (45 : Int32) ≤ nI i from fun z => by have := (nle (a := 45) (by omega) (by omega)).mp z; omega), e, if_pos (nzin (k := 45 * k + i) (N := 90) (by omega) (by decide)), if_pos (nzin (k := i) (N := 45) (by omega) (by decide)), ncl (by omega), ncl (by omega), show nI i + 1 = nI (i + 1) from nI_add i 1]
    exact ih
theorem l_dkeep {k : Nat} (hk : k < 2) : ∀ (d i fuel : Nat) (I : Nat → Nat → Int32), i + d = 45 → d < fuel → I 63 11 = nI k → l_D_keep_13 fuel I (nI i) = some (nI (k + 1), zui (cpR I 70 68 (45 * k) 0 i 45) 63 11 (nI (k + 1)))
  | 0, i, fuel + 1, I, hi, _, h9 => by
    rw [l_D_keep_13, if_pos (show (45 : Int32) ≤ nI i from (nle (a := 45) (by omega) (by omega)).mpr (by omega)), show i = 45 by omega, cpR_end, h9, show nI k + 1 = nI (k + 1) from nI_add k 1]
  | d + 1, i, fuel + 1, I, hi, hf, h9 => by
    have e : 45 * I 63 11 + nI i = nI (45 * k + i) := by rw [h9, show (45 : Int32) = nI 45 from rfl, pk_mul, nI_add]
    have ih := l_dkeep hk d (i + 1) fuel (zui I 70 (45 * k + i) (I 68 (0 + i))) (by omega) (by omega) (by rw [zui_ne _ _ _ (by decide)]; exact h9)
    rw [cpR_step I (by decide) (by omega), Nat.zero_add] at ih
    rw [l_D_keep_13, if_neg (show ¬ (45 : Int32) ≤ nI i from fun z => by have := (nle (a := 45) (by omega) (by omega)).mp z; omega), if_pos (nzin (k := i) (N := 45) (by omega) (by decide)), e, if_pos (nzin (k := 45 * k + i) (N := 90) (by omega) (by decide)), ncl (by omega), ncl (by omega), show nI i + 1 = nI (i + 1) from nI_add i 1]
    exact ih
section PBack
variable {I : Nat → Nat → Int32} {μ : MS} {r k : Nat} {pl : Nat → MS} {q : Nat} {kl : Nat → MS} {sl : List (Nat × Nat)} {n : Nat} {tx : Nat → Nat}
theorem op_undo (h : INV I μ r k pl q kl sl n tx) : OC (fun J => x_G_undo r k J) (fun J => x_D_undo J) I := by
  have z : ¬ (1 : Int32) = 0 := by decide
  have hk8 := h.2.2.1.2.1
  have h9 : I 63 9 = nI k := h.2.2.2.2.1.1
  by_cases k0 : k = 0
  · refine ⟨-2, I, I, r, ?_, ?_, μ, k, pl, q, kl, sl, n, tx, h⟩
    · show x_G_undo r k I = _
      rw [x_G_undo, if_pos k0, if_pos rfl, if_pos k0]
    · show x_D_undo I = _
      rw [x_D_undo, if_pos (show I 63 9 = 0 by rw [h9, k0]; rfl)]
  · have hs := h.2.2.2.2.2.2.2.1 (k - 1) (by omega)
    have hN : mN (pl (k - 1)) ≤ 6 := hs.1.1.1
    have hb := zslot_lt r (k - 1)
    obtain ⟨c1, c2⟩ := copy_RC (m := 4) (mk := 5) (ml := 6) (mt := 7) (h.2.2.2.1.2 (k - 1) (by omega)) hN (by decide)
    have eT : ztake19 r k I = zui (g_M_copy 4 5 6 7 (zslot r (k - 1)) (zslot r (k - 1) + 1) (zslot r (k - 1) + 2) (zslot r (k - 1) + 3) I) 19 1 (nI (k - 1)) := rfl
    generalize hG : g_M_copy 4 5 6 7 (zslot r (k - 1)) (zslot r (k - 1) + 1) (zslot r (k - 1) + 2) (zslot r (k - 1) + 3) I = G at eT c1 c2
    have fr : ∀ a, ¬ (4 ≤ a ∧ a ≤ 7) → a ≠ 19 → (zui G 19 1 (nI (k - 1))) a = I a := fun a a1 a2 => (zui_ne _ _ _ a2).trans (c2 a (by omega) (by omega) (by omega) (by omega))
    have hR : RC (zui G 19 1 (nI (k - 1))) 4 5 6 7 (pl (k - 1)) := c1.congr (zui_ne _ _ _ (by decide)) (zui_ne _ _ _ (by decide)) (zui_ne _ _ _ (by decide)) (zui_ne _ _ _ (by decide))
    have l := l_undo (k := k - 1) (by omega) 45 0 1000 (zui (zui G 19 1 (nI (k - 1))) 63 9 (nI (k - 1))) (by omega) (by omega) (by rw [zui_self, pk_us])
    rw [nI_0] at l
    generalize hJ : zui G 19 1 (nI (k - 1)) = J at eT fr hR l
    have j9 : J 63 9 = nI k := by rw [fr 63 (by decide) (by decide)]; exact h9
    have k0n : ¬ nI k = 0 := fun y => k0 ((neq (b := 0) (by omega) (by omega)).mp y)
    have fK : ∀ a, a ≠ 63 → a ≠ 68 → (cpR (zui J 63 9 (nI (k - 1))) 68 69 0 (45 * (k - 1)) 0 45) a = J a := fun a a1 a2 => (cpR_ne _ a2).trans (zui_ne _ _ _ a1)
    have f63 : (cpR (zui J 63 9 (nI (k - 1))) 68 69 0 (45 * (k - 1)) 0 45) 63 = upd (J 63) 9 (nI (k - 1)) := by rw [cpR_ne _ (by decide), zui_self]
    refine ⟨nI (k - 1), J, cpR (zui J 63 9 (nI (k - 1))) 68 69 0 (45 * (k - 1)) 0 45, r, ?_, ?_, pl (k - 1), k - 1, pl, q, kl, sl, n, tx, ?_⟩
    · show x_G_undo r k I = _
      rw [x_G_undo, if_neg k0, if_neg z, if_neg k0, eT, f_H1_size, ← hJ, zui_self, pk_us]
    · show x_D_undo J = _
      rw [x_D_undo, if_neg (by rw [j9]; exact k0n), j9, show nI k - 1 = nI (k - 1) from pk_sub (b := 1) (by omega), l]
    · refine h.step hs (hR.congr (fK 4 (by decide) (by decide)) (fK 5 (by decide) (by decide)) (fK 6 (by decide) (by decide)) (fK 7 (by decide) (by decide))) ?_ h.2.2.1.1 (by omega) ⟨?_, ?_⟩ ⟨?_, ?_⟩ (fun j hj => h.2.2.2.2.2.2.2.1 j (by omega)) (fun y hy => ?_) (fun y hy => ?_)
      · refine (h.2.2.2.2.1.2 (k - 1) (by omega)).congr45 hN (fun x hx => ?_)
        have := cpR_in (zui J 63 9 (nI (k - 1))) (t := 68) (f := 69) (toff := 0) (foff := 45 * (k - 1)) (n := 45) hx
        rw [Nat.zero_add] at this
        rw [this, zui_ne _ _ _ (by decide), fr 69 (by decide) (by decide)]
      · rw [fK 19 (by decide) (by decide), ← hJ, zui_self, pk_us]
      · intro j hj
        have hb2 := zslot_lt r j
        refine (h.2.2.2.1.2 j (by omega)).congr ?_ ?_ ?_ ?_
        · exact (fK _ (by omega) (by omega)).trans (fr _ (by omega) (by omega))
        · exact (fK _ (by omega) (by omega)).trans (fr _ (by omega) (by omega))
        · exact (fK _ (by omega) (by omega)).trans (fr _ (by omega) (by omega))
        · exact (fK _ (by omega) (by omega)).trans (fr _ (by omega) (by omega))
      · rw [f63, pk_us]
      · intro j hj
        rw [fK 69 (by decide) (by decide), fr 69 (by decide) (by decide)]
        exact h.2.2.2.2.1.2 j (by omega)
      · exact (fK y (by omega) (by omega)).trans (fr y (by omega) (by omega))
      · rw [f63, pk_un (by omega), fr 63 (by decide) (by decide)]
theorem op_keep (h : INV I μ r k pl q kl sl n tx) : OC (fun J => x_G_keep r q J) (fun J => x_D_keep J) I := by
  have hq2 := h.2.2.1.2.2
  have h9 : I 63 11 = nI q := h.2.2.2.2.2.2.1.1
  have h5 : I 53 1 = nI q := h.2.2.2.2.2.1.1
  have h66 := h.1.1.1
  by_cases q2 : q = 2
  · refine ⟨-3, I, I, r, ?_, ?_, μ, k, pl, q, kl, sl, n, tx, h⟩
    · show x_G_keep r q I = _
      rw [x_G_keep, f_H2_isFull, h5, q2]
      rfl
    · show x_D_keep I = _
      rw [x_D_keep, if_pos (show I 63 11 = 2 by rw [h9, q2]; rfl)]
  · obtain ⟨c1, c2⟩ := copy_RC (m := 55 + 4 * q) (mk := 55 + 4 * q + 1) (ml := 55 + 4 * q + 2) (mt := 55 + 4 * q + 3) h.2.1.1 h66 (by omega)
    have eT : zput53 q I = zui (g_M_copy (55 + 4 * q) (55 + 4 * q + 1) (55 + 4 * q + 2) (55 + 4 * q + 3) 4 5 6 7 I) 53 1 (nI (q + 1)) := rfl
    generalize hG : g_M_copy (55 + 4 * q) (55 + 4 * q + 1) (55 + 4 * q + 2) (55 + 4 * q + 3) 4 5 6 7 I = G at eT c1 c2
    have fr : ∀ a, ¬ (55 + 4 * q ≤ a ∧ a ≤ 55 + 4 * q + 3) → a ≠ 53 → (zui G 53 1 (nI (q + 1))) a = I a := fun a a1 a2 => (zui_ne _ _ _ a2).trans (c2 a (by omega) (by omega) (by omega) (by omega))
    have hR : RC (zui G 53 1 (nI (q + 1))) (55 + 4 * q) (55 + 4 * q + 1) (55 + 4 * q + 2) (55 + 4 * q + 3) μ := c1.congr (zui_ne _ _ _ (by omega)) (zui_ne _ _ _ (by omega)) (zui_ne _ _ _ (by omega)) (zui_ne _ _ _ (by omega))
    have j53 : (zui G 53 1 (nI (q + 1))) 53 1 = nI (q + 1) := by rw [zui_self, pk_us]
    generalize hJ : zui G 53 1 (nI (q + 1)) = J at eT fr hR j53
    have j9 : J 63 11 = nI q := by rw [fr 63 (by omega) (by decide)]; exact h9
    have l := l_dkeep (k := q) (by omega) 45 0 1000 J (by omega) (by omega) j9
    rw [nI_0] at l
    have fK : ∀ a, a ≠ 63 → a ≠ 70 → (zui (cpR J 70 68 (45 * q) 0 0 45) 63 11 (nI (q + 1))) a = J a := fun a a1 a2 => (zui_ne _ _ _ a1).trans (cpR_ne _ a2)
    have f63 : (zui (cpR J 70 68 (45 * q) 0 0 45) 63 11 (nI (q + 1))) 63 = upd (J 63) 11 (nI (q + 1)) := by rw [zui_self, cpR_ne _ (by decide)]
    have f70 : (zui (cpR J 70 68 (45 * q) 0 0 45) 63 11 (nI (q + 1))) 70 = cpR J 70 68 (45 * q) 0 0 45 70 := zui_ne _ _ _ (by decide)
    have fI : ∀ a, ¬ (55 + 4 * q ≤ a ∧ a ≤ 55 + 4 * q + 3) → a ≠ 53 → a ≠ 63 → a ≠ 70 → (zui (cpR J 70 68 (45 * q) 0 0 45) 63 11 (nI (q + 1))) a = I a := fun a a1 a2 a3 a4 => (fK a a3 a4).trans (fr a a1 a2)
    have g63 : ∀ y, y ≠ 11 → (zui (cpR J 70 68 (45 * q) 0 0 45) 63 11 (nI (q + 1))) 63 y = I 63 y := fun y hy => by rw [f63, pk_un hy, fr 63 (by omega) (by decide)]
    have lt2 : I 53 1 < Int32.ofNat 2 := by
      rw [h5]
      exact (nlt (b := 2) (by omega) (by omega)).mpr (by omega)
    obtain ⟨i1, i2, i3, i4, i5, i6, i7, i8, i9, i10, i11⟩ := h
    refine ⟨nI (q + 1), J, zui (cpR J 70 68 (45 * q) 0 0 45) 63 11 (nI (q + 1)), r, ?_, ?_, μ, k, pl, q + 1, (fun j => if j = q then μ else kl j), sl, n, tx, i1, i2.congr (fun a ha => fI a (by omega) (by omega) (by omega) (by omega)) (g63 2 (by decide)), ⟨i3.1, i3.2.1, by omega⟩, i4.congr (fun a ha => fI a (by omega) (by omega) (by omega) (by omega)), i5.congr (fI 69 (by omega) (by decide) (by decide) (by decide)) (g63 9 (by decide)), ⟨?_, ?_⟩, ⟨?_, ?_⟩, i8, ?_, i10.congr (fun a ha => fI a (by omega) (by omega) (by omega) (by omega)) (g63 13 (by decide)), i11.congr (by rw [fI 1 (by omega) (by decide) (by decide) (by decide)]) (fI 2 (by omega) (by decide) (by decide) (by decide)) (fI 64 (by omega) (by decide) (by decide) (by decide)) (g63 1 (by decide))⟩
    · show x_G_keep r q I = _
      rw [x_G_keep, f_H2_isFull, if_pos lt2, if_pos rfl, eT, f_H2_size, j53]
    · show x_D_keep J = _
      rw [x_D_keep, if_neg (by rw [j9]; exact fun y => q2 ((neq (b := 2) (by omega) (by omega)).mp y)), l]
    · rw [fK 53 (by decide) (by decide)]
      exact j53
    · intro j hj
      by_cases e : j = q
      · show RC _ _ _ _ _ (if j = q then μ else kl j)
        rw [if_pos e, e]
        exact hR.congr (fK _ (by omega) (by omega)) (fK _ (by omega) (by omega)) (fK _ (by omega) (by omega)) (fK _ (by omega) (by omega))
      · show RC _ _ _ _ _ (if j = q then μ else kl j)
        rw [if_neg e]
        exact (i6.2 j (by omega)).congr (fI _ (by omega) (by omega) (by omega) (by omega)) (fI _ (by omega) (by omega) (by omega) (by omega)) (fI _ (by omega) (by omega) (by omega) (by omega)) (fI _ (by omega) (by omega) (by omega) (by omega))
    · rw [f63, pk_us]
    · intro j hj
      rw [f70]
      by_cases e : j = q
      · show RS _ (if j = q then μ else kl j)
        rw [if_pos e, e]
        refine i2.2.1.congr45 h66 (fun x hx => ?_)
        show cpR J 70 68 (45 * q) 0 0 45 70 (45 * q + x) = _
        rw [cpR_in _ hx, Nat.zero_add, fr 68 (by omega) (by decide)]
      · show RS _ (if j = q then μ else kl j)
        rw [if_neg e]
        refine (i7.2 j (by omega)).congr45 (i9 j (by omega)).1.1.1 (fun x hx => ?_)
        show cpR J 70 68 (45 * q) 0 0 45 70 (45 * j + x) = I 70 (45 * j + x)
        rw [cpR_out _ (by omega), fr 70 (by omega) (by decide)]
    · intro j hj
      show sim μ (if j = q then μ else kl j)
      by_cases e : j = q
      · rw [if_pos e]
        exact ⟨i1, rfl, rfl⟩
      · rw [if_neg e]
        exact i9 j (by omega)
theorem op_back (h : INV I μ r k pl q kl sl n tx) : OC (fun J => x_G_back r q J) (fun J => x_D_back J) I := by
  have z : ¬ (1 : Int32) = 0 := by decide
  have hq2 := h.2.2.1.2.2
  have h9 : I 63 11 = nI q := h.2.2.2.2.2.2.1.1
  by_cases k0 : q = 0
  · refine ⟨-2, I, I, r, ?_, ?_, μ, k, pl, q, kl, sl, n, tx, h⟩
    · show x_G_back r q I = _
      rw [x_G_back, if_pos k0, if_pos rfl, if_pos k0]
    · show x_D_back I = _
      rw [x_D_back, if_pos (show I 63 11 = 0 by rw [h9, k0]; rfl)]
  · have hs := h.2.2.2.2.2.2.2.2.1 (q - 1) (by omega)
    have hN : mN (kl (q - 1)) ≤ 6 := hs.1.1.1
    obtain ⟨c1, c2⟩ := copy_RC (m := 4) (mk := 5) (ml := 6) (mt := 7) (h.2.2.2.2.2.1.2 (q - 1) (by omega)) hN (by decide)
    have eT : g_H1_clear (ztake53 q I) = zui (zui (g_M_copy 4 5 6 7 (55 + 4 * (q - 1)) (55 + 4 * (q - 1) + 1) (55 + 4 * (q - 1) + 2) (55 + 4 * (q - 1) + 3) I) 53 1 (nI (q - 1))) 19 1 0 := rfl
    generalize hG : g_M_copy 4 5 6 7 (55 + 4 * (q - 1)) (55 + 4 * (q - 1) + 1) (55 + 4 * (q - 1) + 2) (55 + 4 * (q - 1) + 3) I = G at eT c1 c2
    have fr : ∀ a, ¬ (4 ≤ a ∧ a ≤ 7) → a ≠ 19 → a ≠ 53 → (zui (zui G 53 1 (nI (q - 1))) 19 1 0) a = I a := fun a a1 a2 a3 => (zui_ne _ _ _ a2).trans ((zui_ne _ _ _ a3).trans (c2 a (by omega) (by omega) (by omega) (by omega)))
    have hR : RC (zui (zui G 53 1 (nI (q - 1))) 19 1 0) 4 5 6 7 (kl (q - 1)) := (c1.congr (J := zui G 53 1 (nI (q - 1))) (zui_ne _ _ _ (by decide)) (zui_ne _ _ _ (by decide)) (zui_ne _ _ _ (by decide)) (zui_ne _ _ _ (by decide))).congr (zui_ne _ _ _ (by decide)) (zui_ne _ _ _ (by decide)) (zui_ne _ _ _ (by decide)) (zui_ne _ _ _ (by decide))
    have j53 : (zui (zui G 53 1 (nI (q - 1))) 19 1 0) 53 1 = nI (q - 1) := by rw [zui_ne _ _ _ (by decide), zui_self, pk_us]
    have j19 : (zui (zui G 53 1 (nI (q - 1))) 19 1 0) 19 1 = 0 := by rw [zui_self, pk_us]
    generalize hJ : zui (zui G 53 1 (nI (q - 1))) 19 1 0 = J at eT fr hR j53 j19
    have l := l_dback (k := q - 1) (by omega) 45 0 1000 (zui J 63 11 (nI (q - 1))) (by omega) (by omega) (by rw [zui_self, pk_us])
    rw [nI_0] at l
    have j9 : J 63 11 = nI q := by rw [fr 63 (by decide) (by decide) (by decide)]; exact h9
    have k0n : ¬ nI q = 0 := fun y => k0 ((neq (b := 0) (by omega) (by omega)).mp y)
    have fK : ∀ a, a ≠ 63 → a ≠ 68 → (zui (cpR (zui J 63 11 (nI (q - 1))) 68 70 0 (45 * (q - 1)) 0 45) 63 9 0) a = J a := fun a a1 a2 => (zui_ne _ _ _ a1).trans ((cpR_ne _ a2).trans (zui_ne _ _ _ a1))
    have f63 : (zui (cpR (zui J 63 11 (nI (q - 1))) 68 70 0 (45 * (q - 1)) 0 45) 63 9 0) 63 = upd (upd (J 63) 11 (nI (q - 1))) 9 0 := by rw [zui_self, cpR_ne _ (by decide), zui_self]
    have f68 : (zui (cpR (zui J 63 11 (nI (q - 1))) 68 70 0 (45 * (q - 1)) 0 45) 63 9 0) 68 = cpR (zui J 63 11 (nI (q - 1))) 68 70 0 (45 * (q - 1)) 0 45 68 := zui_ne _ _ _ (by decide)
    obtain ⟨i1, i2, i3, i4, i5, i6, i7, i8, i9, i10, i11⟩ := h
    have tr : ∀ ν, sim μ ν → sim (kl (q - 1)) ν := fun ν y => ⟨y.1, y.2.1.trans hs.2.1.symm, y.2.2.trans hs.2.2.symm⟩
    have fI : ∀ a, ¬ (4 ≤ a ∧ a ≤ 7) → a ≠ 19 → a ≠ 53 → a ≠ 63 → a ≠ 68 → (zui (cpR (zui J 63 11 (nI (q - 1))) 68 70 0 (45 * (q - 1)) 0 45) 63 9 0) a = I a := fun a a1 a2 a3 a4 a5 => (fK a a4 a5).trans (fr a a1 a2 a3)
    have g63 : ∀ y, y ≠ 11 → y ≠ 9 → (zui (cpR (zui J 63 11 (nI (q - 1))) 68 70 0 (45 * (q - 1)) 0 45) 63 9 0) 63 y = I 63 y := fun y y1 y2 => by rw [f63, pk_un y2, pk_un y1, fr 63 (by decide) (by decide) (by decide)]
    refine ⟨nI (q - 1), J, zui (cpR (zui J 63 11 (nI (q - 1))) 68 70 0 (45 * (q - 1)) 0 45) 63 9 0, r, ?_, ?_, kl (q - 1), 0, pl, q - 1, kl, sl, n, tx, hs.1, ⟨hR.congr (fK 4 (by decide) (by decide)) (fK 5 (by decide) (by decide)) (fK 6 (by decide) (by decide)) (fK 7 (by decide) (by decide)), ?_, ?_, ?_⟩, ⟨i3.1, by omega, by omega⟩, ⟨?_, fun j hj => absurd hj (Nat.not_lt_zero j)⟩, ⟨?_, fun j hj => absurd hj (Nat.not_lt_zero j)⟩, ⟨?_, ?_⟩, ⟨?_, ?_⟩, fun j hj => absurd hj (Nat.not_lt_zero j), fun j hj => tr _ (i9 j (by omega)), ?_, i11.congr (by rw [fI 1 (by decide) (by decide) (by decide) (by decide) (by decide)]) (fI 2 (by decide) (by decide) (by decide) (by decide) (by decide)) (fI 64 (by decide) (by decide) (by decide) (by decide) (by decide)) (g63 1 (by decide) (by decide))⟩
    · show x_G_back r q I = _
      rw [x_G_back, if_neg k0, if_neg z, if_neg k0, eT, f_H2_size, j53]
    · show x_D_back J = _
      rw [x_D_back, if_neg (by rw [j9]; exact k0n), j9, show nI q - 1 = nI (q - 1) from pk_sub (b := 1) (by omega), l]
    · rw [f68]
      refine (i7.2 (q - 1) (by omega)).congr45 hN (fun x hx => ?_)
      have := cpR_in (zui J 63 11 (nI (q - 1))) (t := 68) (f := 70) (toff := 0) (foff := 45 * (q - 1)) (n := 45) hx
      rw [Nat.zero_add] at this
      rw [this, zui_ne _ _ _ (by decide), fr 70 (by decide) (by decide) (by decide)]
    · rw [fI 65 (by decide) (by decide) (by decide) (by decide) (by decide)]
      intro x hx
      rw [hs.2.2]
      rw [hs.2.1] at hx
      exact i2.2.2.1 x hx
    · rw [g63 2 (by decide) (by decide), hs.2.1]
      exact i2.2.2.2
    · rw [fK 19 (by decide) (by decide), j19]
      rfl
    · rw [f63, pk_us]
      rfl
    · rw [fK 53 (by decide) (by decide)]
      exact j53
    · intro j hj
      refine (i6.2 j (by omega)).congr (fI _ (by omega) (by omega) (by omega) (by omega) (by omega)) (fI _ (by omega) (by omega) (by omega) (by omega) (by omega)) (fI _ (by omega) (by omega) (by omega) (by omega) (by omega)) (fI _ (by omega) (by omega) (by omega) (by omega) (by omega))
    · rw [f63, pk_un (by decide), pk_us]
    · intro j hj
      rw [fI 70 (by decide) (by decide) (by decide) (by decide) (by decide)]
      exact i7.2 j (by omega)
    · rw [hs.2.1]
      exact i10.congr (fun a ha => fI a (by omega) (by omega) (by omega) (by omega) (by omega)) (g63 13 (by decide) (by decide))
end PBack
