/-! THE PURE PART: stood -/
section PStoodD
variable {μ : MS} {sl : List (Nat × Nat)}
def allP (μ : MS) (c e : Nat) : List (Nat × Nat) := (List.range' c e).flatMap (fun c => rowOf μ c 0 ((mPres μ).length + 1))
theorem l_cstO (hW : mOK μ) {w : Int32} : ∀ (e c fuel : Nat) (I : Nat → Nat → Int32) (A : List (Nat × Nat)), c + e = mN μ → RC I 4 5 6 7 μ → IS I (mN μ) sl → (∀ q ∈ A, q.1 < 6 ∧ q.2 < 7) → ∃ J, l_G_stood (fuel + e * ((mPres μ).length + 3) + 1) 0 I w (nI (mPres μ).length) (nI (sdl μ sl A).length) (hdv (sdl μ sl A)) (nI c) 0 = l_G_stood (fuel + 1) 0 J w (nI (mPres μ).length) (nI (sdl μ sl (A ++ allP μ c e)).length) (hdv (sdl μ sl (A ++ allP μ c e))) (nI (mN μ)) 0 ∧ (∀ x, x ≠ 12 → x ≠ 13 → x ≠ 14 → J x = I x)
  | 0, c, fuel, I, A, hc, hR, hS, hA => by
    refine ⟨I, ?_, fun _ _ _ _ => rfl⟩
    have e : allP μ c 0 = [] := rfl
    rw [e, List.append_nil, Nat.zero_mul, Nat.add_zero, show c = mN μ by omega]
  | e + 1, c, fuel, I, A, hc, hR, hS, hA => by
    have h66 := hW.1.1
    have er : allP μ c (e + 1) = rowOf μ c 0 ((mPres μ).length + 1) ++ allP μ (c + 1) e := by
      unfold allP
      rw [List.range'_succ, List.flatMap_cons]
    obtain ⟨J, j0, j1, j2⟩ := l_cstI (sl := sl) hW (w := w) (c := c) (by omega) ((mPres μ).length + 1) 0 (fuel + e * ((mPres μ).length + 3) + 1) I A (by omega) hR hS hA
    obtain ⟨K, k0, k1⟩ := l_cstO hW (w := w) e (c + 1) fuel J (A ++ rowOf μ c 0 ((mPres μ).length + 1)) (by omega) (hR.low mo4 (fun x hx => j1 x (by omega) (by omega) (by omega))) (hS.keep (KP.round j1)) j2
    rw [nI_0] at j0
    refine ⟨K, ?_, fun x x1 x2 x3 => (k1 x x1 x2 x3).trans (j1 x x1 x2 x3)⟩
    rw [er, ← List.append_assoc, ← k0, ← j0]
    rw [show fuel + (e + 1) * ((mPres μ).length + 3) + 1 = ((fuel + e * ((mPres μ).length + 3) + 1) + ((mPres μ).length + 1) + 1) + 1 by rw [Nat.succ_mul]; omega]
    rw [l_G_stood, if_pos rfl, f_M_size, hR.1, if_neg (fun z => by have := (nle (by omega) (by omega)).mp z; omega)]
theorem l_dstI (hW : mOK μ) {w base : Int32} {c : Nat} (hc : c < mN μ) : ∀ (m fuel : Nat) (I : Nat → Nat → Int32) (B : List (Nat × Nat)), m ≤ (mPres μ).length + 1 → RS (I 68) μ → RK (I 65) μ → I 63 2 = nI (mN μ) → IS I (mN μ) sl → ∃ J f', fuel ≤ f' ∧ l_D_stood (fuel + 9 * m + 1) 1 I w (base + nI (sdl μ sl B).length) (hdv (sdl μ sl B)) (nI c) (nI m + -1) 0 = l_D_stood f' 0 J w (base + nI (sdl μ sl (rowOf μ c 0 m ++ B)).length) (hdv (sdl μ sl (rowOf μ c 0 m ++ B))) (nI c + -1) 0 0 ∧ Day I J
  | 0, fuel, I, B, _, hS, hK, hn, hI => by
    have e : rowOf μ c 0 0 = [] := by
      unfold rowOf
      split <;> rfl
    refine ⟨I, fuel, Nat.le_refl _, ?_, ⟨fun _ _ _ _ _ => rfl, fun _ _ _ => rfl⟩⟩
    rw [e, List.nil_append, l_D_stood, if_neg (by decide), if_pos rfl, if_pos (by decide)]
  | m + 1, fuel, I, B, hm, hS, hK, hn, hI => by
    have h66 := hW.1.1
    have hl := mPres_len hW.1
    rw [l_D_stood, if_neg (by decide), if_pos rfl, show nI (m + 1) + -1 = nI m from pk_m1 m, if_neg (nneg (by omega)), isAway_in hS hW.1 hc]
    by_cases hg : (mG μ).testBit c = true
    · rw [if_pos hg, if_neg (by decide), hS.2.2.1]
      obtain ⟨E, e0, e1, e2, e3, e4⟩ := x_stands hW.1 hW.1.g64 hS hn
      rw [lineOf_pres] at e3 e4
      have dE : Day I E := ⟨fun a a1 a2 _ _ => e1 a a1 a2, fun j j1 _ => e2 j j1⟩
      have kE := dE.kp
      rw [e0, Option.bind_some]
      dsimp only
      rw [e4]
      obtain ⟨J, j0, j1⟩ := d_could (sl := sl) (I := E) (c := c) (a := m) (fuel := fuel + 9 * (m + 1) - 1 - ((mPres μ).length - m)) (x1 := w) (x2 := base + nI (sdl μ sl B).length) (x3 := hdv (sdl μ sl B)) hW (by rw [e1 68 (by decide) (by decide)]; exact hS) (by rw [e1 65 (by decide) (by decide)]; exact hK) (hI.keep kE) e3 e4 hc hg (by omega)
      rw [show fuel + 9 * (m + 1) - 1 - ((mPres μ).length - m) + 1 + ((mPres μ).length - m) = fuel + 9 * (m + 1) by omega] at j0
      rw [j0]
      have dJ : Day I J := ⟨fun a a1 a2 a3 a4 => (j1.1 a a1 a2 a3 a4).trans (dE.1 a a1 a2 a3 a4), fun j y1 y2 => (j1.2 j y1 y2).trans (dE.2 j y1 y2)⟩
      obtain ⟨K, f', k0, k1, k2⟩ := l_dstI hW (w := w) (base := base) hc m (fuel + 9 * (m + 1) - 1 - ((mPres μ).length - m) - 9 * m - 1) J ((c, m) :: B) (by omega) (by rw [dJ.1 68 (by decide) (by decide) (by decide) (by decide)]; exact hS) (by rw [dJ.1 65 (by decide) (by decide) (by decide) (by decide)]; exact hK) (by rw [dJ.2 2 (by decide) (by decide)]; exact hn) (hI.keep dJ.kp)
      have er : rowOf μ c 0 (m + 1) ++ B = rowOf μ c 0 m ++ (c, m) :: B := by
        unfold rowOf
        rw [if_pos hg, if_pos hg, List.range'_concat, List.map_append, List.append_assoc]
        simp
      have eB : sdl μ sl ((c, m) :: B) = if sd μ sl c m = true then (c, m) :: sdl μ sl B else sdl μ sl B := by
        unfold sdl
        rw [List.filter_cons]
      rw [er]
      refine ⟨K, f', by omega, ?_, ⟨fun a a1 a2 a3 a4 => (k2.1 a a1 a2 a3 a4).trans (dJ.1 a a1 a2 a3 a4), fun j y1 y2 => (k2.2 j y1 y2).trans (dJ.2 j y1 y2)⟩⟩
      rw [← k1, show fuel + 9 * (m + 1) - 1 - ((mPres μ).length - m) - 9 * m - 1 + 9 * m + 1 = fuel + 9 * (m + 1) - 1 - ((mPres μ).length - m) by omega, eB]
      by_cases b : sd μ sl c m = true
      · rw [if_pos b, if_pos b, if_pos b, List.length_cons, Int32.add_assoc, show nI (sdl μ sl B).length + 1 = nI ((sdl μ sl B).length + 1) from nI_add _ 1]
        rfl
      · rw [if_neg b, if_neg b, if_neg b]
    · rw [if_neg hg, if_pos rfl]
      have er : rowOf μ c 0 (m + 1) = [] := by
        unfold rowOf
        rw [if_neg hg]
      refine ⟨I, fuel + 9 * (m + 1), by omega, ?_, ⟨fun _ _ _ _ _ => rfl, fun _ _ _ => rfl⟩⟩
      rw [er, List.nil_append]
end PStoodD
