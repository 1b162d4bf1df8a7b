/-! THE PURE PART: stood, whole -/
section PStoodE
variable {μ : MS} {sl : List (Nat × Nat)}
theorem l_dstO (hW : mOK μ) {w base : Int32} : ∀ (e fuel : Nat) (I : Nat → Nat → Int32) (B : List (Nat × Nat)), e ≤ mN μ → RS (I 68) μ → RK (I 65) μ → I 63 2 = nI (mN μ) → IS I (mN μ) sl → ∃ J, l_D_stood (fuel + 80 * e + 1) 0 I w (base + nI (sdl μ sl B).length) (hdv (sdl μ sl B)) (nI e + -1) 0 0 = some (if w = 0 then base + nI (sdl μ sl (allP μ 0 e ++ B)).length else hdv (sdl μ sl (allP μ 0 e ++ B)), J) ∧ Day I J
  | 0, fuel, I, B, _, hS, hK, hn, hI => by
    have e : allP μ 0 0 = [] := rfl
    refine ⟨I, ?_, ⟨fun _ _ _ _ _ => rfl, fun _ _ _ => rfl⟩⟩
    rw [e, List.nil_append, l_D_stood, if_pos rfl, if_pos (by decide)]
    split <;> rfl
  | e + 1, fuel, I, B, he, hS, hK, hn, hI => by
    have h66 := hW.1.1
    have hl := mPres_len hW.1
    have h1 := thr_lt (mN μ) (by omega) (mG μ) hW.1.2.2.2.2.2.1
    have h2 := pow_64 h66
    have er : allP μ 0 (e + 1) ++ B = allP μ 0 e ++ (rowOf μ e 0 ((mPres μ).length + 1) ++ B) := by
      unfold allP
      rw [List.range'_concat, List.flatMap_append]
      simp
    obtain ⟨J, f', j0, j1, j2⟩ := l_dstI (sl := sl) hW (w := w) (base := base) (c := e) (by omega) ((mPres μ).length + 1) (fuel + 80 * (e + 1) - 9 * ((mPres μ).length + 1) - 1) I B (Nat.le_refl _) hS hK hn hI
    obtain ⟨K, k0, k1⟩ := l_dstO hW (w := w) (base := base) e (f' - 80 * e - 1) J (rowOf μ e 0 ((mPres μ).length + 1) ++ B) (by omega) (by rw [j2.1 68 (by decide) (by decide) (by decide) (by decide)]; exact hS) (by rw [j2.1 65 (by decide) (by decide) (by decide) (by decide)]; exact hK) (by rw [j2.2 2 (by decide) (by decide)]; exact hn) (hI.keep j2.kp)
    refine ⟨K, ?_, ⟨fun a a1 a2 a3 a4 => (k1.1 a a1 a2 a3 a4).trans (j2.1 a a1 a2 a3 a4), fun j y1 y2 => (k1.2 j y1 y2).trans (j2.2 j y1 y2)⟩⟩
    rw [er, ← k0, show f' - 80 * e - 1 + 80 * e + 1 = f' by omega]
    rw [show fuel + 80 * (e + 1) - 9 * ((mPres μ).length + 1) - 1 + 9 * ((mPres μ).length + 1) + 1 = fuel + 80 * (e + 1) by omega] at j1
    rw [l_D_stood, if_pos rfl, show nI (e + 1) + -1 = nI e from pk_m1 e, if_neg (nneg (by omega)), f_D_there, hn, hS.2.2.1, thr_in (mN μ) (by omega) (mG μ) hW.1.2.2.2.2.2.1, x_ones (by omega), Option.bind_some, pres_count hW]
    dsimp only
    rw [← j1, show nI ((mPres μ).length + 1) + -1 = nI (mPres μ).length from pk_m1 _]
theorem op_stood {I : Nat → Nat → Int32} (hI : IM I μ) (hW : mOK μ) (hS : IS I (mN μ) sl) (w : Int32) : OQ (fun J => x_G_stood J w) (fun J => x_D_stood J w) I := by
  have h66 := hW.1.1
  have hl := mPres_len hW.1
  have z : ¬ (1 : Int32) = 0 := by decide
  have h1 := thr_lt (mN μ) (by omega) (mG μ) hW.1.2.2.2.2.2.1
  have h2 := pow_64 h66
  rcases two_out w (b := 1) (B := 1) (by omega) rfl with ⟨h3, h4⟩ | ⟨k, hk, e, h3, h4⟩
  · exact OQ.same (v := -1) (by show x_G_stood I w = _; rw [x_G_stood, h3, if_neg z]) (by show x_D_stood I w = _; rw [x_D_stood, h4, if_pos rfl])
  · have mul6 : mN μ * ((mPres μ).length + 3) ≤ 6 * 9 := Nat.mul_le_mul h66 (by omega)
    obtain ⟨J, j0, j1⟩ := l_cstO (sl := sl) hW (w := w) (mN μ) 0 (5000 - mN μ * ((mPres μ).length + 3) - 1) I [] (by omega) hI.1 hS (fun q hq => by cases hq)
    rw [show 5000 - mN μ * ((mPres μ).length + 3) - 1 + mN μ * ((mPres μ).length + 3) + 1 = 5000 by omega, List.nil_append] at j0
    have kJ := KP.round j1
    have hJ := hI.keep kJ
    have hJS := hS.keep kJ
    -- the class's last pass
    obtain ⟨L, l0, l1, l2, l3, l4, l5, l6⟩ := x_pass hJ.1 hW.1 mo4
    have kL := KP.round l1
    have so := x_areSo (μ := μ) (g := 6) (s := mS μ) (l := mPres μ) (sl := sl) (I := L) h66 (hJS.keep kL) l6 (fun c hc => if_pos hc)
    have gone : x_G_stood I w = if w = 1 then some (hdv (sdl μ sl (allP μ 0 (mN μ))), J) else some (if soIs (fo μ 6 (mPres μ) (mS μ)) sl = true then nI (sdl μ sl (allP μ 0 (mN μ))).length + 256 else nI (sdl μ sl (allP μ 0 (mN μ))).length, L) := by
      rw [x_G_stood, h3, if_pos rfl, f_M_presentBits, hI.1.1, hI.1.2.2.2.2.1, thr_in (mN μ) (by omega) (mG μ) hW.1.2.2.2.2.2.1, x_bc, Option.bind_some]
      dsimp only
      rw [nbc_in _ (by omega), pres_count hW]
      have j0' : l_G_stood 5000 0 I w (nI (mPres μ).length) 0 (-4) 0 0 = _ := j0
      rw [j0', l_G_stood, if_pos rfl, f_M_size, hJ.1.1, if_pos ((nle (by omega) (by omega)).mpr (by omega)), l0, Option.bind_some]
      dsimp only
      rw [so, Option.bind_some]
      dsimp only
      by_cases b : soIs (fo μ 6 (mPres μ) (mS μ)) sl = true
      · rw [if_pos b, if_pos b, if_neg z]
      · rw [if_neg b, if_neg b, if_pos rfl]
    -- the reference
    have ref : ∀ M, IM M μ → IS M (mN μ) sl → ∃ K, x_D_stood M w = some (if w = 0 then (if soIs (fo μ 6 (mPres μ) (mS μ)) sl = true then nI (sdl μ sl (allP μ 0 (mN μ))).length + 256 else nI (sdl μ sl (allP μ 0 (mN μ))).length) else hdv (sdl μ sl (allP μ 0 (mN μ))), K) ∧ KP M K := by
      intro M hM hMS
      obtain ⟨K, q0, q1, q2, q3, q4, q5, q6⟩ := x_today hW.1 hM.2.1 hM.2.2.1 hM.2.2.2
      have hK := hM.keep q1.kp
      have hKS := hMS.keep q1.kp
      have so2 := x_isSo (μ := μ) (ν := μ) (g := 6) (s := mS μ) (l := mPres μ) (sl := sl) hW.1 hK.2.1 hKS (fun c hc => by rw [q5]; exact dfines hc) (fun c hc _ => (mPres_mem hW.1 hc).2)
      have run : ∀ base : Int32, ∃ N, l_D_stood 5000 0 K w base (-4) (K 63 2 - 1) 0 0 = some (if w = 0 then base + nI (sdl μ sl (allP μ 0 (mN μ))).length else hdv (sdl μ sl (allP μ 0 (mN μ))), N) ∧ Day K N := by
        intro base
        obtain ⟨N, n0, n1⟩ := l_dstO (sl := sl) hW (w := w) (base := base) (mN μ) (4999 - 80 * mN μ) K [] (Nat.le_refl _) hK.2.1 hK.2.2.1 hK.2.2.2 hKS
        rw [show 4999 - 80 * mN μ + 80 * mN μ + 1 = 5000 by omega, List.append_nil] at n0
        have eb : base + nI (sdl μ sl ([] : List (Nat × Nat))).length = base := Int32.add_zero base
        have ee : K 63 2 - 1 = nI (mN μ) + -1 := by
          rw [hK.2.2.2, show nI (mN μ) - 1 = nI (mN μ - 1) from pk_sub (b := 1) hW.2.2]
          have := pk_m1 (mN μ - 1)
          rw [show mN μ - 1 + 1 = mN μ by have := hW.2.2; omega] at this
          exact this.symm
        rw [eb] at n0
        exact ⟨N, by rw [ee]; exact n0, n1⟩
      obtain ⟨N, n0, n1⟩ := run 0
      obtain ⟨N2, m0, m1⟩ := run 256
      by_cases b : soIs (fo μ 6 (mPres μ) (mS μ)) sl = true
      · refine ⟨N2, ?_, q1.kp.trans m1.kp⟩
        rw [x_D_stood, h4, if_neg z, q0, Option.bind_some]
        dsimp only
        rw [so2, Option.bind_some]
        dsimp only
        rw [if_pos b, if_neg z, m0, if_pos b, Int32.add_comm]
      · refine ⟨N, ?_, q1.kp.trans n1.kp⟩
        rw [x_D_stood, h4, if_neg z, q0, Option.bind_some]
        dsimp only
        rw [so2, Option.bind_some]
        dsimp only
        rw [if_neg b, if_pos rfl, n0, if_neg b, Int32.zero_add]
    by_cases w1 : w = 1
    · obtain ⟨K, k0, k1⟩ := ref J hJ hJS
      refine ⟨hdv (sdl μ sl (allP μ 0 (mN μ))), J, K, ?_, ?_, kJ.trans k1⟩
      · show x_G_stood I w = _
        rw [gone, if_pos w1]
      · show x_D_stood J w = _
        rw [k0, if_neg (by rw [w1]; decide)]
    · obtain ⟨K, k0, k1⟩ := ref L (hJ.keep kL) (hJS.keep kL)
      have w0 : w = 0 := by
        have k0 : k = 0 := by
          by_cases y : k = 0
          · exact y
          · exact absurd (by rw [e, show k = 1 by omega]; rfl) w1
        rw [e, k0]
        rfl
      refine ⟨if soIs (fo μ 6 (mPres μ) (mS μ)) sl = true then nI (sdl μ sl (allP μ 0 (mN μ))).length + 256 else nI (sdl μ sl (allP μ 0 (mN μ))).length, L, K, ?_, ?_, (kJ.trans kL).trans k1⟩
      · show x_G_stood I w = _
        rw [gone, if_neg w1]
      · show x_D_stood L w = _
        rw [k0, if_pos w0]
end PStoodE
