/-! THE PURE PART: said -/
theorem setT_setT (μ : MS) (i j u v : Nat) : setT (setT μ i j u) i j v = setT μ i j v := by
  have e : (fun a b => if a = i ∧ b = j then v else mT (setT μ i j u) a b) = fun a b => if a = i ∧ b = j then v else mT μ a b := by
    funext a b
    by_cases h : a = i ∧ b = j
    · rw [if_pos h, if_pos h]
    · rw [if_neg h, if_neg h]
      exact if_neg h
  show (mN μ, mK μ, mL μ, (fun a b => if a = i ∧ b = j then v else mT (setT μ i j u) a b), mG μ, mS μ, mD μ) = _
  rw [e]
  rfl
theorem setT_self (μ : MS) (i j : Nat) : setT μ i j (mT μ i j) = μ := by
  have e : (fun a b => if a = i ∧ b = j then mT μ i j else mT μ a b) = mT μ := by
    funext a b
    by_cases h : a = i ∧ b = j
    · rw [if_pos h, h.1, h.2]
    · rw [if_neg h]
  show (mN μ, mK μ, mL μ, (fun a b => if a = i ∧ b = j then mT μ i j else mT μ a b), mG μ, mS μ, mD μ) = _
  rw [e]
  rfl
def soSaid (μ : MS) (sl : List (Nat × Nat)) (i j v : Nat) : Bool := soIs (fo (setT μ i j v) 6 (mPres μ) (mS μ)) sl
section PSaid
variable {μ : MS} {sl : List (Nat × Nat)} {i j : Nat}
theorem l_csaid (hW : mWF μ) (hi : i < mN μ) (hj : j < mN μ) : ∀ (d v fuel u : Nat) (I : Nat → Nat → Int32), v + d = 7 → d < fuel → RC I 8 9 10 11 (setT μ i j u) → IS I (mN μ) sl → ∃ J, l_G_said_27 fuel I (nI i) (nI j) (nI (bs (soSaid μ sl i j) v)) (nI v) = some (nI (bs (soSaid μ sl i j) 7), J) ∧ ∀ a, ¬ (8 ≤ a ∧ a ≤ 15) → J a = I a
  | 0, v, fuel + 1, u, I, hv, _, hR, hS => by
    refine ⟨I, ?_, fun _ _ => rfl⟩
    rw [l_G_said_27, if_pos (show (6 : Int32) < nI v from (nlt (a := 6) (by omega) (by omega)).mpr (by omega)), show v = 7 by omega]
  | d + 1, v, fuel + 1, u, I, hv, hf, hR, hS => by
    have h66 := hW.1
    obtain ⟨g1, g2⟩ := g_setT (v := v) hR h66 hi hj (by decide)
    rw [setT_setT] at g1
    have f1 : ∀ a, ¬ (8 ≤ a ∧ a ≤ 15) → (g_M_setWord 8 9 10 11 I (nI i) (nI j) (nI v)) a = I a := fun a ha => by rw [g2, zui_ne _ _ _ (by omega)]
    have hS1 := hS.keep (KP.low f1)
    obtain ⟨J, j0, j1, j2, j3, j4, j5, j6⟩ := x_pass g1 (setT_wf hW (by omega)) mo8
    have f2 : ∀ a, ¬ (8 ≤ a ∧ a ≤ 15) → J a = I a := fun a ha => (j1 a (by omega) (by omega) (by omega)).trans (f1 a ha)
    have hS2 := hS.keep (KP.low f2)
    have so := x_areSo (μ := setT μ i j v) (g := 6) (s := mS μ) (l := mPres μ) (sl := sl) (I := J) h66 hS2 j6 (fun c hc => if_pos hc)
    have hR2 : RC J 8 9 10 11 (setT μ i j v) := g1.congr (j1 8 (by decide) (by decide) (by decide)) (j1 9 (by decide) (by decide) (by decide)) (j1 10 (by decide) (by decide) (by decide)) (j1 11 (by decide) (by decide) (by decide))
    obtain ⟨K, k0, k1⟩ := l_csaid hW hi hj d (v + 1) fuel v J (by omega) (by omega) hR2 hS2
    refine ⟨K, ?_, fun a ha => (k1 a ha).trans (f2 a ha)⟩
    rw [l_G_said_27, if_neg (show ¬ (6 : Int32) < nI v from fun z => by have := (nlt (a := 6) (by omega) (by omega)).mp z; omega), j0, Option.bind_some]
    dsimp only
    rw [so, Option.bind_some]
    dsimp only
    rw [show nI v + 1 = nI (v + 1) from nI_add v 1, nsh1 v (by omega), fa_or]
    rw [bs] at k0
    by_cases b : soSaid μ sl i j v = true
    · rw [if_pos b] at k0
      rw [if_pos (show soIs (fo (setT μ i j v) 6 (mPres μ) (mS μ)) sl = true from b), if_neg (by decide)]
      exact k0
    · rw [if_neg b] at k0
      rw [if_neg (show ¬ soIs (fo (setT μ i j v) 6 (mPres μ) (mS μ)) sl = true from b), if_pos rfl]
      exact k0
/-- but for the word at one place -/
def But (I K : Nat → Nat → Int32) (x : Nat) : Prop := (∀ a, a ≠ 63 → a ≠ 68 → a ≠ 72 → a ≠ 73 → a ≠ 74 → K a = I a) ∧ (∀ j, j ≠ 16 → j ≠ 19 → K 63 j = I 63 j) ∧ ∀ y, y ≠ x → K 68 y = I 68 y
theorem But.back {I K : Nat → Nat → Int32} {x : Nat} (h : But I K x) : KP I (zui K 68 x (I 68 x)) := by
  refine ⟨?_, ?_, ?_⟩
  · intro a a1 a2 a3 a4 a5 a6 a7
    by_cases a8 : a = 68
    · rw [a8, zui_self]
      funext y
      by_cases hy : y = x
      · rw [hy, pk_us]
      · rw [pk_un hy, h.2.2 y hy]
    · rw [zui_ne _ _ _ a8, h.1 a a4 a8 (by omega) (by omega) (by omega)]
  · rw [zui_ne _ _ _ (by decide), h.1 1 (by decide) (by decide) (by decide) (by decide) (by decide)]
  · intro y hy
    rw [zui_ne _ _ _ (by decide), h.2.1 y (by omega) (by omega)]
theorem But.seen {I K : Nat → Nat → Int32} {x n : Nat} (h : But I K x) (hS : IS I n sl) : IS K n sl := by
  have e : ∀ a, a = 16 ∨ a = 17 ∨ a = 18 ∨ a = 71 → K a = I a := fun a ha => h.1 a (by omega) (by omega) (by omega) (by omega) (by omega)
  refine ⟨SA.congr (fun x _ _ => ⟨by rw [e 17 (by omega)], by rw [e 18 (by omega)], by rw [e 71 (by omega)]⟩) hS.1, ?_, ?_, hS.2.2.2⟩
  · rw [e 16 (by omega)]
    exact hS.2.1
  · rw [h.2.1 13 (by omega) (by omega)]
    exact hS.2.2.1
theorem l_dsaid (hW : mOK μ) (hi : i < mN μ) (hj : j < mN μ) {O : Nat → Nat → Int32} (hK : RK (O 65) μ) (hn : O 63 2 = nI (mN μ)) (hS : IS O (mN μ) sl) (x3 : Int32) : ∀ (d v fuel u : Nat) (I : Nat → Nat → Int32), v + d = 7 → d < fuel → RS (I 68) (setT μ i j u) → But O I (6 + 6 * i + j) → ∃ J, l_D_said_32 fuel I (nI i) (nI j) x3 (nI (bs (soSaid μ sl i j) v)) (nI v) = some (nI (bs (soSaid μ sl i j) 7), zui J 68 (6 + 6 * i + j) x3) ∧ But O J (6 + 6 * i + j)
  | 0, v, fuel + 1, u, I, hv, _, hR, hB => by
    have h66 := hW.1.1
    have ec : (6 : Int32) + 6 * nI i + nI j = nI (6 + 6 * i + j) := by rw [show (6 : Int32) = nI 6 from rfl, pk_mul, nI_add, nI_add]
    refine ⟨I, ?_, hB⟩
    rw [l_D_said_32, if_pos (show (7 : Int32) ≤ nI v from (nle (a := 7) (by omega) (by omega)).mpr (by omega)), ec, if_pos (nzin (k := 6 + 6 * i + j) (N := 45) (by omega) (by decide)), ncl (by omega), show v = 7 by omega]
  | d + 1, v, fuel + 1, u, I, hv, hf, hR, hB => by
    have h66 := hW.1.1
    have ec : (6 : Int32) + 6 * nI i + nI j = nI (6 + 6 * i + j) := by rw [show (6 : Int32) = nI 6 from rfl, pk_mul, nI_add, nI_add]
    have hR1 := d_setT (v := v) hR h66 hi hj
    rw [setT_setT] at hR1
    have B1 : But O (zui I 68 (6 + 6 * i + j) (nI v)) (6 + 6 * i + j) := ⟨fun a a1 a2 a3 a4 a5 => by rw [zui_ne _ _ _ a2]; exact hB.1 a a1 a2 a3 a4 a5, fun y y1 y2 => by rw [zui_ne _ _ _ (by decide)]; exact hB.2.1 y y1 y2, fun y hy => by rw [zui_self, pk_un hy]; exact hB.2.2 y hy⟩
    obtain ⟨J, j0, j1, j2, j3, j4, j5, j6⟩ := x_today (μ := setT μ i j v) (I := zui I 68 (6 + 6 * i + j) (nI v)) (setT_wf hW.1 (by omega)) (by rw [zui_self]; exact hR1) (by rw [B1.1 65 (by decide) (by decide) (by decide) (by decide) (by decide)]; exact hK) (by rw [B1.2.1 2 (by decide) (by decide)]; exact hn)
    have e68 : J 68 = upd (I 68) (6 + 6 * i + j) (nI v) := by rw [j1.1 68 (by decide) (by decide) (by decide) (by decide), zui_self]
    have B2 : But O J (6 + 6 * i + j) := ⟨fun a a1 a2 a3 a4 a5 => (j1.1 a a1 a3 a4 a5).trans (B1.1 a a1 a2 a3 a4 a5), fun y y1 y2 => (j1.2 y y1 y2).trans (B1.2.1 y y1 y2), fun y hy => by rw [e68, pk_un hy]; exact hB.2.2 y hy⟩
    have hR2 : RS (J 68) (setT μ i j v) := by rw [e68]; exact hR1
    have so := x_isSo (μ := setT μ i j v) (ν := setT μ i j v) (g := 6) (s := mS μ) (l := mPres μ) (sl := sl) (I := J) (setT_wf hW.1 (by omega)) hR2 (B2.seen hS) (fun c hc => by rw [j5]; exact dfines hc) (fun c hc _ => (mPres_mem hW.1 hc).2)
    obtain ⟨K, k0, k1⟩ := l_dsaid hW hi hj hK hn hS x3 d (v + 1) fuel v J (by omega) (by omega) hR2 B2
    refine ⟨K, ?_, k1⟩
    rw [l_D_said_32, if_neg (show ¬ (7 : Int32) ≤ nI v from fun z => by have := (nle (a := 7) (by omega) (by omega)).mp z; omega), ec, if_pos (nzin (k := 6 + 6 * i + j) (N := 45) (by omega) (by decide)), ncl (by omega), j0, Option.bind_some]
    dsimp only
    rw [so, Option.bind_some]
    dsimp only
    rw [show nI v + 1 = nI (v + 1) from nI_add v 1, nsh1 v (by omega), fa_or, show nI (bs (soSaid μ sl i j) v) ||| 0 = nI (bs (soSaid μ sl i j) v) from by rw [show (0 : Int32) = nI 0 from rfl, fa_or, Nat.or_zero]]
    rw [bs] at k0
    by_cases b : soSaid μ sl i j v = true
    · rw [if_pos b] at k0
      rw [if_pos (show soIs (fo (setT μ i j v) 6 (mPres μ) (mS μ)) sl = true from b), if_neg (by decide)]
      exact k0
    · rw [if_neg b] at k0
      rw [if_neg (show ¬ soIs (fo (setT μ i j v) 6 (mPres μ) (mS μ)) sl = true from b), if_pos rfl]
      exact k0
theorem op_said {I : Nat → Nat → Int32} (hI : IM I μ) (hW : mOK μ) (hS : IS I (mN μ) sl) (a b : Int32) : OQ (fun J => x_G_said J a b) (fun J => x_D_said J a b) I := by
  have h66 := hW.1.1
  have z : ¬ (1 : Int32) = 0 := by decide
  rcases two_two hI.1 hI.2.2.2 hW a b with ⟨h1, h2⟩ | ⟨i, j, hi, hj, hij, ea, eb, h1, h2⟩
  · exact OQ.same (v := -1) (by show x_G_said I a b = _; rw [x_G_said, if_pos h1]) (by show x_D_said I a b = _; rw [x_D_said, if_pos h2])
  · have hT := hW.1.2.2.2.2.1 i j hi hj
    obtain ⟨A, a0, a1, a2⟩ := x_copy8 hI.1 h66
    have fA : ∀ a, ¬ (8 ≤ a ∧ a ≤ 15) → A a = I a := fun x hx => a2 x (by omega)
    obtain ⟨J, j0, j1⟩ := l_csaid (sl := sl) hW.1 hi hj 7 0 1000 (mT μ i j) A (by omega) (by omega) (by rw [setT_self]; exact a1) (hS.keep (KP.low fA))
    have kJ : KP I J := KP.low (fun x hx => (j1 x hx).trans (fA x hx))
    have hJ := hI.keep kJ
    have hJS := hS.keep kJ
    obtain ⟨d1, d2, d3⟩ := d_word hJ.2.1 hW.1 hi hj
    obtain ⟨K, k0, k1⟩ := l_dsaid (O := J) hW hi hj hJ.2.2.1 hJ.2.2.2 hJS (J 68 (6 + 6 * i + j)) 7 0 1000 (mT μ i j) J (by omega) (by omega) (by rw [setT_self]; exact hJ.2.1) ⟨fun _ _ _ _ _ _ => rfl, fun _ _ _ => rfl, fun _ _ => rfl⟩
    rw [nI_0] at j0 k0
    have b0 : nI (bs (soSaid μ sl i j) 0) = 0 := rfl
    rw [b0] at j0 k0
    refine ⟨nI (bs (soSaid μ sl i j) 7), J, _, ?_, ?_, kJ.trans k1.back⟩
    · show x_G_said I a b = _
      rw [x_G_said, h1, if_neg z, a0, Option.bind_some, ea, eb, j0]
    · show x_D_said J a b = _
      have h2' : f_D_areTwo J a b = 1 := by
        rw [← h2, f_D_areTwo, f_D_areTwo, f_D_isOne, f_D_isOne, f_D_isOne, f_D_isOne, hJ.2.2.2, hI.2.2.2]
        rfl
      rw [x_D_said, h2', if_neg z, ea, eb, if_pos d1, d2, k0]
end PSaid
