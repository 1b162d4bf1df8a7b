/-! THE PURE PART: words, the mill with some praise -/
/-- the same mill where those of the set with numbers below k say all the best of c -/
def setA (μ : MS) (B c k : Nat) : MS := (mN μ, mK μ, mL μ, fun a b => if a < k ∧ B.testBit a = true ∧ b = c then 6 else mT μ a b, mG μ, mS μ, mD μ)
theorem setA_wf {μ : MS} {B c k : Nat} (h : mWF μ) : mWF (setA μ B c k) := by
  refine ⟨h.1, h.2.1, h.2.2.1, h.2.2.2.1, ?_, h.2.2.2.2.2.1, h.2.2.2.2.2.2⟩
  intro a b ha hb
  show (if a < k ∧ B.testBit a = true ∧ b = c then 6 else mT μ a b) ≤ 6
  split
  · exact Nat.le_refl 6
  · exact h.2.2.2.2.1 a b ha hb
theorem setA_0 (μ : MS) (B c : Nat) : setA μ B c 0 = μ := by
  have e : (fun a b => if a < 0 ∧ B.testBit a = true ∧ b = c then 6 else mT μ a b) = mT μ := by
    funext a b
    rw [if_neg (fun z => absurd z.1 (Nat.not_lt_zero a))]
  show (mN μ, mK μ, mL μ, (fun a b => if a < 0 ∧ B.testBit a = true ∧ b = c then 6 else mT μ a b), mG μ, mS μ, mD μ) = _
  rw [e]
  rfl
theorem setA_in {μ : MS} {B c k : Nat} (h : B.testBit k = true) : setT (setA μ B c k) k c 6 = setA μ B c (k + 1) := by
  have e : (fun a b => if a = k ∧ b = c then 6 else mT (setA μ B c k) a b) = fun a b => if a < k + 1 ∧ B.testBit a = true ∧ b = c then 6 else mT μ a b := by
    funext a b
    show (if a = k ∧ b = c then 6 else if a < k ∧ B.testBit a = true ∧ b = c then 6 else mT μ a b) = _
    by_cases h1 : a = k ∧ b = c
    · rw [if_pos h1, if_pos ⟨by omega, by rw [h1.1]; exact h, h1.2⟩]
    · rw [if_neg h1]
      by_cases h2 : a < k ∧ B.testBit a = true ∧ b = c
      · rw [if_pos h2, if_pos ⟨by omega, h2.2⟩]
      · rw [if_neg h2, if_neg (fun z => by
          by_cases h3 : a = k
          · exact h1 ⟨h3, z.2.2⟩
          · exact h2 ⟨by omega, z.2⟩)]
  show (mN μ, mK μ, mL μ, (fun a b => if a = k ∧ b = c then 6 else mT (setA μ B c k) a b), mG μ, mS μ, mD μ) = _
  rw [e]
  rfl
theorem setA_out {μ : MS} {B c k : Nat} (h : B.testBit k = false) : setA μ B c (k + 1) = setA μ B c k := by
  have e : (fun a b => if a < k + 1 ∧ B.testBit a = true ∧ b = c then 6 else mT μ a b) = fun a b => if a < k ∧ B.testBit a = true ∧ b = c then 6 else mT μ a b := by
    funext a b
    by_cases h2 : a < k ∧ B.testBit a = true ∧ b = c
    · rw [if_pos h2, if_pos ⟨by omega, h2.2⟩]
    · rw [if_neg h2, if_neg (fun z => by
        by_cases h3 : a = k
        · rw [h3, h] at z
          cases z.2.1
        · exact h2 ⟨by omega, z.2⟩)]
  show (mN μ, mK μ, mL μ, (fun a b => if a < k + 1 ∧ B.testBit a = true ∧ b = c then 6 else mT μ a b), mG μ, mS μ, mD μ) = _
  rw [e]
  rfl
/-- what bread c gets when the set praises him -/
def praised (μ : MS) (B c : Nat) : Nat := br (fv (setA μ B c (mN μ)) 6 (mPres μ) (mS μ) c)
theorem l_praise {μ : MS} {B c : Nat} (hW : mOK μ) (hB : B < 64) (hc : c < mN μ) (hg : (mG μ).testBit c = false) : ∀ (d k fuel : Nat) (I : Nat → Nat → Int32), k + d = mN μ → d < fuel → RC I 8 9 10 11 (setA μ B c k) → ∃ J, l_G_breadPraisedBy_13 fuel I (nI B) (nI c) (nI k) = some (nI (praised μ B c), J) ∧ ∀ a, ¬ (8 ≤ a ∧ a ≤ 15) → J a = I a
  | 0, k, fuel + 1, I, hk, _, hR => by
    have h66 := hW.1.1
    rw [show k = mN μ by omega] at hR ⊢
    obtain ⟨J, j0, j1, j2, j3, j4, j5, j6⟩ := x_pass hR (setA_wf hW.1) mo8
    have hp : c ∈ mPres μ := pres_in hW hc hg
    have e1 : J 14 c = nI (fv (setA μ B c (mN μ)) 6 (mPres μ) (mS μ) c) := by
      rw [j6]
      exact fv_in (setA μ B c (mN μ)) hp (by omega) _
    refine ⟨J, ?_, fun a ha => j1 a (by omega) (by omega) (by omega)⟩
    have hn : I 8 3 = nI (mN μ) := hR.1
    rw [l_G_breadPraisedBy_13, f_M_size, hn, if_pos ((nle (a := mN μ) (b := mN μ) (by omega) (by omega)).mpr (Nat.le_refl _)), j0, Option.bind_some]
    dsimp only
    rw [fineOf_in (by omega), e1, bread_in (fv_le _ _ _ _ _)]
    rfl
  | d + 1, k, fuel + 1, I, hk, hf, hR => by
    have h66 := hW.1.1
    have hn : I 8 3 = nI (mN μ) := hR.1
    rw [l_G_breadPraisedBy_13, f_M_size, hn, if_neg (fun z => by have := (nle (by omega) (by omega)).mp z; omega), f_G_isIn, show nI k + 1 = nI (k + 1) from nI_add k 1]
    have hb := nbit B hB k (by omega)
    by_cases b : B.testBit k = true
    · rw [if_pos (hb.mpr b), if_neg (by decide)]
      obtain ⟨g1, g2⟩ := g_setT (μ := setA μ B c k) (i := k) (j := c) (v := 6) hR h66 (by show k < mN μ; omega) hc (by decide)
      rw [setA_in b] at g1
      obtain ⟨J, j0, j1⟩ := l_praise hW hB hc hg d (k + 1) fuel _ (by omega) (by omega) g1
      exact ⟨J, j0, fun a ha => (j1 a ha).trans (by rw [g2, zui_ne _ _ _ (by omega)])⟩
    · rw [if_neg (fun z => b (hb.mp z)), if_pos rfl]
      rw [← setA_out (bitf b)] at hR
      exact l_praise hW hB hc hg d (k + 1) fuel I (by omega) (by omega) hR
