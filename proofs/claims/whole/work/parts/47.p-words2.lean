/-! THE PURE PART: words, the reference praises -/
theorem l_dpraise {μ : MS} {B c : Nat} {O : Nat → Nat → Int32} {x2 x3 x4 : Int32} (hW : mOK μ) (hB : B < 64) (hc : c < mN μ) (hn : O 63 2 = nI (mN μ)) : ∀ (d k fuel : Nat) (I : Nat → Nat → Int32), k + d = mN μ → RS (I 68) (setA μ B c k) → Held O I → ∃ J, l_D_words (fuel + d) 1 I (nI c) x2 x3 x4 (nI B) (nI k) = l_D_words fuel 1 J (nI c) x2 x3 x4 (nI B) (nI (mN μ)) ∧ RS (J 68) (setA μ B c (mN μ)) ∧ Held O J
  | 0, k, fuel, I, hk, hS, hH => by
    rw [show k = mN μ by omega] at hS ⊢
    exact ⟨I, rfl, hS, hH⟩
  | d + 1, k, fuel, I, hk, hS, hH => by
    have h66 := hW.1.1
    have ec : (6 : Int32) + 6 * nI k + nI c = nI (6 + 6 * k + c) := by rw [show (6 : Int32) = nI 6 from rfl, pk_mul, nI_add, nI_add]
    have e63 : I 63 2 = nI (mN μ) := (hH.2.1 2 (by decide) (by decide)).trans hn
    have zi : zinb (nI (6 + 6 * k + c)) 45 = true := nzin (by omega) (by decide)
    have hb := nbit B hB k (by omega)
    rw [← Nat.add_assoc, l_D_words, if_neg (by decide), if_pos rfl, e63, if_neg (fun z => by have := (nle (by omega) (by omega)).mp z; omega), ec, if_pos zi, if_pos zi, if_pos zi, ncl (by omega), show nI k + 1 = nI (k + 1) from nI_add k 1]
    by_cases b : B.testBit k = true
    · rw [if_pos (hb.mpr b)]
      have hS2 := d_setT (μ := setA μ B c k) (i := k) (j := c) (v := 6) hS h66 (by show k < mN μ; omega) hc
      rw [setA_in b] at hS2
      exact l_dpraise hW hB hc hn d (k + 1) fuel (zui I 68 (6 + 6 * k + c) 6) (by omega) (by rw [zui_self]; exact hS2) (hH.put (by omega))
    · rw [if_neg (fun z => b (hb.mp z)), zui_same rfl]
      rw [← setA_out (bitf b)] at hS
      exact l_dpraise hW hB hc hn d (k + 1) fuel I (by omega) hS hH
