/-! THE PURE PART: whose words count in the reference -/
theorem zui_zui (I : Nat → Nat → Int32) (a j : Nat) (v w : Int32) : zui (zui I a j v) a j w = zui I a j w := by
  funext x
  by_cases h : x = a
  · rw [h, zui_self, zui_self, zui_self, fa_upd_twice]
  · rw [zui_ne _ _ _ h, zui_ne _ _ _ h, zui_ne _ _ _ h]
theorem zui_same {I : Nat → Nat → Int32} {a j : Nat} {v : Int32} (h : I a j = v) : zui I a j v = I := by
  funext x
  by_cases hx : x = a
  · rw [hx, zui_self, fa_upd_same h]
  · rw [zui_ne _ _ _ hx]
theorem ms_zero (μ : MS) (c : Nat) : ∀ n, ms μ 0 c n = 0
  | 0 => rfl
  | n + 1 => by
    rw [ms, Nat.zero_testBit, if_neg (by decide)]
    exact ms_zero μ c n
section PCount2
variable {μ : MS}
theorem l_done {x1 x3 : Int32} {c q w x8 B fuel : Nat} {b : Bool} {I : Nat → Nat → Int32} (hW : mWF μ) (hK : RK (I 65) μ) (hc : c < mN μ) (hw : w < mN μ) (hq : q ≤ 6) (hx8 : x8 ≤ 6) (hB : I 74 c = nI B) (h : x8 = q ∨ mK μ w = 2) : l_D_counts (fuel + 1) 1 I x1 (nI c) x3 (nI q) (nI w) (nI (mT μ w c)) (if b then 1 else 0) (nI x8) = l_D_counts fuel 0 (zui I 74 c (nI (if b then B ||| 2 ^ w else B))) x1 (nI c) (if b then x3 + mw μ w c else x3) (nI (q + 1)) 0 0 0 0 := by
  have h66 := hW.1
  have hKw := hW.2.1 w hw
  have z1 : zinb (nI w) 6 = true := nzin (by omega) (by decide)
  have z2 : zinb (nI c) 6 = true := nzin (by omega) (by decide)
  have k1 : (nI (mK μ w) = 1) ↔ mK μ w = 1 := neq (b := 1) (by omega) (by omega)
  have k2 : (nI (mK μ w) = 2) ↔ mK μ w = 2 := neq (b := 2) (by omega) (by omega)
  have k4 : (nI (mK μ w) = 4) ↔ mK μ w = 4 := neq (b := 4) (by omega) (by omega)
  have e0 : nI B ||| 0 = nI B := by rw [show (0 : Int32) = nI 0 from rfl, fa_or, Nat.or_zero]
  have hq8 : nI q ≤ nI x8 ↔ q ≤ x8 := nle (by omega) (by omega)
  have cw : (nI w).toNatClampNeg = w := ncl (by omega)
  have cc : (nI c).toNatClampNeg = c := ncl (by omega)
  have hKK := hK w hw
  rw [l_D_counts, if_neg (by decide), if_pos rfl, show nI q + 1 = nI (q + 1) from nI_add q 1, nsh1 w (by omega)]
  simp only [z1, z2, cw, cc, hKK, hB, k1, k2, k4, flag0, e0, fa_or, if_true, hq8, Int32.add_zero]
  have key : ∀ (A : Option (Int32 × (Nat → Nat → Int32))) (h : x8 = q ∨ mK μ w = 2), (if q ≤ x8 then A else if mK μ w = 2 then A else none) = A := by
    intro A h
    rcases h with h | h
    · rw [if_pos (by omega)]
    · by_cases h2 : q ≤ x8
      · rw [if_pos h2]
      · rw [if_neg h2, if_pos h]
  cases b with
  | false =>
    simp only [if_true, if_false, ite_self, Bool.false_eq_true]
    rcases h with h | h
    · rw [if_pos (by omega)]
    · by_cases h2 : q ≤ x8
      · rw [if_pos h2]
      · rw [if_neg h2, if_pos h]
  | true =>
    have em : (if mK μ w = 1 then l_D_counts fuel 0 (zui I 74 c (nI (B ||| 2 ^ w))) x1 (nI c) (x3 + 2 * (nI (mT μ w c) - 3)) (nI (q + 1)) 0 0 0 0 else if mK μ w = 4 then l_D_counts fuel 0 (zui I 74 c (nI (B ||| 2 ^ w))) x1 (nI c) (x3 + -1 * (nI (mT μ w c) - 3)) (nI (q + 1)) 0 0 0 0 else l_D_counts fuel 0 (zui I 74 c (nI (B ||| 2 ^ w))) x1 (nI c) (x3 + 1 * (nI (mT μ w c) - 3)) (nI (q + 1)) 0 0 0 0) = l_D_counts fuel 0 (zui I 74 c (nI (B ||| 2 ^ w))) x1 (nI c) (x3 + mw μ w c) (nI (q + 1)) 0 0 0 0 := by
      unfold mw
      by_cases c1 : mK μ w = 1
      · rw [if_pos c1, if_pos c1]
      · rw [if_neg c1, if_neg c1]
        by_cases c4 : mK μ w = 4
        · rw [if_pos c4, if_pos c4, Int32.neg_mul, Int32.one_mul]
        · rw [if_neg c4, if_neg c4, Int32.one_mul]
    simp only [if_true, if_false, Bool.true_eq_false]
    rw [em]
    rcases h with h | h
    · rw [if_pos (by omega)]
    · by_cases h2 : q ≤ x8
      · rw [if_pos h2]
      · rw [if_neg h2, if_pos h]
theorem l_counts {p c : Nat} (hW : mWF μ) (hc : c < mN μ) : ∀ (r done : List Nat) (k T B fuel : Nat) (I : Nat → Nat → Int32), RS (I 68) μ → RK (I 65) μ → RA (I 72) (p + 1) (done ++ r) → I 63 16 = nI (p + 1 + (done.length + r.length)) → p + 1 + (done.length + r.length) ≤ 6 → (∀ w ∈ done ++ r, w < mN μ) → (done ++ r).Nodup → done.length + k = 3 → I 74 c = nI B → (∀ v, v ≤ 6 → (T.testBit v = true ↔ done.any (took μ c v) = true)) → (∀ i, B.testBit i = true → i ∈ done) → 8 * r.length < fuel → l_D_counts fuel 0 I (nI p) (nI c) (ms μ B c (mN μ)) (nI (p + 1 + done.length)) 0 0 0 0 = some (ms μ (mo μ c k T B r) c (mN μ), zui I 74 c (nI (mo μ c k T B r)))
  | [], done, k, T, B, fuel, I, _, _, _, hs, h6, _, _, _, hB, _, _, hf => by
    obtain ⟨f, rfl⟩ : ∃ f, fuel = f + 1 := ⟨fuel - 1, by omega⟩
    have e : mo μ c k T B [] = B := by cases k <;> rfl
    rw [l_D_counts, if_pos rfl, hs, if_pos ((nle (by simp at h6 ⊢; omega) (by simp at h6 ⊢; omega)).mpr (by simp)), e, zui_same hB]
  | w :: r, done, k, T, B, fuel, I, hS, hK, hr, hs, h6, hm, hd, hk, hB, hT, hBd, hf => by
    have h66 := hW.1
    have hl : (w :: r).length = r.length + 1 := rfl
    rw [hl] at hs h6 hf
    have hw := hm w (by simp)
    have hKw := hW.2.1 w hw
    have hTw := hW.2.2.2.2.1 w c hw hc
    have hq : I 72 (p + 1 + done.length) = nI w := (RA.right hr).1
    have k3 : (nI (mK μ w) = 3) ↔ mK μ w = 3 := neq (b := 3) (by omega) (by omega)
    have ec : (6 : Int32) + 6 * nI w + nI c = nI (6 + 6 * w + c) := by rw [show (6 : Int32) = nI 6 from rfl, pk_mul, nI_add, nI_add]
    have hBw : B.testBit w = false := by
      refine bitf (fun z => ?_)
      have h1 := hBd w z
      have h2 := (List.nodup_append.mp hd).2.2 w h1 w List.mem_cons_self
      exact h2 rfl
    cases k with
    | zero =>
      obtain ⟨f, rfl⟩ : ∃ f, fuel = f + 1 := ⟨fuel - 1, by omega⟩
      rw [l_D_counts, if_pos rfl, hs, if_neg (fun z => by have := (nle (by omega) (by omega)).mp z; omega), show nI p + 3 = nI (p + 3) from nI_add p 3, if_pos ((nlt (by omega) (by omega)).mpr (by omega)), mo, zui_same hB]
    | succ k =>
      have hr2 : RA (I 72) (p + 1) ((done ++ [w]) ++ r) := by simpa using hr
      have hd2 : ((done ++ [w]) ++ r).Nodup := by simpa using hd
      have hm2 : ∀ y ∈ (done ++ [w]) ++ r, y < mN μ := by simpa using hm
      have hl2 : (done ++ [w]).length = done.length + 1 := by simp
      -- what is done behind the flag
      have rest : ∀ (b : Bool) (T' f' : Nat) , 8 * r.length < f' → (∀ v, v ≤ 6 → (T'.testBit v = true ↔ (done ++ [w]).any (took μ c v) = true)) → l_D_counts f' 0 (zui I 74 c (nI (if b then B ||| 2 ^ w else B))) (nI p) (nI c) (if b then ms μ B c (mN μ) + mw μ w c else ms μ B c (mN μ)) (nI (p + 1 + done.length + 1)) 0 0 0 0 = some (ms μ (mo μ c k T' (if b then B ||| 2 ^ w else B) r) c (mN μ), zui I 74 c (nI (mo μ c k T' (if b then B ||| 2 ^ w else B) r))) := by
        intro b T' f' hf' hT'
        have e1 : (if b then ms μ B c (mN μ) + mw μ w c else ms μ B c (mN μ)) = ms μ (if b then B ||| 2 ^ w else B) c (mN μ) := by
          cases b with
          | false => rfl
          | true =>
            have := ms_or μ c hBw (mN μ)
            rw [if_pos hw] at this
            exact this.symm
        have hB' : ∀ i, (if b then B ||| 2 ^ w else B).testBit i = true → i ∈ done ++ [w] := by
          intro i hi
          cases b with
          | false => exact List.mem_append_left _ (hBd i hi)
          | true =>
            have hi2 : (B ||| 2 ^ w).testBit i = true := hi
            rw [testOr, Bool.or_eq_true] at hi2
            rcases hi2 with z | z
            · exact List.mem_append_left _ (hBd i z)
            · rw [← of_decide_eq_true z]
              simp
        have q := l_counts hW hc r (done ++ [w]) k T' (if b then B ||| 2 ^ w else B) f' (zui I 74 c (nI (if b then B ||| 2 ^ w else B))) (by rw [zui_ne _ _ _ (by decide)]; exact hS) (by rw [zui_ne _ _ _ (by decide)]; exact hK) (by rw [zui_ne _ _ _ (by decide)]; exact hr2) (by rw [zui_ne _ _ _ (by decide), hs, hl2]; congr 1; omega) (by rw [hl2]; omega) hm2 hd2 (by rw [hl2]; omega) (by rw [zui_self, pk_us]) hT' hB' hf'
        rw [zui_zui, hl2] at q
        rw [e1]
        exact q
      obtain ⟨f, rfl⟩ : ∃ f, fuel = ((f + 1) + done.length) + 1 := ⟨fuel - done.length - 2, by omega⟩
      rw [l_D_counts, if_pos rfl, hs, if_neg (fun z => by have := (nle (by omega) (by omega)).mp z; omega), show nI p + 3 = nI (p + 3) from nI_add p 3, if_neg (fun z => by have := (nlt (by omega) (by omega)).mp z; omega), if_pos (nzin (k := p + 1 + done.length) (N := 6) (by omega) (by decide)), ncl (by omega), hq, ec, if_pos (nzin (k := 6 + 6 * w + c) (N := 45) (by omega) (by decide)), if_pos (nzin (k := w) (N := 6) (by omega) (by decide)), ncl (by omega), ncl (by omega), hK w hw, hS.2.1 w c hw hc, show nI p + 1 = nI (p + 1) from nI_add p 1]
      simp only [k3]
      have e3 : (if mK μ w = 3 then l_D_counts (f + 1 + done.length) 1 I (nI p) (nI c) (ms μ B c (mN μ)) (nI (p + 1 + done.length)) (nI w) (nI (mT μ w c)) 0 (nI (p + 1)) else l_D_counts (f + 1 + done.length) 1 I (nI p) (nI c) (ms μ B c (mN μ)) (nI (p + 1 + done.length)) (nI w) (nI (mT μ w c)) 1 (nI (p + 1))) = l_D_counts (f + 1 + done.length) 1 I (nI p) (nI c) (ms μ B c (mN μ)) (nI (p + 1 + done.length)) (nI w) (nI (mT μ w c)) (if (!decide (mK μ w = 3)) = true then 1 else 0) (nI (p + 1)) := by
        by_cases c3 : mK μ w = 3
        · simp [c3]
        · simp [c3]
      rw [e3]
      by_cases c2 : mK μ w = 2
      · have e4 : (!decide (mK μ w = 3)) = true := by simp [c2]
        rw [e4]
        have h0 := l_done (x1 := nI p) (x3 := ms μ B c (mN μ)) (q := p + 1 + done.length) (x8 := p + 1) (fuel := f + done.length) (b := true) hW hK hc hw (by omega) (by omega) hB (Or.inr c2)
        rw [show f + 1 + done.length = f + done.length + 1 by omega, h0]
        have tk : ∀ v, took μ c v w = false := fun v => by simp [took, c2]
        have h1 := rest true T (f + done.length) (by omega) (fun v hv => by rw [hT v hv]; simp [List.any_append, tk])
        have e5 : mo μ c (k + 1) T B (w :: r) = mo μ c k T (B ||| 2 ^ w) r := by rw [mo, if_pos (Or.inl c2), if_pos (Or.inl c2)]
        rw [e5]
        exact h1
      · have h0 := l_between (x1 := nI p) (x3 := ms μ B c (mN μ)) (q := p + 1 + done.length) (v := mT μ w c) hW hS hK hc hw (by omega) (by omega) c2 done (p + 1) (f + 1) (!decide (mK μ w = 3)) (RA.left hr) rfl (fun u hu => hm u (List.mem_append_left _ hu))
        rw [h0, l_done (q := p + 1 + done.length) (x8 := p + 1 + done.length) hW hK hc hw (by omega) (by omega) hB (Or.inl rfl)]
        have e6 : (mK μ w = 2 ∨ (mK μ w ≠ 3 ∧ T.testBit (mT μ w c) = false)) ↔ (!decide (mK μ w = 3) && !(done.any (took μ c (mT μ w c)))) = true := by
          have := hT (mT μ w c) hTw
          constructor
          · intro z
            rcases z with z | z
            · exact absurd z c2
            · have z2 : done.any (took μ c (mT μ w c)) = false := bitf (fun y => by rw [this.mpr y] at z; cases z.2)
              rw [z2]
              simp [z.1]
          · intro z
            rw [Bool.and_eq_true] at z
            refine Or.inr ⟨by simpa using z.1, bitf (fun y => ?_)⟩
            rw [this.mp y] at z
            cases z.2
        have h1 := rest (!decide (mK μ w = 3) && !(done.any (took μ c (mT μ w c)))) (if mK μ w = 2 ∨ mK μ w = 3 then T else T ||| 2 ^ mT μ w c) f (by omega) (by
          intro v hv
          rw [List.any_append, Bool.or_eq_true, ← hT v hv]
          by_cases c3 : mK μ w = 3
          · rw [if_pos (Or.inr c3)]
            simp [took, c3]
          · rw [if_neg (by intro z; rcases z with z | z; exact c2 z; exact c3 z), testOr, Bool.or_eq_true]
            simp [took, c2, c3])
        have e5 : mo μ c (k + 1) T B (w :: r) = mo μ c k (if mK μ w = 2 ∨ mK μ w = 3 then T else T ||| 2 ^ mT μ w c) (if (!decide (mK μ w = 3) && !(done.any (took μ c (mT μ w c)))) = true then B ||| 2 ^ w else B) r := by
          rw [mo]
          congr 1
          simp only [e6]
        rw [e5]
        exact h1
theorem x_counts {p c : Nat} {r : List Nat} {I : Nat → Nat → Int32} (hW : mWF μ) (hS : RS (I 68) μ) (hK : RK (I 65) μ) (hr : RA (I 72) p (c :: r)) (hs : I 63 16 = nI (p + (r.length + 1))) (h6 : p + (r.length + 1) ≤ 6) (hm : ∀ w ∈ c :: r, w < mN μ) (hd : r.Nodup) : x_D_counts I (nI p) = some (ms μ (mo μ c 3 0 0 r) c (mN μ), zui I 74 c (nI (mo μ c 3 0 0 r))) := by
  have h66 := hW.1
  have hc := hm c List.mem_cons_self
  have h := l_counts (p := p) hW hc r [] 3 0 0 5000 (zui I 74 c 0) (by rw [zui_ne _ _ _ (by decide)]; exact hS) (by rw [zui_ne _ _ _ (by decide)]; exact hK) (by rw [zui_ne _ _ _ (by decide)]; exact hr.2) (by rw [zui_ne _ _ _ (by decide), hs]; congr 1; simp; omega) (by simp; omega) (by simpa using fun w hw => hm w (List.mem_cons_of_mem _ hw)) (by simpa using hd) rfl (by rw [zui_self, pk_us]; rfl) (by simp) (by simp) (by omega)
  rw [ms_zero, zui_zui, List.length_nil, Nat.add_zero] at h
  rw [x_D_counts, if_pos (nzin (k := p) (N := 6) (by omega) (by decide)), ncl (by omega), hr.1, if_pos (nzin (k := c) (N := 6) (by omega) (by decide)), ncl (by omega), show nI p + 1 = nI (p + 1) from nI_add p 1, h]
end PCount2
