/-! THE PURE PART: words -/
def fwr (o : Option Nat) (s : Nat) : Bool := match o with
  | none => true
  | some t => decide (pc6 s < pc6 t)
/-- the best set below s: the fewest, then the lowest -/
def wb (μ : MS) (c b : Nat) : Nat → Option Nat
  | 0 => none
  | s + 1 => if (!s.testBit c && (fwr (wb μ c b s) s && decide (b ≤ praised μ s c))) = true then some s else wb μ c b s
def ov (o : Option Nat) : Int32 := match o with
  | none => -4
  | some t => nI t
def oc (o : Option Nat) : Int32 := match o with
  | none => 99
  | some t => nI (pc6 t)
theorem wb_lt (μ : MS) (c b : Nat) : ∀ s t, wb μ c b s = some t → t < s
  | 0, t, h => by cases h
  | s + 1, t, h => by
    rw [wb] at h
    split at h
    · cases h
      exact Nat.lt_succ_self s
    · exact Nat.lt_succ_of_lt (wb_lt μ c b s t h)
theorem wb_skip {μ : MS} {c b s : Nat} (h : s.testBit c = true ∨ fwr (wb μ c b s) s = false ∨ ¬ b ≤ praised μ s c) : wb μ c b (s + 1) = wb μ c b s := by
  rw [wb, if_neg]
  intro z
  rw [Bool.and_eq_true, Bool.and_eq_true] at z
  rcases h with h | h | h
  · rw [h] at z
    cases z.1
  · rw [h] at z
    cases z.2.1
  · exact h (of_decide_eq_true z.2.2)
theorem wb_take {μ : MS} {c b s : Nat} (h1 : s.testBit c = false) (h2 : fwr (wb μ c b s) s = true) (h3 : b ≤ praised μ s c) : wb μ c b (s + 1) = some s := by
  rw [wb, if_pos]
  rw [h1, h2, decide_eq_true h3]
  rfl
theorem pc6_le (B : Nat) : pc6 B ≤ 6 := pcTo_le B 6
theorem oc_le {o : Option Nat} {s : Nat} : oc o ≤ nI (pc6 s) ↔ fwr o s = false := by
  have h1 := pc6_le s
  cases o with
  | none =>
    constructor
    · intro z
      have := (nle (a := 99) (by omega) (by omega)).mp z
      omega
    · intro z
      cases z
  | some t =>
    have h2 := pc6_le t
    show nI (pc6 t) ≤ nI (pc6 s) ↔ decide (pc6 s < pc6 t) = false
    rw [nle (by omega) (by omega), decide_eq_false_iff_not]
    omega
theorem praised_le (μ : MS) (B c : Nat) : praised μ B c ≤ 3 := br_le _
section PWords
variable {μ : MS} {c b : Nat}
theorem x_praise {I : Nat → Nat → Int32} {B : Nat} (hR : RC I 4 5 6 7 μ) (hW : mOK μ) (hB : B < 64) (hc : c < mN μ) (hg : (mG μ).testBit c = false) : ∃ J, x_G_breadPraisedBy I (nI B) (nI c) = some (nI (praised μ B c), J) ∧ ∀ a, ¬ (8 ≤ a ∧ a ≤ 15) → J a = I a := by
  have h66 := hW.1.1
  obtain ⟨A, a0, a1, a2⟩ := x_copy8 hR h66
  obtain ⟨J, j0, j1⟩ := l_praise hW hB hc hg (mN μ) 0 1000 A (by omega) (by omega) (by rw [setA_0]; exact a1)
  rw [nI_0] at j0
  exact ⟨J, by rw [x_G_breadPraisedBy, a0, Option.bind_some, j0], fun a ha => (j1 a ha).trans (a2 a (by omega))⟩
theorem l_cwords (hW : mOK μ) (hc : c < mN μ) (hg : (mG μ).testBit c = false) (hb : b ≤ 3) : ∀ (d s fuel : Nat) (I : Nat → Nat → Int32), s + d = 2 ^ mN μ → d < fuel → RC I 4 5 6 7 μ → ∃ J, l_G_words_41 fuel I (nI c) (nI b) (ov (wb μ c b s)) (nI s) = some (ov (wb μ c b (2 ^ mN μ)), J) ∧ ∀ a, ¬ (8 ≤ a ∧ a ≤ 15) → J a = I a
  | 0, s, fuel + 1, I, hs, _, hR => by
    have h66 := hW.1.1
    have h64 := pow_64 h66
    refine ⟨I, ?_, fun _ _ => rfl⟩
    rw [l_G_words_41, f_M_size, hR.1, nsh1 (mN μ) (by omega), if_pos ((nle (by omega) (by omega)).mpr (by omega)), show s = 2 ^ mN μ by omega]
  | d + 1, s, fuel + 1, I, hs, hf, hR => by
    have h66 := hW.1.1
    have h64 := pow_64 h66
    have hs64 : s < 64 := by omega
    have hp3 := praised_le μ s c
    have isin : ∀ J, f_G_isIn J (nI s) (nI c) = if s.testBit c = true then 1 else 0 := fun J => by
      rw [f_G_isIn]
      simp only [nbit s hs64 c (by omega)]
    obtain ⟨P, p0, p1⟩ := x_praise hR hW hs64 hc hg
    obtain ⟨J1, i1, f1⟩ := l_cwords hW hc hg hb d (s + 1) fuel I (by omega) (by omega) hR
    obtain ⟨J2, i2, f2'⟩ := l_cwords hW hc hg hb d (s + 1) fuel P (by omega) (by omega) (hR.congr (p1 4 (by omega)) (p1 5 (by omega)) (p1 6 (by omega)) (p1 7 (by omega)))
    have f2 : ∀ a, ¬ (8 ≤ a ∧ a ≤ 15) → J2 a = I a := fun a ha => (f2' a ha).trans (p1 a ha)
    rw [l_G_words_41, f_M_size, hR.1, nsh1 (mN μ) (by omega), if_neg (fun z => by have := (nle (by omega) (by omega)).mp z; omega), show nI s + 1 = nI (s + 1) from nI_add s 1, isin, p0]
    simp only [Option.bind_some]
    have lb : nI (praised μ s c) < nI b ↔ ¬ b ≤ praised μ s c := by
      rw [nlt (by omega) (by omega)]
      omega
    have body : fwr (wb μ c b s) s = true → ∃ J, (if (if s.testBit c = true then (1 : Int32) else 0) = 0 then (if nI (praised μ s c) < nI b then l_G_words_41 fuel P (nI c) (nI b) (ov (wb μ c b s)) (nI (s + 1)) else l_G_words_41 fuel P (nI c) (nI b) (nI s) (nI (s + 1))) else l_G_words_41 fuel I (nI c) (nI b) (ov (wb μ c b s)) (nI (s + 1))) = some (ov (wb μ c b (2 ^ mN μ)), J) ∧ ∀ a, ¬ (8 ≤ a ∧ a ≤ 15) → J a = I a := by
      intro hfw
      by_cases bc : s.testBit c = true
      · rw [if_pos bc, if_neg (by decide), ← wb_skip (Or.inl bc)]
        exact ⟨J1, i1, f1⟩
      · rw [if_neg bc, if_pos rfl]
        by_cases hb2 : b ≤ praised μ s c
        · rw [if_neg (fun z => (lb.mp z) hb2)]
          rw [wb_take (bitf bc) hfw hb2] at i2
          exact ⟨J2, i2, f2⟩
        · rw [if_pos (lb.mpr hb2), ← wb_skip (Or.inr (Or.inr hb2))]
          exact ⟨J2, i2, f2⟩
    cases ho : wb μ c b s with
    | none =>
      rw [ho] at body
      rw [if_pos (show ov none = -4 from rfl)]
      exact body rfl
    | some t =>
      have ht := wb_lt μ c b s t ho
      have ht2 := pc6_le t
      have hs2 := pc6_le s
      have hne : ¬ ov (some t) = -4 := fun z => by
        have h3 := nneg (a := t) (by omega)
        rw [show nI t = -4 from z] at h3
        exact h3 (by decide)
      rw [if_neg hne]
      simp only [x_bc, Option.bind_some]
      rw [nbc_in s hs64, show ov (some t) = nI t from rfl, nbc_in t (by omega), isin, p0]
      simp only [Option.bind_some]
      by_cases hfw : pc6 s < pc6 t
      · rw [if_neg (fun z => by have := (nle (by omega) (by omega)).mp z; omega)]
        rw [ho] at body
        exact body (decide_eq_true hfw)
      · rw [if_pos ((nle (by omega) (by omega)).mpr (by omega))]
        have e : wb μ c b (s + 1) = some t := by
          rw [wb_skip (Or.inr (Or.inl _)), ho]
          rw [ho]
          exact decide_eq_false hfw
        rw [e] at i1
        exact ⟨J1, i1, f1⟩
/-- it holds, and the row is as it was -/
def HB (O K : Nat → Nat → Int32) : Prop := Held O K ∧ K 68 = O 68
theorem Held.letsB {O K : Nat → Nat → Int32} (h : Held O K) : HB O (zrow K 68 (fun j => if j < 45 then K 75 j else K 68 j)) := by
  have e : (zrow K 68 (fun j => if j < 45 then K 75 j else K 68 j)) 68 = O 68 := by
    rw [zrow_self]
    funext j
    by_cases hj : j < 45
    · rw [if_pos hj, h.2.2.2 j hj]
    · rw [if_neg hj, h.2.2.1 j (by omega)]
  refine ⟨⟨?_, ?_, ?_, ?_⟩, e⟩
  · intro a a1 a2 a3 a4 a5 a6
    rw [zrow_ne _ _ a2]
    exact h.1 a a1 a2 a3 a4 a5 a6
  · intro j j1 j2
    rw [zrow_ne _ _ (by decide)]
    exact h.2.1 j j1 j2
  · intro j _
    rw [e]
  · intro j hj
    rw [zrow_ne _ _ (by decide)]
    exact h.2.2.2 j hj
theorem HB.kp {O K : Nat → Nat → Int32} (h : HB O K) : KP O K := by
  refine ⟨?_, ?_, ?_⟩
  · intro a a1 a2 a3 a4 a5 a6 a7
    by_cases a8 : a = 68
    · rw [a8]
      exact h.2
    · exact h.1.1 a a4 a8 (by omega) (by omega) (by omega) (by omega)
  · rw [h.1.1 1 (by decide) (by decide) (by decide) (by decide) (by decide) (by decide)]
  · intro j hj
    exact h.1.2.1 j (by omega) (by omega)
theorem HB.start (I : Nat → Nat → Int32) : HB I (zrow I 75 (fun j => if j < 45 then I 68 j else I 75 j)) := ⟨Held.start I, by rw [zrow_ne _ _ (by decide)]⟩
theorem l_dwords {O : Nat → Nat → Int32} (hO : IM O μ) (hW : mOK μ) (hc : c < mN μ) (hg : (mG μ).testBit c = false) (hb : b ≤ 3) : ∀ (d s fuel : Nat) (K : Nat → Nat → Int32), s + d = 2 ^ mN μ → 9 * d < fuel → HB O K → ∃ J, l_D_words fuel 0 K (nI c) (nI b) (ov (wb μ c b s)) (oc (wb μ c b s)) (nI s) 0 = some (ov (wb μ c b (2 ^ mN μ)), J) ∧ HB O J
  | 0, s, fuel, K, hs, hf, hH => by
    have h66 := hW.1.1
    have h64 := pow_64 h66
    have hK := hO.keep hH.kp
    obtain ⟨f, rfl⟩ : ∃ f, fuel = f + 1 := ⟨fuel - 1, by omega⟩
    refine ⟨K, ?_, hH⟩
    rw [l_D_words, if_pos rfl, hK.2.2.2, nsh1 (mN μ) (by omega), if_pos ((nle (by omega) (by omega)).mpr (by omega)), show s = 2 ^ mN μ by omega]
  | d + 1, s, fuel, K, hs, hf, hH => by
    have h66 := hW.1.1
    have h64 := pow_64 h66
    have hs64 : s < 64 := by omega
    have hp3 := praised_le μ s c
    have hK := hO.keep hH.kp
    have hp : c ∈ mPres μ := pres_in hW hc hg
    obtain ⟨f, rfl⟩ : ∃ f, fuel = f + 1 := ⟨fuel - 1, by omega⟩
    have nb := nbit0 s hs64 c (by omega)
    rw [l_D_words, if_pos rfl, hK.2.2.2, nsh1 (mN μ) (by omega), if_neg (fun z => by have := (nle (by omega) (by omega)).mp z; omega), show nI s + 1 = nI (s + 1) from nI_add s 1]
    by_cases bc : s.testBit c = true
    · rw [if_neg (fun z => by rw [nb.mp z] at bc; cases bc), ← wb_skip (Or.inl bc)]
      exact l_dwords hO hW hc hg hb d (s + 1) f K (by omega) (by omega) hH
    · rw [if_pos (nb.mpr (bitf bc)), x_ones hs64, Option.bind_some]
      dsimp only
      by_cases fw : fwr (wb μ c b s) s = true
      · rw [if_neg (fun z => by rw [oc_le.mp z] at fw; cases fw)]
        obtain ⟨L, l0, l1, l2⟩ := l_dpraise (x2 := nI b) (x3 := ov (wb μ c b s)) (x4 := oc (wb μ c b s)) hW hs64 hc hO.2.2.2 (mN μ) 0 (f - mN μ) K (by omega) (by rw [setA_0]; exact hK.2.1) hH.1
        rw [nI_0, show f - mN μ + mN μ = f by omega] at l0
        obtain ⟨g, hgf⟩ : ∃ g, f - mN μ = g + 1 := ⟨f - mN μ - 1, by omega⟩
        obtain ⟨hK2, hN2⟩ := l2.stable (ν := setA μ s c (mN μ)) hO.2.2.1 hO.2.2.2 rfl rfl
        obtain ⟨E, e0, e1, e2, e3, e4, e5, e6⟩ := x_today (μ := setA μ s c (mN μ)) (setA_wf hW.1) l1 hK2 hN2
        have e73 : E 73 c = nI (fv (setA μ s c (mN μ)) 6 (mPres μ) (mS μ) c) := by
          rw [e5]
          exact fv_in (setA μ s c (mN μ)) hp (by omega) _
        have hN3 : L 63 2 = nI (mN μ) := hN2
        have eb : f_D_breadOf E (E 73 c) = nI (praised μ s c) := by
          rw [e73, dbread_in (fv_le _ _ _ _ _)]
          rfl
        rw [l0, hgf, l_D_words, if_neg (by decide), if_pos rfl, hN3, if_pos ((nle (a := mN μ) (b := mN μ) (by omega) (by omega)).mpr (Nat.le_refl _)), e0, Option.bind_some]
        dsimp only
        rw [if_pos (nzin (k := c) (N := 6) (by omega) (by decide)), ncl (by omega), eb, show nI s + 1 = nI (s + 1) from nI_add s 1]
        have hB2 := Held.letsB (l2.day e1)
        by_cases hb2 : b ≤ praised μ s c
        · rw [if_neg (fun z => by have := (nlt (by omega) (by omega)).mp z; omega), x_ones hs64, Option.bind_some]
          dsimp only
          rw [x_lets, Option.bind_some]
          dsimp only
          obtain ⟨J, j0, j1⟩ := l_dwords hO hW hc hg hb d (s + 1) g _ (by omega) (by omega) hB2
          rw [wb_take (bitf bc) fw hb2] at j0
          exact ⟨J, j0, j1⟩
        · rw [if_pos ((nlt (by omega) (by omega)).mpr (by omega)), x_lets, Option.bind_some]
          dsimp only
          rw [← wb_skip (Or.inr (Or.inr hb2))]
          exact l_dwords hO hW hc hg hb d (s + 1) g _ (by omega) (by omega) hB2
      · rw [if_pos (oc_le.mpr (bitf fw)), ← wb_skip (Or.inr (Or.inl (bitf fw)))]
        exact l_dwords hO hW hc hg hb d (s + 1) f K (by omega) (by omega) hH
theorem one_keep {I J : Nat → Nat → Int32} {x : Int32} (hI : IM I μ) (hJ : IM J μ) (h : f_D_isOne I x = 1) : f_D_isOne J x = 1 := by
  rw [← h, f_D_isOne, f_D_isOne, hJ.2.2.2, hI.2.2.2]
  rfl
theorem op_words {I : Nat → Nat → Int32} (hI : IM I μ) (hW : mOK μ) (x w : Int32) : OQ (fun J => x_G_words J x w) (fun J => x_D_words J x w) I := by
  have h66 := hW.1.1
  have h64 := pow_64 h66
  have z : ¬ (1 : Int32) = 0 := by decide
  rcases two_has hI.1 hI.2.2.2 hW x with ⟨h1, h2⟩ | ⟨k, hk, e, h1, h2⟩
  · exact OQ.same (v := -1) (by show x_G_words I x w = _; rw [x_G_words, if_pos h1]) (by show x_D_words I x w = _; rw [x_D_words, if_pos h2])
  · rcases two_out w (b := 3) (B := 3) (by omega) rfl with ⟨h3, h4⟩ | ⟨j, hj, e2, h3, h4⟩
    · exact OQ.same (v := -1) (by show x_G_words I x w = _; rw [x_G_words, h1, if_neg z, h3, if_neg z]) (by show x_D_words I x w = _; rw [x_D_words, h2, if_neg z, h4, if_pos rfl])
    · by_cases bg : (mG μ).testBit k = true
      · exact OQ.same (v := -2) (by show x_G_words I x w = _; rw [x_G_words, h1, if_neg z, h3, if_pos rfl, e, isGone_in hI.1 hW.1 hk, if_pos bg, if_neg z]) (by show x_D_words I x w = _; rw [x_D_words, h2, if_neg z, h4, if_neg z, e, isAway_in hI.2.1 hW.1 hk, if_pos bg, if_neg z])
      · obtain ⟨J, j0, j1⟩ := l_cwords (c := k) (b := j) hW hk (bitf bg) hj (2 ^ mN μ) 0 1000 I (by omega) (by omega) hI.1
        have kJ := KP.low j1
        have hJ := hI.keep kJ
        obtain ⟨K, k0, k1⟩ := l_dwords (O := J) (c := k) (b := j) hJ hW hk (bitf bg) hj (2 ^ mN μ) 0 5000 _ (by omega) (by omega) (HB.start J)
        rw [nI_0] at j0 k0
        have o1 : ov (wb μ k j 0) = -4 := rfl
        have o2 : oc (wb μ k j 0) = 99 := rfl
        rw [o1] at j0 k0
        rw [o2] at k0
        refine ⟨ov (wb μ k j (2 ^ mN μ)), J, K, ?_, ?_, kJ.trans k1.kp⟩
        · show x_G_words I x w = _
          rw [x_G_words, h1, if_neg z, h3, if_pos rfl, e, isGone_in hI.1 hW.1 hk, if_neg bg, if_pos rfl, e2, j0]
        · show x_D_words J x w = _
          rw [x_D_words, one_keep hI hJ h2, if_neg z, h4, if_neg z, e, isAway_in hJ.2.1 hW.1 hk, if_neg bg, if_pos rfl, x_holds, Option.bind_some, e2]
          exact k0
end PWords
