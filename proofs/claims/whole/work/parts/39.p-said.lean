/-! THE PURE PART: what was seen; said -/
def SA (I : Nat → Nat → Int32) : Nat → List (Nat × Nat) → Prop
  | _, [] => True
  | k, q :: r => I 17 k = nI q.1 ∧ I 18 k = nI q.2 ∧ I 71 k = nI (10 * q.1 + q.2) ∧ SA I (k + 1) r
theorem SA.congr {I J : Nat → Nat → Int32} : ∀ {l : List (Nat × Nat)} {p : Nat}, (∀ k, p ≤ k → k < p + l.length → J 17 k = I 17 k ∧ J 18 k = I 18 k ∧ J 71 k = I 71 k) → SA I p l → SA J p l
  | [], _, _, _ => trivial
  | q :: r, p, h, h2 => by
    have h3 := h p (Nat.le_refl p) (by simp)
    refine ⟨h3.1.trans h2.1, h3.2.1.trans h2.2.1, h3.2.2.trans h2.2.2.1, SA.congr (fun k h4 h5 => h k (by omega) (by simp; omega)) h2.2.2.2⟩
theorem SA.snoc {I : Nat → Nat → Int32} {q : Nat × Nat} : ∀ {l : List (Nat × Nat)} {p : Nat}, SA I p l → I 17 (p + l.length) = nI q.1 → I 18 (p + l.length) = nI q.2 → I 71 (p + l.length) = nI (10 * q.1 + q.2) → SA I p (l ++ [q])
  | [], _, _, h1, h2, h3 => ⟨h1, h2, h3, trivial⟩
  | _ :: r, p, h, h1, h2, h3 => by
    have e : p + (r.length + 1) = p + 1 + r.length := by omega
    rw [List.length_cons, e] at h1 h2 h3
    exact ⟨h.1, h.2.1, h.2.2.1, SA.snoc h.2.2.2 h1 h2 h3⟩
/-- what was seen, in both -/
def IS (I : Nat → Nat → Int32) (n : Nat) (sl : List (Nat × Nat)) : Prop := SA I 0 sl ∧ I 16 2 = nI sl.length ∧ I 63 13 = nI sl.length ∧ sl.length ≤ 6 ∧ ∀ q ∈ sl, q.1 < n ∧ q.2 ≤ 9
theorem IS.keep {I J : Nat → Nat → Int32} {n : Nat} {sl : List (Nat × Nat)} (h : IS I n sl) (k : KP I J) : IS J n sl := by
  have e : ∀ a, a = 16 ∨ a = 17 ∨ a = 18 ∨ a = 71 → J a = I a := fun a ha => k.1 a (by omega) (by omega) (by omega) (by omega) (by omega) (by omega) (by omega)
  refine ⟨SA.congr (fun x _ _ => ⟨by rw [e 17 (by omega)], by rw [e 18 (by omega)], by rw [e 71 (by omega)]⟩) h.1, ?_, ?_, h.2.2.2⟩
  · rw [e 16 (by omega)]
    exact h.2.1
  · rw [k.2.2 13 (by omega)]
    exact h.2.2.1
/-- so it is, by these fines -/
def soIs (φ : Nat → Option Nat) (sl : List (Nat × Nat)) : Bool := sl.all (fun q => decide (φ q.1 = some q.2))
/-- how fine, for whom something is ground -/
def fo (μ : MS) (g : Nat) (l : List Nat) (s i : Nat) : Option Nat := if i ∈ l ∧ i ≠ g then some (fv μ g l s i) else none
theorem l_areSo {n : Nat} {I : Nat → Nat → Int32} {φ : Nat → Option Nat} (hn : n ≤ 6) (hF : ∀ c, c < n → (I 14 c = -4 ∧ φ c = none) ∨ ∃ f, f ≤ 9 ∧ I 14 c = nI f ∧ φ c = some f) : ∀ (l : List (Nat × Nat)) (k fuel : Nat), SA I k l → I 16 2 = nI (k + l.length) → k + l.length ≤ 6 → (∀ q ∈ l, q.1 < n ∧ q.2 ≤ 9) → l.length < fuel → l_V_areSo_2 fuel I (nI k) = some (if soIs φ l = true then 1 else 0, I)
  | [], k, fuel + 1, _, hs, h6, _, _ => by
    rw [l_V_areSo_2, hs, if_pos ((nle (by simp at h6 ⊢; omega) (by simp at h6 ⊢; omega)).mpr (by simp))]
    rfl
  | q :: l, k, fuel + 1, h, hs, h6, hm, hf => by
    have hl : (q :: l).length = l.length + 1 := rfl
    rw [hl] at hs h6 hf
    have hq := hm q List.mem_cons_self
    have zk : zinb (nI k) 6 = true := nzin (by omega) (by decide)
    have ih := l_areSo hn hF l (k + 1) fuel h.2.2.2 (by rw [hs]; congr 1; omega) (by omega) (fun x hx => hm x (List.mem_cons_of_mem _ hx)) (by omega)
    rw [l_V_areSo_2, hs, if_neg (fun z => by have := (nle (by omega) (by omega)).mp z; omega), if_neg (show ¬ (6 : Int32) ≤ nI k from fun z => by have := (nle (a := 6) (by omega) (by omega)).mp z; omega)]
    simp only [zk, if_true]
    rw [ncl (by omega), h.1, h.2.1, fineOf_in (by omega), show nI k + 1 = nI (k + 1) from nI_add k 1]
    have e : soIs φ (q :: l) = (decide (φ q.1 = some q.2) && soIs φ l) := rfl
    rw [e]
    rcases hF q.1 hq.1 with ⟨h1, h2⟩ | ⟨f, hf9, h1, h2⟩
    · have : ¬ (-4 : Int32) = nI q.2 := fun z => by
        have h3 := nneg (a := q.2) (by omega)
        rw [← z] at h3
        exact h3 (by decide)
      rw [h1, if_neg this, h2]
      rfl
    · rw [h1, h2]
      by_cases hv : f = q.2
      · rw [hv, if_pos rfl, ih, decide_eq_true rfl, Bool.true_and]
      · have hv2 : ¬ (some f = some q.2) := fun y => hv (Option.some.inj y)
        rw [if_neg (fun y => hv ((neq (by omega) (by omega)).mp y)), decide_eq_false hv2, Bool.false_and]
        rfl
theorem l_isSo0 {I : Nat → Nat → Int32} {m : Nat} (hs : I 63 13 = nI m) (h6 : m ≤ 6) : ∀ (d k fuel : Nat), k + d = m → d < fuel → l_D_isSo_4 fuel I 0 (nI k) = some (0, I)
  | 0, k, fuel + 1, hk, _ => by
    rw [l_D_isSo_4, hs, if_pos ((nle (by omega) (by omega)).mpr (by omega)), if_pos (Or.inr rfl)]
  | d + 1, k, fuel + 1, hk, hf => by
    rw [l_D_isSo_4, hs, if_neg (fun z => by have := (nle (by omega) (by omega)).mp z; omega), if_pos rfl, show nI k + 1 = nI (k + 1) from nI_add k 1]
    exact l_isSo0 hs h6 d (k + 1) fuel (by omega) (by omega)
theorem l_isSo {μ : MS} {I : Nat → Nat → Int32} {φ : Nat → Option Nat} (hW : mWF μ) (hS : RS (I 68) μ) (hF : ∀ c, c < mN μ → (I 73 c = -1 ∧ φ c = none) ∨ ((mG μ).testBit c = true ∧ φ c = none) ∨ ∃ f, f ≤ 9 ∧ (mG μ).testBit c = false ∧ I 73 c = nI f ∧ φ c = some f) : ∀ (l : List (Nat × Nat)) (k fuel : Nat), SA I k l → I 63 13 = nI (k + l.length) → k + l.length ≤ 6 → (∀ q ∈ l, q.1 < mN μ ∧ q.2 ≤ 9) → l.length < fuel → l_D_isSo_4 fuel I 1 (nI k) = some (if soIs φ l = true then 1 else 0, I)
  | [], k, fuel + 1, _, hs, h6, _, _ => by
    rw [l_D_isSo_4, hs, if_pos ((nle (by simp at h6 ⊢; omega) (by simp at h6 ⊢; omega)).mpr (by simp)), if_pos (Or.inl rfl)]
    rfl
  | q :: l, k, fuel + 1, h, hs, h6, hm, hf => by
    have h66 := hW.1
    have hl : (q :: l).length = l.length + 1 := rfl
    rw [hl] at hs h6 hf
    have hq := hm q List.mem_cons_self
    have zk : zinb (nI k) 6 = true := nzin (by omega) (by decide)
    have zc : zinb (nI q.1) 6 = true := nzin (by omega) (by decide)
    have hs2 : I 63 13 = nI (k + 1 + l.length) := by rw [hs]; congr 1; omega
    have ih := l_isSo hW hS hF l (k + 1) fuel h.2.2.2 hs2 (by omega) (fun x hx => hm x (List.mem_cons_of_mem _ hx)) (by omega)
    have i0 := l_isSo0 hs2 (by omega) l.length (k + 1) fuel rfl (by omega)
    have d1 : nI (10 * q.1 + q.2) / 10 = nI q.1 := by
      have := pk_div (a := 10 * q.1 + q.2) (d := 10) (by omega) (by omega) (by omega)
      rw [show (10 * q.1 + q.2) / 10 = q.1 by omega] at this
      exact this
    have d2 : nI (10 * q.1 + q.2) - nI (10 * q.1 + q.2) / 10 * 10 = nI q.2 := by
      have := pk_rem (a := 10 * q.1 + q.2) (d := 10) (by omega) (by omega) (by omega)
      rw [show (10 * q.1 + q.2) % 10 = q.2 by omega] at this
      exact this
    rw [l_D_isSo_4, hs, if_neg (fun z => by have := (nle (by omega) (by omega)).mp z; omega), if_neg (show ¬ (1 : Int32) = 0 by decide)]
    rw [ncl (by omega), h.2.2.1, d2, d1]
    simp only [zk, zc, if_true]
    rw [isAway_in hS hW hq.1, ncl (by omega), show nI k + 1 = nI (k + 1) from nI_add k 1, i0]
    have e : soIs φ (q :: l) = (decide (φ q.1 = some q.2) && soIs φ l) := rfl
    rw [e]
    have z1 : ¬ (1 : Int32) = 0 := by decide
    have no : φ q.1 = none → (if (decide (φ q.1 = some q.2) && soIs φ l) = true then (1 : Int32) else 0) = 0 := fun y => by rw [y]; rfl
    rcases hF q.1 hq.1 with ⟨h1, h2⟩ | ⟨h1, h2⟩ | ⟨f, hf9, hb, h1, h2⟩
    · have hne : ¬ (-1 : Int32) = nI q.2 := fun z => by
        have h3 := nneg (a := q.2) (by omega)
        rw [← z] at h3
        exact h3 (by decide)
      rw [h1, if_neg hne, ite_self, no h2]
    · rw [if_pos h1, if_neg z1, no h2]
    · rw [if_neg (show ¬ (mG μ).testBit q.1 = true by rw [hb]; decide), if_pos rfl, h1, h2]
      by_cases hv : f = q.2
      · rw [hv, if_pos rfl, ih, decide_eq_true rfl, Bool.true_and]
      · have hv2 : ¬ (some f = some q.2) := fun y => hv (Option.some.inj y)
        rw [if_neg (fun y => hv ((neq (by omega) (by omega)).mp y)), decide_eq_false hv2, Bool.false_and]
        rfl
/-- the class: behind a grinding of l -/
theorem x_areSo {μ : MS} {I : Nat → Nat → Int32} {g s : Nat} {l : List Nat} {sl : List (Nat × Nat)} {F : Nat → Int32} (hn : mN μ ≤ 6) (hI : IS I (mN μ) sl) (hF : I 14 = gf (gr μ g l s).1 F) (hF4 : ∀ c, c < 6 → F c = -4) : x_V_areSo I = some (if soIs (fo μ g l s) sl = true then 1 else 0, I) := by
  have h := l_areSo (φ := fo μ g l s) (I := I) hn (fun c hc => by
    by_cases hm : c ∈ l ∧ c ≠ g
    · exact Or.inr ⟨fv μ g l s c, fv_le μ g l s c, by rw [hF]; exact fv_in μ hm.1 hm.2 _, if_pos hm⟩
    · exact Or.inl ⟨by rw [hF, fine_out μ hm, hF4 c (by omega)], if_neg hm⟩) sl 0 1000 hI.1 (by rw [Nat.zero_add]; exact hI.2.1) (by rw [Nat.zero_add]; exact hI.2.2.2.1) hI.2.2.2.2 (by have := hI.2.2.2.1; omega)
  rw [nI_0] at h
  rw [x_V_areSo]
  exact h
theorem x_isSo {μ ν : MS} {I : Nat → Nat → Int32} {g s : Nat} {l : List Nat} {sl : List (Nat × Nat)} (hW : mWF μ) (hS : RS (I 68) μ) (hI : IS I (mN μ) sl) (hF : ∀ c, c < 6 → I 73 c = if c ∈ l ∧ c ≠ g then nI (fv ν g l s c) else -1) (hl : ∀ c, c ∈ l → c ≠ g → (mG μ).testBit c = false) : x_D_isSo I = some (if soIs (fo ν g l s) sl = true then 1 else 0, I) := by
  have h66 := hW.1
  have h := l_isSo (φ := fo ν g l s) (I := I) hW hS (fun c hc => by
    by_cases hm : c ∈ l ∧ c ≠ g
    · exact Or.inr (Or.inr ⟨fv ν g l s c, fv_le ν g l s c, hl c hm.1 hm.2, by rw [hF c (by omega), if_pos hm], if_pos hm⟩)
    · exact Or.inl ⟨by rw [hF c (by omega), if_neg hm], if_neg hm⟩) sl 0 1000 hI.1 (by rw [Nat.zero_add]; exact hI.2.2.1) (by rw [Nat.zero_add]; exact hI.2.2.2.1) hI.2.2.2.2 (by have := hI.2.2.2.1; omega)
  rw [nI_0] at h
  rw [x_D_isSo]
  exact h
/-! the trial -/
theorem x_copy8 {I : Nat → Nat → Int32} {μ : MS} (hR : RC I 4 5 6 7 μ) (hN : mN μ ≤ 6) : ∃ J, x_M_copy 8 9 10 11 4 5 6 7 I = some (0, J) ∧ RC J 8 9 10 11 μ ∧ ∀ a, ¬ (8 ≤ a ∧ a ≤ 11) → J a = I a := by
  refine ⟨_, rfl, ⟨?_, ?_, ?_, ?_, ?_, ?_, ?_⟩, ?_⟩
  · rw [zui_self, pk_un (by decide), zui_self, pk_un (by decide), zui_self, pk_un (by decide), zui_self, pk_us]
    exact hR.1
  · intro k hk
    rw [zui_ne _ _ _ (by decide), zui_ne _ _ _ (by decide), zui_ne _ _ _ (by decide), zui_ne _ _ _ (by decide), zrow_ne _ _ (by decide), zrow_ne _ _ (by decide), zrow_self, pk_cpy_in (by omega) (by omega)]
    rw [Nat.zero_add, Nat.sub_zero]
    exact hR.2.1 k hk
  · intro k hk
    rw [zui_ne _ _ _ (by decide), zui_ne _ _ _ (by decide), zui_ne _ _ _ (by decide), zui_ne _ _ _ (by decide), zrow_ne _ _ (by decide), zrow_self, pk_cpy_in (by omega) (by omega)]
    rw [Nat.zero_add, Nat.sub_zero]
    exact hR.2.2.1 k hk
  · intro i j hi hj
    rw [zui_ne _ _ _ (by decide), zui_ne _ _ _ (by decide), zui_ne _ _ _ (by decide), zui_ne _ _ _ (by decide), zrow_self, pk_cpy_in (by omega) (by omega)]
    rw [Nat.zero_add, Nat.sub_zero]
    exact hR.2.2.2.1 i j hi hj
  · rw [zui_self, pk_un (by decide), zui_self, pk_un (by decide), zui_self, pk_us]
    exact hR.2.2.2.2.1
  · rw [zui_self, pk_un (by decide), zui_self, pk_us]
    exact hR.2.2.2.2.2.1
  · rw [zui_self, pk_us]
    exact hR.2.2.2.2.2.2
  · intro a ha
    rw [zui_ne _ _ _ (by omega), zui_ne _ _ _ (by omega), zui_ne _ _ _ (by omega), zui_ne _ _ _ (by omega), zrow_ne _ _ (by omega), zrow_ne _ _ (by omega), zrow_ne _ _ (by omega)]
/-- the same mill where i says v of j -/
def setT (μ : MS) (i j v : Nat) : MS := (mN μ, mK μ, mL μ, fun a b => if a = i ∧ b = j then v else mT μ a b, mG μ, mS μ, mD μ)
theorem setT_wf {μ : MS} {i j v : Nat} (h : mWF μ) (hv : v ≤ 6) : mWF (setT μ i j v) := by
  refine ⟨h.1, h.2.1, h.2.2.1, h.2.2.2.1, ?_, h.2.2.2.2.2.1, h.2.2.2.2.2.2⟩
  intro a b ha hb
  show (if a = i ∧ b = j then v else mT μ a b) ≤ 6
  split
  · exact hv
  · exact h.2.2.2.2.1 a b ha hb
theorem g_setT {I : Nat → Nat → Int32} {m mk ml mt : Nat} {μ : MS} {i j v : Nat} (hR : RC I m mk ml mt μ) (hN : mN μ ≤ 6) (hi : i < mN μ) (hj : j < mN μ) (hd : mt ≠ m ∧ mt ≠ mk ∧ mt ≠ ml) : RC (g_M_setWord m mk ml mt I (nI i) (nI j) (nI v)) m mk ml mt (setT μ i j v) ∧ g_M_setWord m mk ml mt I (nI i) (nI j) (nI v) = zui I mt (i * 6 + j) (nI v) := by
  have e : nI i * 6 + nI j = nI (i * 6 + j) := by rw [show (6 : Int32) = nI 6 from rfl, pk_mul, nI_add]
  have e2 : g_M_setWord m mk ml mt I (nI i) (nI j) (nI v) = zui I mt (i * 6 + j) (nI v) := by
    rw [g_M_setWord, e, guard_in (g := fun x => zui I mt x (nI v)) (N := 36) (by omega) (by decide)]
  refine ⟨?_, e2⟩
  rw [e2]
  refine ⟨?_, ?_, ?_, ?_, ?_, ?_, ?_⟩
  · rw [zui_ne _ _ _ hd.1.symm]
    exact hR.1
  · rw [zui_ne _ _ _ hd.2.1.symm]
    exact hR.2.1
  · rw [zui_ne _ _ _ hd.2.2.symm]
    exact hR.2.2.1
  · intro a b ha hb
    have ha2 : a < mN μ := ha
    have hb2 : b < mN μ := hb
    rw [zui_self]
    show upd (I mt) (i * 6 + j) (nI v) (a * 6 + b) = nI (if a = i ∧ b = j then v else mT μ a b)
    by_cases h : a = i ∧ b = j
    · rw [if_pos h, h.1, h.2, pk_us]
    · rw [if_neg h, pk_un (by omega)]
      exact hR.2.2.2.1 a b ha2 hb2
  · rw [zui_ne _ _ _ hd.1.symm]
    exact hR.2.2.2.2.1
  · rw [zui_ne _ _ _ hd.1.symm]
    exact hR.2.2.2.2.2.1
  · rw [zui_ne _ _ _ hd.1.symm]
    exact hR.2.2.2.2.2.2
theorem d_setT {F : Nat → Int32} {μ : MS} {i j v : Nat} (hS : RS F μ) (hN : mN μ ≤ 6) (hi : i < mN μ) (hj : j < mN μ) : RS (upd F (6 + 6 * i + j) (nI v)) (setT μ i j v) := by
  refine ⟨?_, ?_, ?_, ?_, ?_⟩
  · intro p hp
    have hp2 : p < mN μ := hp
    rw [pk_un (by omega)]
    exact hS.1 p hp
  · intro a b ha hb
    have ha2 : a < mN μ := ha
    have hb2 : b < mN μ := hb
    show upd F (6 + 6 * i + j) (nI v) (6 + 6 * a + b) = nI (if a = i ∧ b = j then v else mT μ a b)
    by_cases h : a = i ∧ b = j
    · rw [if_pos h, h.1, h.2, pk_us]
    · rw [if_neg h, pk_un (by omega)]
      exact hS.2.1 a b ha2 hb2
  · rw [pk_un (by omega)]
    exact hS.2.2.1
  · rw [pk_un (by omega)]
    exact hS.2.2.2.1
  · rw [pk_un (by omega)]
    exact hS.2.2.2.2
