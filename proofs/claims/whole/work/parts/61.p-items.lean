/-! THE PURE PART: the items of a text, in the class -/
/-- one more customer; the stone -/
def addC (δ : MS) (v : Nat) : MS := (mN δ + 1, fun k => if k = mN δ then v else mK δ k, mL δ, mT δ, mG δ, mS δ, mD δ)
def setS (δ : MS) (v : Nat) : MS := (mN δ, mK δ, mL δ, mT δ, mG δ, v, mD δ)
def itm (tx : Nat → Nat) (n : Nat) (δ : MS) (p : Nat) : Option (MS × Nat) := if lt0 tx n p = 111 then (match num tx n (p + 1) 44 with
    | none => none
    | some q1 => (match num tx n q1.2 44 with
      | none => none
      | some q2 => (match num tx n q2.2 59 with
        | none => none
        | some q3 => if q1.1 < mN δ ∧ q2.1 < mN δ ∧ q1.1 ≠ q2.1 ∧ q3.1 ≤ 6 then some (setT δ q1.1 q2.1 q3.1, q3.2) else none)))
  else (match num tx n (p + 1) 59 with
    | none => none
    | some q => if lt0 tx n p = 97 then (if q.1 < mN δ then some (setG δ (mG δ ||| 2 ^ q.1), q.2) else none) else if lt0 tx n p = 99 then (if mN δ < 6 ∧ q.1 ≤ 4 then some (addC δ q.1, q.2) else none) else if lt0 tx n p = 115 then (if q.1 ≤ 9 then some (setS δ q.1, q.2) else none) else none)
/-- a mill as it is read -/
def dWF (δ : MS) : Prop := mN δ ≤ 6 ∧ (∀ k, k < mN δ → mK δ k ≤ 4) ∧ (∀ k, mL δ k = k) ∧ (∀ i j, i < 6 → j < 6 → mT δ i j ≤ 6) ∧ mG δ < 2 ^ mN δ ∧ mS δ ≤ 9 ∧ mD δ = 0
theorem dWF.ok {δ : MS} (h : dWF δ) (h1 : 1 ≤ mN δ) : mOK δ := by
  have h6 := h.1
  refine ⟨⟨h.1, h.2.1, fun k hk => by rw [h.2.2.1]; exact hk, fun a b _ _ e => by rw [h.2.2.1, h.2.2.1] at e; exact e, fun i j hi hj => h.2.2.2.1 i j (by omega) (by omega), h.2.2.2.2.1, h.2.2.2.2.2.1⟩, fun c hc => ⟨c, hc, h.2.2.1 c⟩, h1⟩
theorem addC_wf {δ : MS} {v : Nat} (h : dWF δ) (h6 : mN δ < 6) (hv : v ≤ 4) : dWF (addC δ v) := by
  refine ⟨h6, fun k hk => ?_, h.2.2.1, h.2.2.2.1, ?_, h.2.2.2.2.2.1, h.2.2.2.2.2.2⟩
  · show (if k = mN δ then v else mK δ k) ≤ 4
    have hk2 : k < mN δ + 1 := hk
    split
    · exact hv
    · exact h.2.1 k (by omega)
  · show mG δ < 2 ^ (mN δ + 1)
    have := h.2.2.2.2.1
    rw [Nat.pow_succ]
    omega
theorem dT_wf {δ : MS} {i j v : Nat} (h : dWF δ) (hv : v ≤ 6) : dWF (setT δ i j v) := by
  refine ⟨h.1, h.2.1, h.2.2.1, fun a b ha hb => ?_, h.2.2.2.2.1, h.2.2.2.2.2.1, h.2.2.2.2.2.2⟩
  show (if a = i ∧ b = j then v else mT δ a b) ≤ 6
  split
  · exact hv
  · exact h.2.2.2.1 a b ha hb
theorem dG_wf {δ : MS} {c : Nat} (h : dWF δ) (hc : c < mN δ) : dWF (setG δ (mG δ ||| 2 ^ c)) := ⟨h.1, h.2.1, h.2.2.1, h.2.2.2.1, orlt h.2.2.2.2.1 hc, h.2.2.2.2.2.1, h.2.2.2.2.2.2⟩
theorem dS_wf {δ : MS} {v : Nat} (h : dWF δ) (hv : v ≤ 9) : dWF (setS δ v) := ⟨h.1, h.2.1, h.2.2.1, h.2.2.2.1, h.2.2.2.2.1, hv, h.2.2.2.2.2.2⟩
theorem itm_wf {tx : Nat → Nat} {n : Nat} {δ : MS} {p : Nat} {w : MS × Nat} (h : dWF δ) (e : itm tx n δ p = some w) : dWF w.1 ∧ p < w.2 ∧ w.2 ≤ n := by
  unfold itm at e
  split at e
  · cases h1 : num tx n (p + 1) 44 with
    | none => rw [h1] at e; cases e
    | some q1 =>
      rw [h1] at e
      dsimp only at e
      have l1 := num_le h1 (by decide)
      cases h2 : num tx n q1.2 44 with
      | none => rw [h2] at e; cases e
      | some q2 =>
        rw [h2] at e
        dsimp only at e
        have l2 := num_le h2 (by decide)
        cases h3 : num tx n q2.2 59 with
        | none => rw [h3] at e; cases e
        | some q3 =>
          rw [h3] at e
          dsimp only at e
          have l3 := num_le h3 (by decide)
          split at e
          · next c => cases e; exact ⟨dT_wf h c.2.2.2, by show p < q3.2; omega, l3.2.2⟩
          · cases e
  · cases h1 : num tx n (p + 1) 59 with
    | none => rw [h1] at e; cases e
    | some q =>
      rw [h1] at e
      dsimp only at e
      have l1 := num_le h1 (by decide)
      split at e
      · split at e
        · next c => cases e; exact ⟨dG_wf h c, by show p < q.2; omega, l1.2.2⟩
        · cases e
      · split at e
        · split at e
          · next c => cases e; exact ⟨addC_wf h c.1 c.2, by show p < q.2; omega, l1.2.2⟩
          · cases e
        · split at e
          · split at e
            · next c => cases e; exact ⟨dS_wf h c, by show p < q.2; omega, l1.2.2⟩
            · cases e
          · cases e
/-- the mill being read, in the class -/
def DC (I : Nat → Nat → Int32) (m mk ml mt : Nat) (δ : MS) : Prop := I m 3 = nI (mN δ) ∧ (∀ k, k < mN δ → I mk k = nI (mK δ k)) ∧ (∀ k, k < mN δ → I ml k = nI k) ∧ (∀ i j, i < 6 → j < 6 → I mt (i * 6 + j) = nI (mT δ i j)) ∧ I m 4 = nI (mG δ) ∧ I m 5 = nI (mS δ) ∧ I m 6 = 0
theorem DC.congr {I J : Nat → Nat → Int32} {m mk ml mt : Nat} {δ : MS} (h : DC I m mk ml mt δ) (h1 : J m = I m) (h2 : J mk = I mk) (h3 : J ml = I ml) (h4 : J mt = I mt) : DC J m mk ml mt δ := by
  unfold DC
  rw [h1, h2, h3, h4]
  exact h
theorem DC.rc {I : Nat → Nat → Int32} {m mk ml mt : Nat} {δ : MS} (h : DC I m mk ml mt δ) (hw : dWF δ) : RC I m mk ml mt δ := by
  have h6 := hw.1
  refine ⟨h.1, h.2.1, fun k hk => by rw [hw.2.2.1]; exact h.2.2.1 k hk, fun i j hi hj => h.2.2.2.1 i j (by omega) (by omega), h.2.2.2.2.1, h.2.2.2.2.2.1, by rw [h.2.2.2.2.2.2, hw.2.2.2.2.2.2]; rfl⟩
def mDi (m mk ml mt : Nat) : Prop := (4 ≤ m ∧ 4 ≤ mk ∧ 4 ≤ ml ∧ 4 ≤ mt) ∧ (mk ≠ m ∧ ml ≠ m ∧ mt ≠ m ∧ mk ≠ ml ∧ mk ≠ mt ∧ ml ≠ mt)
/-- only the reader and the mill are other -/
def FrM (m mk ml mt : Nat) (I J : Nat → Nat → Int32) : Prop := (∀ a, a ≠ 1 → a ≠ 3 → a ≠ m → a ≠ mk → a ≠ ml → a ≠ mt → J a = I a) ∧ ∀ j, j ≠ 3 → J 1 j = I 1 j
section PItems
variable {I : Nat → Nat → Int32} {n : Nat} {tx : Nat → Nat} {m mk ml mt : Nat} {δ : MS}
theorem Fr.frm {J : Nat → Nat → Int32} (h : Fr I J) : FrM m mk ml mt I J := ⟨fun a h1 h3 _ _ _ _ => h.1 a h1 h3, h.2⟩
theorem FrM.trans {J K : Nat → Nat → Int32} (h : FrM m mk ml mt I J) (k : FrM m mk ml mt J K) : FrM m mk ml mt I K := ⟨fun a h1 h2 h3 h4 h5 h6 => (k.1 a h1 h2 h3 h4 h5 h6).trans (h.1 a h1 h2 h3 h4 h5 h6), fun j hj => (k.2 j hj).trans (h.2 j hj)⟩
theorem has_d {W : Nat → Nat → Int32} (hD : DC W m mk ml mt δ) (h6 : mN δ ≤ 6) {v : Nat} (hv : v ≤ 99) : f_M_has m mk ml mt W (nI v) = if v < mN δ then 1 else 0 := by
  rw [f_M_has, if_neg (nneg (by omega)), hD.1]
  by_cases c : v < mN δ
  · rw [if_neg (fun z => by have := (nle (by omega) (by omega)).mp z; omega), if_pos c]
  · rw [if_pos ((nle (by omega) (by omega)).mpr (by omega)), if_neg c]
theorem out_d {W : Nat → Nat → Int32} {v b : Nat} (hv : v ≤ 99) (hb : b ≤ 99) : f_G_isOutside W (nI v) (nI b) = if v ≤ b then 0 else 1 := by
  rw [f_G_isOutside, if_neg (nneg (by omega))]
  by_cases c : v ≤ b
  · rw [if_pos ((nle (by omega) (by omega)).mpr c), if_pos c]
  · rw [if_neg (fun z => c ((nle (by omega) (by omega)).mp z)), if_neg c]
theorem gone_d {W : Nat → Nat → Int32} (hD : DC W m mk ml mt δ) (hw : dWF δ) (hm : mDi m mk ml mt) {v : Nat} (hv : v ≤ 99) : f_M_tellGone m mk ml mt W (nI v) = (if v < mN δ then 1 else 0) ∧ FrM m mk ml mt W (g_M_tellGone m mk ml mt W (nI v)) ∧ (g_M_tellGone m mk ml mt W (nI v)) 1 = W 1 ∧ (v < mN δ → DC (g_M_tellGone m mk ml mt W (nI v)) m mk ml mt (setG δ (mG δ ||| 2 ^ v))) := by
  have h6 := hw.1
  obtain ⟨m1, m2⟩ := hm
  rw [f_M_tellGone, g_M_tellGone, has_d hD h6 hv]
  by_cases c : v < mN δ
  · have e : zui W m 4 (W m 4 ||| (1 <<< (nI v &&& 31))) = zui W m 4 (nI (mG δ ||| 2 ^ v)) := by rw [hD.2.2.2.2.1, nsh1 v (by omega), fa_or]
    rw [if_pos c, if_neg (by decide), if_neg (by decide), e]
    refine ⟨rfl, ⟨fun a _ _ h3 _ _ _ => zui_ne _ _ _ h3, fun j _ => by rw [zui_ne _ _ _ (by omega)]⟩, zui_ne _ _ _ (by omega), fun _ => ?_⟩
    refine ⟨?_, ?_, ?_, ?_, ?_, ?_, ?_⟩
    · rw [zui_self, pk_un (by decide)]
      exact hD.1
    · rw [zui_ne _ _ _ m2.1]
      exact hD.2.1
    · rw [zui_ne _ _ _ m2.2.1]
      exact hD.2.2.1
    · rw [zui_ne _ _ _ m2.2.2.1]
      exact hD.2.2.2.1
    · rw [zui_self, pk_us]
      rfl
    · rw [zui_self, pk_un (by decide)]
      exact hD.2.2.2.2.2.1
    · rw [zui_self, pk_un (by decide)]
      exact hD.2.2.2.2.2.2
  · rw [if_neg c, if_pos rfl, if_pos rfl]
    exact ⟨rfl, ⟨fun _ _ _ _ _ _ _ => rfl, fun _ _ => rfl⟩, rfl, fun z => absurd z c⟩
theorem stone_d {W : Nat → Nat → Int32} (hD : DC W m mk ml mt δ) (hm : mDi m mk ml mt) {v : Nat} (hv : v ≤ 99) : f_M_tellStone m mk ml mt W (nI v) = (if v ≤ 9 then 1 else 0) ∧ FrM m mk ml mt W (g_M_tellStone m mk ml mt W (nI v)) ∧ (g_M_tellStone m mk ml mt W (nI v)) 1 = W 1 ∧ (v ≤ 9 → DC (g_M_tellStone m mk ml mt W (nI v)) m mk ml mt (setS δ v)) := by
  obtain ⟨m1, m2⟩ := hm
  rw [f_M_tellStone, g_M_tellStone, show (9 : Int32) = nI 9 from rfl, out_d hv (by omega)]
  by_cases c : v ≤ 9
  · rw [if_pos c, if_pos c, if_pos rfl, if_pos rfl]
    refine ⟨rfl, ⟨fun a _ _ h3 _ _ _ => zui_ne _ _ _ h3, fun j _ => by rw [zui_ne _ _ _ (by omega)]⟩, zui_ne _ _ _ (by omega), fun _ => ?_⟩
    refine ⟨?_, ?_, ?_, ?_, ?_, ?_, ?_⟩
    · rw [zui_self, pk_un (by decide)]
      exact hD.1
    · rw [zui_ne _ _ _ m2.1]
      exact hD.2.1
    · rw [zui_ne _ _ _ m2.2.1]
      exact hD.2.2.1
    · rw [zui_ne _ _ _ m2.2.2.1]
      exact hD.2.2.2.1
    · rw [zui_self, pk_un (by decide)]
      exact hD.2.2.2.2.1
    · rw [zui_self, pk_us]
      rfl
    · rw [zui_self, pk_un (by decide)]
      exact hD.2.2.2.2.2.2
  · rw [if_neg c, if_neg c, if_neg (by decide), if_neg (by decide)]
    exact ⟨rfl, ⟨fun _ _ _ _ _ _ _ => rfl, fun _ _ => rfl⟩, rfl, fun z => absurd z c⟩
theorem add_d {W : Nat → Nat → Int32} (hD : DC W m mk ml mt δ) (hw : dWF δ) (hm : mDi m mk ml mt) {v : Nat} (hv : v ≤ 99) : f_M_addCustomer m mk ml mt W (nI v) = (if mN δ < 6 ∧ v ≤ 4 then 1 else 0) ∧ FrM m mk ml mt W (g_M_addCustomer m mk ml mt W (nI v)) ∧ (g_M_addCustomer m mk ml mt W (nI v)) 1 = W 1 ∧ (mN δ < 6 ∧ v ≤ 4 → DC (g_M_addCustomer m mk ml mt W (nI v)) m mk ml mt (addC δ v)) := by
  have h6 := hw.1
  obtain ⟨m1, m2⟩ := hm
  have a1 : ¬ nI (mN δ) < 0 := nneg (by omega)
  have a2 : ¬ nI v < 0 := nneg (by omega)
  rw [f_M_addCustomer, g_M_addCustomer, hD.1]
  simp only [if_neg a1, if_neg a2]
  by_cases c1 : mN δ < 6
  · rw [if_neg (show ¬ (6 : Int32) ≤ nI (mN δ) from fun z => by have := (nle (a := 6) (by omega) (by omega)).mp z; omega), if_neg (show ¬ (6 : Int32) ≤ nI (mN δ) from fun z => by have := (nle (a := 6) (by omega) (by omega)).mp z; omega), ncl (by omega), show nI (mN δ) + 1 = nI (mN δ + 1) from nI_add _ 1]
    by_cases c2 : v ≤ 4
    · rw [if_pos (show nI v ≤ 4 from (nle (b := 4) (by omega) (by omega)).mpr c2), if_pos (show nI v ≤ 4 from (nle (b := 4) (by omega) (by omega)).mpr c2), if_pos ⟨c1, c2⟩]
      refine ⟨rfl, ⟨fun a _ _ h3 h4 h5 _ => by rw [zui_ne _ _ _ h3, zui_ne _ _ _ h5, zui_ne _ _ _ h4], fun j _ => by rw [zui_ne _ _ _ (by omega), zui_ne _ _ _ (by omega), zui_ne _ _ _ (by omega)]⟩, by rw [zui_ne _ _ _ (by omega), zui_ne _ _ _ (by omega), zui_ne _ _ _ (by omega)], fun _ => ?_⟩
      refine ⟨?_, ?_, ?_, ?_, ?_, ?_, ?_⟩
      · rw [zui_self, pk_us]
        rfl
      · intro k hk
        have hk2 : k < mN δ + 1 := hk
        rw [zui_ne _ _ _ m2.1, zui_ne _ _ _ m2.2.2.2.1, zui_self]
        show upd (W mk) (mN δ) (nI v) k = nI (if k = mN δ then v else mK δ k)
        by_cases c : k = mN δ
        · rw [c, pk_us, if_pos rfl]
        · rw [pk_un c, if_neg c]
          exact hD.2.1 k (by omega)
      · intro k hk
        have hk2 : k < mN δ + 1 := hk
        rw [zui_ne _ _ _ m2.2.1, zui_self, zui_ne _ _ _ m2.2.2.2.1.symm]
        by_cases c : k = mN δ
        · rw [c, pk_us]
        · rw [pk_un c]
          exact hD.2.2.1 k (by omega)
      · rw [zui_ne _ _ _ m2.2.2.1, zui_ne _ _ _ m2.2.2.2.2.2.symm, zui_ne _ _ _ m2.2.2.2.2.1.symm]
        exact hD.2.2.2.1
      · rw [zui_self, pk_un (by decide), zui_ne _ _ _ m2.2.1.symm, zui_ne _ _ _ m2.1.symm]
        exact hD.2.2.2.2.1
      · rw [zui_self, pk_un (by decide), zui_ne _ _ _ m2.2.1.symm, zui_ne _ _ _ m2.1.symm]
        exact hD.2.2.2.2.2.1
      · rw [zui_self, pk_un (by decide), zui_ne _ _ _ m2.2.1.symm, zui_ne _ _ _ m2.1.symm]
        exact hD.2.2.2.2.2.2
    · rw [if_neg (show ¬ nI v ≤ 4 from fun z => c2 ((nle (b := 4) (by omega) (by omega)).mp z)), if_neg (show ¬ nI v ≤ 4 from fun z => c2 ((nle (b := 4) (by omega) (by omega)).mp z)), if_neg (fun z => c2 z.2)]
      exact ⟨rfl, ⟨fun _ _ _ _ _ _ _ => rfl, fun _ _ => rfl⟩, rfl, fun z => absurd z.2 c2⟩
  · rw [if_pos (show (6 : Int32) ≤ nI (mN δ) from (nle (a := 6) (by omega) (by omega)).mpr (by omega)), if_pos (show (6 : Int32) ≤ nI (mN δ) from (nle (a := 6) (by omega) (by omega)).mpr (by omega)), if_neg (fun z => c1 z.1)]
    exact ⟨rfl, ⟨fun _ _ _ _ _ _ _ => rfl, fun _ _ => rfl⟩, rfl, fun z => absurd z.1 c1⟩
theorem word_d {W : Nat → Nat → Int32} (hD : DC W m mk ml mt δ) (hw : dWF δ) (hm : mDi m mk ml mt) {a b v : Nat} (ha : a ≤ 99) (hb : b ≤ 99) (hv : v ≤ 99) : f_M_tellWord m mk ml mt W (nI a) (nI b) (nI v) = (if a < mN δ ∧ b < mN δ ∧ a ≠ b ∧ v ≤ 6 then 1 else 0) ∧ FrM m mk ml mt W (g_M_tellWord m mk ml mt W (nI a) (nI b) (nI v)) ∧ (g_M_tellWord m mk ml mt W (nI a) (nI b) (nI v)) 1 = W 1 ∧ (a < mN δ ∧ b < mN δ ∧ a ≠ b ∧ v ≤ 6 → DC (g_M_tellWord m mk ml mt W (nI a) (nI b) (nI v)) m mk ml mt (setT δ a b v)) := by
  have h6 := hw.1
  obtain ⟨m1, m2⟩ := hm
  have eab : nI a = nI b ↔ a = b := neq (by omega) (by omega)
  rw [f_M_tellWord, g_M_tellWord, has_d hD h6 ha, has_d hD h6 hb, show (6 : Int32) = nI 6 from rfl, out_d hv (by omega)]
  have z1 : ¬ (1 : Int32) = 0 := by decide
  simp only [eab]
  by_cases c1 : a < mN δ
  · simp only [if_pos c1, if_neg z1]
    by_cases c2 : b < mN δ
    · simp only [if_pos c2, if_neg z1]
      by_cases c3 : a = b
      · simp only [if_pos c3]
        rw [if_neg (fun z => z.2.2.1 c3)]
        exact ⟨rfl, ⟨fun _ _ _ _ _ _ _ => rfl, fun _ _ => rfl⟩, trivial, fun z => absurd c3 z.2.2.1⟩
      · simp only [if_neg c3]
        by_cases c4 : v ≤ 6
        · simp only [if_pos c4, if_true]
          rw [if_pos ⟨c1, c2, c3, c4⟩]
          have e : nI a * nI 6 + nI b = nI (a * 6 + b) := by rw [pk_mul, nI_add]
          have e2 : g_M_setWord m mk ml mt W (nI a) (nI b) (nI v) = zui W mt (a * 6 + b) (nI v) := by
            rw [g_M_setWord, show (6 : Int32) = nI 6 from rfl, e, guard_in (g := fun x => zui W mt x (nI v)) (N := 36) (by omega) (by decide)]
          rw [e2]
          refine ⟨rfl, ⟨fun x _ _ _ _ _ h3 => zui_ne _ _ _ h3, fun j _ => by rw [zui_ne _ _ _ (by omega)]⟩, zui_ne _ _ _ (by omega), fun _ => ?_⟩
          refine ⟨?_, ?_, ?_, ?_, ?_, ?_, ?_⟩
          · rw [zui_ne _ _ _ m2.2.2.1.symm]
            exact hD.1
          · rw [zui_ne _ _ _ m2.2.2.2.2.1]
            exact hD.2.1
          · rw [zui_ne _ _ _ m2.2.2.2.2.2]
            exact hD.2.2.1
          · intro i j hi hj
            rw [zui_self]
            show upd (W mt) (a * 6 + b) (nI v) (i * 6 + j) = nI (if i = a ∧ j = b then v else mT δ i j)
            by_cases c : i = a ∧ j = b
            · rw [if_pos c, c.1, c.2, pk_us]
            · rw [if_neg c, pk_un (by omega)]
              exact hD.2.2.2.1 i j hi hj
          · rw [zui_ne _ _ _ m2.2.2.1.symm]
            exact hD.2.2.2.2.1
          · rw [zui_ne _ _ _ m2.2.2.1.symm]
            exact hD.2.2.2.2.2.1
          · rw [zui_ne _ _ _ m2.2.2.1.symm]
            exact hD.2.2.2.2.2.2
        · simp only [if_neg c4, if_neg z1]
          rw [if_neg (fun z => c4 z.2.2.2)]
          exact ⟨rfl, ⟨fun _ _ _ _ _ _ _ => rfl, fun _ _ => rfl⟩, trivial, fun z => absurd z.2.2.2 c4⟩
    · simp only [if_neg c2, if_true]
      rw [if_neg (fun z => c2 z.2.1)]
      exact ⟨rfl, ⟨fun _ _ _ _ _ _ _ => rfl, fun _ _ => rfl⟩, trivial, fun z => absurd z.2.1 c2⟩
  · simp only [if_neg c1, if_true]
    rw [if_neg (fun z => c1 z.1)]
    exact ⟨rfl, ⟨fun _ _ _ _ _ _ _ => rfl, fun _ _ => rfl⟩, trivial, fun z => absurd z.1 c1⟩
/-- what an item comes to, as told -/
def told (I : Nat → Nat → Int32) (m mk ml mt : Nat) (o : Option (MS × Nat)) (x : Option (Int32 × (Nat → Nat → Int32))) : Prop := match o with
  | none => ∃ J, x = some (0, J) ∧ FrM m mk ml mt I J
  | some w => ∃ J, x = some (1, J) ∧ FrM m mk ml mt I J ∧ DC J m mk ml mt w.1 ∧ J 1 3 = nI w.2
theorem told_if {W G : Nat → Nat → Int32} {f : Int32} {P : Prop} [Decidable P] {ν : MS} {s : Nat} (hf : f = if P then 1 else 0) (h1 : FrM m mk ml mt I W) (h2 : FrM m mk ml mt W G) (h3 : G 1 = W 1) (h4 : P → DC G m mk ml mt ν) (h5 : W 1 3 = nI s) : told I m mk ml mt (if P then some (ν, s) else none) (some (f, G)) := by
  by_cases c : P
  · rw [if_pos c] at hf ⊢
    exact ⟨G, by rw [hf], h1.trans h2, h4 c, by rw [h3]; exact h5⟩
  · rw [if_neg c] at hf ⊢
    exact ⟨G, by rw [hf], h1.trans h2⟩
theorem x_item_c (hm : mDi m mk ml mt) (h : TC I n tx) {p : Nat} (hp : p < n) (hat : I 1 3 = nI p) (hD : DC I m mk ml mt δ) (hw : dWF δ) : told I m mk ml mt (itm tx n δ p) (x_S_readItem m mk ml mt I) := by
  have h200 := h.2.1
  have m1 := hm.1
  have eW : zui I 1 3 (nI (p + 1)) = WR I (p + 1) (I 3) := by
    funext a
    by_cases h3 : a = 3
    · rw [h3, WR_3, zui_ne _ _ _ (by decide)]
    · rw [WR, zrow_ne _ _ h3]
  have hl := lt0_le h p
  have el : f_S_letterAt I (I 1 3) = nI (lt0 tx n p) := by rw [hat]; exact letter_c h (by omega)
  have ek : ∀ v : Nat, v ≤ 126 → (nI (lt0 tx n p) = nI v ↔ lt0 tx n p = v) := fun v hv => neq (by omega) (by omega)
  have k111 : (nI (lt0 tx n p) = 111) ↔ lt0 tx n p = 111 := ek 111 (by decide)
  have k97 : (nI (lt0 tx n p) = 97) ↔ lt0 tx n p = 97 := ek 97 (by decide)
  have k99 : (nI (lt0 tx n p) = 99) ↔ lt0 tx n p = 99 := ek 99 (by decide)
  have k115 : (nI (lt0 tx n p) = 115) ↔ lt0 tx n p = 115 := ek 115 (by decide)
  have DW : ∀ s F, DC (WR I s F) m mk ml mt δ := fun s F => hD.congr (WR_ne (by omega) (by omega)) (WR_ne (by omega) (by omega)) (WR_ne (by omega) (by omega)) (WR_ne (by omega) (by omega))
  have z1 : ¬ (1 : Int32) = 0 := by decide
  rw [x_S_readItem, el, hat, show nI p + 1 = nI (p + 1) from nI_add p 1, eW, itm]
  simp only [k111, k97, k99, k115]
  by_cases c111 : lt0 tx n p = 111
  · rw [if_pos c111, if_pos c111]
    have n97 : ¬ lt0 tx n p = 97 := by omega
    have n99 : ¬ lt0 tx n p = 99 := by omega
    obtain ⟨na, nb⟩ := nums3 (I := I) (F := I 3) (p := p + 1) h (by omega)
    have bad : (num tx n (p + 1) 44 = none ∨ (∃ q1, num tx n (p + 1) 44 = some q1 ∧ (num tx n q1.2 44 = none ∨ ∃ q2, num tx n q1.2 44 = some q2 ∧ num tx n q2.2 59 = none))) → ∀ G : (Int32 × (Nat → Nat → Int32)) → Option (Int32 × (Nat → Nat → Int32)), (∀ J, G (0, J) = some (0, J)) → told I m mk ml mt none ((x_S_readNumbers (WR I (p + 1) (I 3)) 3).bind G) := by
      intro y G hG
      obtain ⟨J, j0, j1⟩ := na y
      rw [j0, Option.bind_some, hG]
      exact ⟨J, rfl, j1.frm⟩
    cases e1 : num tx n (p + 1) 44 with
    | none => exact bad (Or.inl e1) _ (fun J => if_pos rfl)
    | some q1 =>
      dsimp only
      have l1 := num_le e1 (by decide)
      cases e2 : num tx n q1.2 44 with
      | none => exact bad (Or.inr ⟨q1, e1, Or.inl e2⟩) _ (fun J => if_pos rfl)
      | some q2 =>
        dsimp only
        have l2 := num_le e2 (by decide)
        cases e3 : num tx n q2.2 59 with
        | none => exact bad (Or.inr ⟨q1, e1, Or.inr ⟨q2, e2, e3⟩⟩) _ (fun J => if_pos rfl)
        | some q3 =>
          dsimp only
          have l3 := num_le e3 (by decide)
          rw [nb q1 q2 q3 e1 e2 e3, Option.bind_some]
          dsimp only
          rw [if_neg z1, if_neg n97, if_neg n99, if_pos c111, WR_3, pk_us, pk_un (show 1 ≠ 2 by decide), pk_us, pk_un (show 0 ≠ 2 by decide), pk_un (show 0 ≠ 1 by decide), pk_us]
          obtain ⟨d1, d2, d3, d4⟩ := word_d (DW q3.2 (upd (upd (upd (I 3) 0 (nI q1.1)) 1 (nI q2.1)) 2 (nI q3.1))) hw hm l1.1 l2.1 l3.1
          exact told_if d1 (WR_fr _ _).frm d2 d3 d4 WR_13
  · rw [if_neg c111, if_neg c111]
    obtain ⟨na, nb⟩ := nums1 (I := I) (F := I 3) (p := p + 1) h (by omega)
    cases e1 : num tx n (p + 1) 59 with
    | none =>
      obtain ⟨J, j0, j1⟩ := na e1
      rw [j0, Option.bind_some]
      dsimp only
      rw [if_pos rfl]
      exact ⟨J, rfl, j1.frm⟩
    | some q =>
      dsimp only
      have l1 := num_le e1 (by decide)
      rw [nb q e1, Option.bind_some]
      dsimp only
      rw [if_neg z1, WR_3, pk_us]
      by_cases c97 : lt0 tx n p = 97
      · rw [if_pos c97, if_pos c97]
        obtain ⟨d1, d2, d3, d4⟩ := gone_d (DW q.2 (upd (I 3) 0 (nI q.1))) hw hm l1.1
        exact told_if d1 (WR_fr _ _).frm d2 d3 d4 WR_13
      · rw [if_neg c97, if_neg c97]
        by_cases c99 : lt0 tx n p = 99
        · rw [if_pos c99, if_pos c99]
          obtain ⟨d1, d2, d3, d4⟩ := add_d (DW q.2 (upd (I 3) 0 (nI q.1))) hw hm l1.1
          exact told_if d1 (WR_fr _ _).frm d2 d3 d4 WR_13
        · rw [if_neg c99, if_neg c99, if_neg c111]
          by_cases c115 : lt0 tx n p = 115
          · rw [if_pos c115, if_pos c115]
            obtain ⟨d1, d2, d3, d4⟩ := stone_d (DW q.2 (upd (I 3) 0 (nI q.1))) hm l1.1
            exact told_if d1 (WR_fr _ _).frm d2 d3 d4 WR_13
          · rw [if_neg c115, if_neg c115]
            exact ⟨_, rfl, (WR_fr _ _).frm⟩
end PItems
