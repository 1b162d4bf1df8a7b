/-! THE PURE PART: numbers, the mill as it is meant -/
theorem nlt {a b : Nat} (ha : a < 1000000) (hb : b < 1000000) : nI a < nI b ↔ a < b := nI_ltI (by omega) (by omega)
theorem nle {a b : Nat} (ha : a < 1000000) (hb : b < 1000000) : nI a ≤ nI b ↔ a ≤ b := nI_leI (by omega) (by omega)
theorem neq {a b : Nat} (ha : a < 1000000) (hb : b < 1000000) : nI a = nI b ↔ a = b := nI_eq (by omega) (by omega)
theorem nneg {a : Nat} (ha : a < 1000000) : ¬ nI a < 0 := nI_pos (by omega)
theorem ncl {a : Nat} (ha : a < 1000000) : (nI a).toNatClampNeg = a := nI_clamp (by omega)
/-- an index that is asked for and is inside -/
theorem guard_in {α : Type} {a b : α} {g : Nat → α} {k N : Nat} (hk : k < N) (hN : N < 1000000) : (if nI k < 0 then a else (if Int32.ofNat N ≤ nI k then b else g (nI k).toNatClampNeg)) = g k := by
  rw [if_neg (nneg (by omega)), if_neg (fun q => by have := (nle (by omega) (by omega)).mp q; omega), ncl (by omega)]
theorem nzin {k N : Nat} (hk : k < N) (hN : N < 1000000) : zinb (nI k) N = true := zinb_a (nneg (by omega)) (fun q => by have := (nle (by omega) (by omega)).mp q; omega) (by omega)
theorem nsh1 : ∀ w, w < 31 → (1 : Int32) <<< (nI w &&& 31) = nI (2 ^ w) := by decide +kernel
theorem nbit : ∀ g, g < 64 → ∀ j, j < 6 → ((nI g >>> (nI j &&& 31)) &&& 1 = 1 ↔ g.testBit j = true) := by decide +kernel
/-- customers, kinds, line, told, who are away, the stone, days -/
abbrev MS : Type := Nat × (Nat → Nat) × (Nat → Nat) × (Nat → Nat → Nat) × Nat × Nat × Nat
def mN (μ : MS) : Nat := μ.1
def mK (μ : MS) : Nat → Nat := μ.2.1
def mL (μ : MS) : Nat → Nat := μ.2.2.1
def mT (μ : MS) : Nat → Nat → Nat := μ.2.2.2.1
def mG (μ : MS) : Nat := μ.2.2.2.2.1
def mS (μ : MS) : Nat := μ.2.2.2.2.2.1
def mD (μ : MS) : Nat := μ.2.2.2.2.2.2
def mWF (μ : MS) : Prop := mN μ ≤ 6 ∧ (∀ k, k < mN μ → mK μ k ≤ 4) ∧ (∀ k, k < mN μ → mL μ k < mN μ) ∧ (∀ a b, a < mN μ → b < mN μ → mL μ a = mL μ b → a = b) ∧ (∀ i j, i < mN μ → j < mN μ → mT μ i j ≤ 6) ∧ mG μ < 2 ^ mN μ ∧ mS μ ≤ 9
/-- the class's mill at these cells -/
def RC (I : Nat → Nat → Int32) (m mk ml mt : Nat) (μ : MS) : Prop := I m 3 = nI (mN μ) ∧ (∀ k, k < mN μ → I mk k = nI (mK μ k)) ∧ (∀ k, k < mN μ → I ml k = nI (mL μ k)) ∧ (∀ i j, i < mN μ → j < mN μ → I mt (i * 6 + j) = nI (mT μ i j)) ∧ I m 4 = nI (mG μ) ∧ I m 5 = nI (mS μ) ∧ I m 6 = nI (mD μ)
theorem RC.congr {I J : Nat → Nat → Int32} {m mk ml mt : Nat} {μ : MS} (h : RC I m mk ml mt μ) (h1 : J m = I m) (h2 : J mk = I mk) (h3 : J ml = I ml) (h4 : J mt = I mt) : RC J m mk ml mt μ := by
  unfold RC
  rw [h1, h2, h3, h4]
  exact h
theorem mWF.n6 {μ : MS} (h : mWF μ) : mN μ ≤ 6 := h.1
theorem mWF.g64 {μ : MS} (h : mWF μ) : mG μ < 64 := Nat.lt_of_lt_of_le h.2.2.2.2.2.1 (Nat.pow_le_pow_right (by decide) h.1)
section PMill
variable {I : Nat → Nat → Int32} {m mk ml mt : Nat} {μ : MS}
theorem kindOf_in (hR : RC I m mk ml mt μ) (hW : mWF μ) {c : Nat} (hc : c < mN μ) : f_M_kindOf m mk ml mt I (nI c) = nI (mK μ c) := by
  have h6 := hW.1
  rw [f_M_kindOf, guard_in (g := fun j => I mk j) (N := 6) (by omega) (by decide)]
  exact hR.2.1 c hc
theorem wordOf_in (hR : RC I m mk ml mt μ) (hW : mWF μ) {i j : Nat} (hi : i < mN μ) (hj : j < mN μ) : f_M_wordOf m mk ml mt I (nI i) (nI j) = nI (mT μ i j) := by
  have h6 := hW.1
  have e : nI i * 6 + nI j = nI (i * 6 + j) := by rw [show (6 : Int32) = nI 6 from rfl, pk_mul, nI_add]
  rw [f_M_wordOf, e, guard_in (g := fun j => I mt j) (N := 36) (by omega) (by decide)]
  exact hR.2.2.2.1 i j hi hj
theorem whoAt_in (hR : RC I m mk ml mt μ) (hW : mWF μ) {p : Nat} (hp : p < mN μ) : f_M_whoAt m mk ml mt I (nI p) = nI (mL μ p) := by
  have h6 := hW.1
  rw [f_M_whoAt, if_neg (nneg (by omega)), hR.1, if_neg (fun q => by have := (nle (by omega) (by omega)).mp q; omega), if_neg (fun q => by have := (nle (a := 6) (by omega) (by omega)).mp q; omega), ncl (by omega)]
  exact hR.2.2.1 p hp
theorem isGone_in (hR : RC I m mk ml mt μ) (hW : mWF μ) {c : Nat} (hc : c < mN μ) : f_M_isGone m mk ml mt I (nI c) = if (mG μ).testBit c = true then 1 else 0 := by
  have h6 := hW.1
  rw [f_M_isGone, f_G_isIn, hR.2.2.2.2.1]
  simp only [nbit _ hW.g64 c (by omega)]
theorem has_in (hR : RC I m mk ml mt μ) (hW : mWF μ) {c : Nat} (hc : c < mN μ) : f_M_has m mk ml mt I (nI c) = 1 := by
  have h6 := hW.1
  rw [f_M_has, if_neg (nneg (by omega)), hR.1, if_neg (fun q => by have := (nle (by omega) (by omega)).mp q; omega)]
theorem has_cases (hR : RC I m mk ml mt μ) (hW : mWF μ) (c : Int32) : f_M_has m mk ml mt I c = 0 ∨ ∃ j, j < mN μ ∧ c = nI j := by
  have h6 := hW.1
  rcases pk_ix c (n := mN μ) (by omega) with q | q | q
  · exact Or.inl (by rw [f_M_has, if_pos q])
  · refine Or.inl ?_
    rw [f_M_has, hR.1, if_pos q]
    split <;> rfl
  · exact Or.inr q
end PMill
/-! the line, what counts, how fine -/
def mPres (μ : MS) : List Nat := ((List.range (mN μ)).map (mL μ)).filter (fun c => !((mG μ).testBit c))
/-- whose words count for c, by those who wait behind: so many yet, the words that are taken, those found -/
def mo (μ : MS) (c : Nat) : Nat → Nat → Nat → List Nat → Nat
  | 0, _, B, _ => B
  | _ + 1, _, B, [] => B
  | k + 1, T, B, w :: r => mo μ c k (if mK μ w = 2 ∨ mK μ w = 3 then T else T ||| 2 ^ mT μ w c) (if mK μ w = 2 ∨ (mK μ w ≠ 3 ∧ T.testBit (mT μ w c) = false) then B ||| 2 ^ w else B) r
/-- what a word is worth -/
def mw (μ : MS) (i c : Nat) : Int32 := if mK μ i = 1 then 2 * (nI (mT μ i c) - 3) else if mK μ i = 4 then -(nI (mT μ i c) - 3) else nI (mT μ i c) - 3
def ms (μ : MS) (B c : Nat) : Nat → Int32
  | 0 => 0
  | i + 1 => if B.testBit i = true then ms μ B c i + mw μ i c else ms μ B c i
def clampI (x : Int32) : Int32 := if 0 < (if x < 9 then x else 9) then (if x < 9 then x else 9) else 0
/-- how fine c has it, with the stone at s, and these behind him -/
def mf (μ : MS) (c s : Nat) (r : List Nat) : Nat := (clampI (nI s + ms μ (mo μ c 3 0 0 r) c (mN μ))).toNatClampNeg
def mwear (s f : Nat) : Nat := if s < f then s + 1 else if f < s then s - 1 else s
/-- the line is ground: who has it how fine, the stone behind it -/
def gr (μ : MS) (g : Nat) : List Nat → Nat → List (Nat × Nat) × Nat
  | [], s => ([], s)
  | c :: r, s => if c = g then gr μ g r s else ((c, mf μ c s r) :: (gr μ g r (mwear s (mf μ c s r))).1, (gr μ g r (mwear s (mf μ c s r))).2)
def gf : List (Nat × Nat) → (Nat → Int32) → Nat → Int32
  | [], F => F
  | q :: l, F => gf l (upd F q.1 (nI q.2))
theorem clampI_in (x : Int32) : clampI x = nI (clampI x).toNatClampNeg ∧ (clampI x).toNatClampNeg ≤ 9 := by
  have h : ∃ k : Nat, k ≤ 9 ∧ clampI x = nI k := by
    unfold clampI
    by_cases h9 : x < 9
    · rw [if_pos h9]
      by_cases h0 : 0 < x
      · rw [if_pos h0]
        refine nI_of2 (M := 9) (n := 9) rfl ?_ ?_
        · rw [Int32.not_lt]
          exact Int32.le_of_lt h0
        · exact Int32.le_of_lt h9
      · rw [if_neg h0]
        exact ⟨0, by omega, rfl⟩
    · rw [if_neg h9]
      exact ⟨9, by omega, by decide⟩
  obtain ⟨k, hk, e⟩ := h
  rw [e, ncl (by omega)]
  exact ⟨rfl, hk⟩
theorem mf_le (μ : MS) (c s : Nat) (r : List Nat) : mf μ c s r ≤ 9 := (clampI_in _).2
theorem mwear_le {s f : Nat} (hs : s ≤ 9) (hf : f ≤ 9) : mwear s f ≤ 9 := by
  unfold mwear
  split
  · omega
  · split <;> omega
theorem gr_stone (μ : MS) (g : Nat) : ∀ (r : List Nat) (s : Nat), s ≤ 9 → (gr μ g r s).2 ≤ 9
  | [], s, h => h
  | c :: r, s, h => by
    unfold gr
    split
    · exact gr_stone μ g r s h
    · exact gr_stone μ g r _ (mwear_le h (mf_le _ _ _ _))
