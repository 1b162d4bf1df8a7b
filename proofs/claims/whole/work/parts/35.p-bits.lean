/-! THE PURE PART: bits, and who has it how fine -/
def pcTo (B : Nat) : Nat → Nat
  | 0 => 0
  | i + 1 => pcTo B i + (if B.testBit i = true then 1 else 0)
def pc6 (B : Nat) : Nat := pcTo B 6
theorem pcTo_le (B : Nat) : ∀ i, pcTo B i ≤ i
  | 0 => Nat.le_refl 0
  | i + 1 => by
    rw [pcTo]
    have := pcTo_le B i
    split <;> omega
def nbc (x : Int32) : Int32 := match x_N_bitCount (fun _ _ => 0) x with
  | some q => q.1
  | none => 0
theorem x_bc (I : Nat → Nat → Int32) (x : Int32) : x_N_bitCount I x = some (nbc x, I) := rfl
theorem nbc_in : ∀ B, B < 64 → nbc (nI B) = nI (pc6 B) := by decide +kernel
theorem nbitv : ∀ g, g < 64 → ∀ j, j < 6 → ((nI g >>> (nI j &&& 31)) &&& 1) = nI (if g.testBit j = true then 1 else 0) := by decide +kernel
theorem l_ones {I : Nat → Nat → Int32} {B : Nat} (hB : B < 64) : ∀ (d i fuel : Nat), i + d = 6 → d < fuel → l_D_ones_4 fuel I (nI B) (nI (pcTo B i)) (nI i) = some (nI (pc6 B), I)
  | 0, i, fuel + 1, hi, _ => by
    rw [l_D_ones_4, if_pos (show (6 : Int32) ≤ nI i from (nle (a := 6) (by omega) (by omega)).mpr (by omega)), show i = 6 by omega]
    rfl
  | d + 1, i, fuel + 1, hi, hf => by
    have h := l_ones (I := I) hB d (i + 1) fuel (by omega) (by omega)
    rw [l_D_ones_4, if_neg (show ¬ (6 : Int32) ≤ nI i from fun z => by have := (nle (a := 6) (by omega) (by omega)).mp z; omega), nbitv B hB i (by omega), show nI i + 1 = nI (i + 1) from nI_add i 1, nI_add]
    exact h
theorem x_ones {B : Nat} (hB : B < 64) (I : Nat → Nat → Int32) : x_D_ones I (nI B) = some (nI (pc6 B), I) := by
  have h := l_ones (I := I) hB 6 0 1000 (by omega) (by omega)
  rw [nI_0] at h
  rw [x_D_ones]
  exact h
/-- those who are there -/
def thr (n g : Nat) : Nat := (2 ^ n - 1) ^^^ g
theorem thr_in : ∀ n, n < 7 → ∀ g, g < 2 ^ n → ((1 <<< (nI n &&& 31)) - 1) &&& (nI g ^^^ (-1)) = nI (thr n g) := by decide +kernel
theorem thr_lt : ∀ n, n < 7 → ∀ g, g < 2 ^ n → thr n g < 2 ^ n := by decide +kernel
theorem thr_bit : ∀ n, n < 7 → ∀ g, g < 2 ^ n → ∀ j, j < 6 → (thr n g).testBit j = (decide (j < n) && !(g.testBit j)) := by decide +kernel
theorem thr_pc : ∀ n, n < 7 → ∀ g, g < 2 ^ n → pc6 (thr n g) + pc6 g = n := by decide +kernel
theorem pow_64 {n : Nat} (h : n ≤ 6) : 2 ^ n ≤ 64 := Nat.pow_le_pow_right (by decide) h
/-! the fines' row -/
theorem gf_out {c : Nat} : ∀ (l : List (Nat × Nat)) (F : Nat → Int32), c ∉ l.map Prod.fst → gf l F c = F c
  | [], _, _ => rfl
  | q :: l, F, h => by
    rw [List.map_cons, List.mem_cons, not_or] at h
    rw [gf, gf_out l _ h.2, pk_un h.1]
theorem gf_val {c : Nat} : ∀ (l : List (Nat × Nat)), c ∈ l.map Prod.fst → ∃ f, (c, f) ∈ l ∧ ∀ F, gf l F c = nI f
  | [], h => by cases h
  | q :: l, h => by
    by_cases h2 : c ∈ l.map Prod.fst
    · obtain ⟨f, h3, h4⟩ := gf_val l h2
      exact ⟨f, List.mem_cons_of_mem _ h3, fun F => h4 _⟩
    · rw [List.map_cons, List.mem_cons] at h
      rcases h with h | h
      · refine ⟨q.2, by rw [h]; exact List.mem_cons_self, fun F => ?_⟩
        rw [gf, gf_out l _ h2, h, pk_us]
      · exact absurd h h2
theorem gr_keys (μ : MS) (g c : Nat) : ∀ (l : List Nat) (s : Nat), c ∈ (gr μ g l s).1.map Prod.fst ↔ c ∈ l ∧ c ≠ g
  | [], s => by simp [gr]
  | d :: l, s => by
    rw [gr]
    by_cases h : d = g
    · rw [if_pos h, gr_keys μ g c l s, List.mem_cons]
      constructor
      · intro z
        exact ⟨Or.inr z.1, z.2⟩
      · intro z
        rcases z.1 with y | y
        · exact absurd (y.trans h) z.2
        · exact ⟨y, z.2⟩
    · rw [if_neg h, List.map_cons, List.mem_cons, gr_keys μ g c l _, List.mem_cons]
      constructor
      · intro z
        rcases z with z | z
        · exact ⟨Or.inl z, fun y => h (z.symm.trans y)⟩
        · exact ⟨Or.inr z.1, z.2⟩
      · intro z
        rcases z.1 with y | y
        · exact Or.inl y
        · exact Or.inr ⟨y, z.2⟩
theorem gr_le (μ : MS) (g : Nat) : ∀ (l : List Nat) (s : Nat), ∀ q ∈ (gr μ g l s).1, q.2 ≤ 9
  | [], s, q, h => by rw [gr] at h; cases h
  | d :: l, s, q, h => by
    rw [gr] at h
    by_cases h2 : d = g
    · rw [if_pos h2] at h
      exact gr_le μ g l s q h
    · rw [if_neg h2] at h
      rcases List.mem_cons.mp h with z | z
      · rw [z]
        exact mf_le _ _ _ _
      · exact gr_le μ g l _ q z
/-- how fine c has it, in a line -/
theorem fine_in (μ : MS) {g c s : Nat} {l : List Nat} (h : c ∈ l) (hg : c ≠ g) : ∃ f, f ≤ 9 ∧ ∀ F, gf (gr μ g l s).1 F c = nI f := by
  obtain ⟨f, h1, h2⟩ := gf_val _ ((gr_keys μ g c l s).mpr ⟨h, hg⟩)
  exact ⟨f, gr_le μ g l s _ h1, h2⟩
theorem fine_out (μ : MS) {g c s : Nat} {l : List Nat} (h : ¬ (c ∈ l ∧ c ≠ g)) (F : Nat → Int32) : gf (gr μ g l s).1 F c = F c := gf_out _ _ (fun z => h ((gr_keys μ g c l s).mp z))
theorem gm_out (μ : MS) {g c : Nat} : ∀ (l : List Nat) (F : Nat → Int32), c ∉ l → gm μ g l F c = F c
  | [], _, _ => rfl
  | d :: l, F, h => by
    rw [List.mem_cons, not_or] at h
    rw [gm]
    by_cases h2 : d = g
    · rw [if_pos h2]
      exact gm_out μ l F h.2
    · rw [if_neg h2, gm_out μ l _ h.2, pk_un h.1]
theorem gm_in (μ : MS) {g c : Nat} {r : List Nat} (hc : c ∉ r) (hg : c ≠ g) : ∀ (a : List Nat) (F : Nat → Int32), gm μ g (a ++ c :: r) F c = nI (mo μ c 3 0 0 r)
  | [], F => by rw [List.nil_append, gm, if_neg hg, gm_out μ r _ hc, pk_us]
  | d :: a, F => by
    rw [List.cons_append, gm]
    by_cases h2 : d = g
    · rw [if_pos h2]
      exact gm_in μ hc hg a F
    · rw [if_neg h2]
      exact gm_in μ hc hg a _
/-! sets of customers -/
def bs (φ : Nat → Bool) : Nat → Nat
  | 0 => 0
  | i + 1 => if φ i = true then bs φ i ||| 2 ^ i else bs φ i
theorem bs_bit (φ : Nat → Bool) (j : Nat) : ∀ n, (bs φ n).testBit j = (decide (j < n) && φ j)
  | 0 => by simp [bs]
  | n + 1 => by
    rw [bs]
    by_cases h : φ n = true
    · rw [if_pos h, testOr, bs_bit φ j n]
      by_cases hj : j = n
      · rw [hj, h]
        simp
      · have : (decide (n = j)) = false := by simp; omega
        rw [this, Bool.or_false]
        congr 1
        exact decide_eq_decide.mpr (by omega)
    · rw [if_neg h, bs_bit φ j n]
      by_cases hj : j = n
      · rw [hj, bitf h]
        simp
      · congr 1
        exact decide_eq_decide.mpr (by omega)
theorem bs_lt (φ : Nat → Bool) : ∀ n k, n ≤ k → bs φ n < 2 ^ k
  | 0, k, _ => Nat.two_pow_pos k
  | n + 1, k, h => by
    rw [bs]
    split
    · exact orlt (bs_lt φ n k (by omega)) (by omega)
    · exact bs_lt φ n k (by omega)
/-- where the mill stands -/
def mOK (μ : MS) : Prop := mWF μ ∧ (∀ c, c < mN μ → ∃ p, p < mN μ ∧ mL μ p = c) ∧ 1 ≤ mN μ
theorem pres_in {μ : MS} (h : mOK μ) {c : Nat} (hc : c < mN μ) (hg : (mG μ).testBit c = false) : c ∈ mPres μ := by
  obtain ⟨p, hp, e⟩ := h.2.1 c hc
  rw [mPres, List.mem_filter, List.mem_map]
  exact ⟨⟨p, List.mem_range.mpr hp, e⟩, by simp [hg]⟩
theorem pres_iff {μ : MS} (h : mOK μ) {c : Nat} : c ∈ mPres μ ↔ c < mN μ ∧ (mG μ).testBit c = false := ⟨mPres_mem h.1, fun z => pres_in h z.1 z.2⟩
theorem pres_nodup {μ : MS} (hW : mWF μ) : (mPres μ).Nodup := by
  have := mPres_nodup hW (mG μ)
  rw [lineOf_pres] at this
  exact this
/-! what a question may change -/
def KP (I J : Nat → Nat → Int32) : Prop := (∀ a, a ≠ 1 → a ≠ 3 → ¬ (8 ≤ a ∧ a ≤ 15) → a ≠ 63 → a ≠ 66 → a ≠ 67 → ¬ (72 ≤ a ∧ a ≤ 75) → J a = I a) ∧ J 1 2 = I 1 2 ∧ (∀ j, j = 1 ∨ j = 2 ∨ j = 9 ∨ j = 11 ∨ j = 13 → J 63 j = I 63 j)
theorem KP.refl (I : Nat → Nat → Int32) : KP I I := ⟨fun _ _ _ _ _ _ _ _ => rfl, rfl, fun _ _ => rfl⟩
theorem KP.trans {I J K : Nat → Nat → Int32} (h : KP I J) (k : KP J K) : KP I K := ⟨fun a a1 a2 a3 a4 a5 a6 a7 => (k.1 a a1 a2 a3 a4 a5 a6 a7).trans (h.1 a a1 a2 a3 a4 a5 a6 a7), k.2.1.trans h.2.1, fun j hj => (k.2.2 j hj).trans (h.2.2 j hj)⟩
theorem KP.round {I J : Nat → Nat → Int32} (h : ∀ a, a ≠ 12 → a ≠ 13 → a ≠ 14 → J a = I a) : KP I J := ⟨fun a _ _ a3 _ _ _ _ => h a (by omega) (by omega) (by omega), by rw [h 1 (by decide) (by decide) (by decide)], fun j _ => by rw [h 63 (by decide) (by decide) (by decide)]⟩
theorem KP.low {I J : Nat → Nat → Int32} (h : ∀ a, ¬ (8 ≤ a ∧ a ≤ 15) → J a = I a) : KP I J := ⟨fun a _ _ a3 _ _ _ _ => h a a3, by rw [h 1 (by decide)], fun j _ => by rw [h 63 (by decide)]⟩
theorem Day.kp {I J : Nat → Nat → Int32} (h : Day I J) : KP I J := ⟨fun a _ _ _ a4 _ _ a7 => h.1 a a4 (by omega) (by omega) (by omega), by rw [h.1 1 (by decide) (by decide) (by decide) (by decide)], fun j hj => h.2 j (by omega) (by omega)⟩
/-- the mill in the class and in the reference -/
def IM (I : Nat → Nat → Int32) (μ : MS) : Prop := RC I 4 5 6 7 μ ∧ RS (I 68) μ ∧ RK (I 65) μ ∧ I 63 2 = nI (mN μ)
theorem IM.keep {I J : Nat → Nat → Int32} {μ : MS} (h : IM I μ) (k : KP I J) : IM J μ := by
  refine ⟨h.1.congr (k.1 4 (by decide) (by decide) (by decide) (by decide) (by decide) (by decide) (by decide)) (k.1 5 (by decide) (by decide) (by decide) (by decide) (by decide) (by decide) (by decide)) (k.1 6 (by decide) (by decide) (by decide) (by decide) (by decide) (by decide) (by decide)) (k.1 7 (by decide) (by decide) (by decide) (by decide) (by decide) (by decide) (by decide)), ?_, ?_, ?_⟩
  · rw [k.1 68 (by decide) (by decide) (by decide) (by decide) (by decide) (by decide) (by decide)]
    exact h.2.1
  · rw [k.1 65 (by decide) (by decide) (by decide) (by decide) (by decide) (by decide) (by decide)]
    exact h.2.2.1
  · rw [k.2.2 2 (by omega)]
    exact h.2.2.2
theorem mo4 : MO 4 5 6 7 := by decide
theorem mo8 : MO 8 9 10 11 := by decide
/-- inside 0 .. b, or not -/
theorem two_out (w : Int32) {b : Int32} {B : Nat} (hB : B < 100000) (hb : b = nI B) : ((∀ I, f_G_isOutside I w b = 1) ∧ (∀ I, f_D_in I w 0 b = 0)) ∨ ∃ k, k ≤ B ∧ w = nI k ∧ (∀ I, f_G_isOutside I w b = 0) ∧ ∀ I, f_D_in I w 0 b = 1 := by
  by_cases h0 : w < 0
  · exact Or.inl ⟨fun I => by rw [f_G_isOutside, if_pos h0], fun I => by rw [f_D_in, if_pos h0]⟩
  · by_cases h1 : w ≤ b
    · obtain ⟨k, hk, e⟩ := nI_of2 (M := b) (n := B) (by rw [hb]; exact nI_toInt (by omega)) h0 h1
      exact Or.inr ⟨k, hk, e, fun I => by rw [f_G_isOutside, if_neg h0, if_pos h1], fun I => by rw [f_D_in, if_neg h0, if_neg (Int32.not_lt.mpr h1)]⟩
    · exact Or.inl ⟨fun I => by rw [f_G_isOutside, if_neg h0, if_neg h1], fun I => by rw [f_D_in, if_neg h0, if_pos (Int32.not_le.mp h1)]⟩
theorem two_has {I J : Nat → Nat → Int32} {m mk ml mt : Nat} {μ : MS} (hR : RC I m mk ml mt μ) (hn : J 63 2 = nI (mN μ)) (hW : mOK μ) (c : Int32) : (f_M_has m mk ml mt I c = 0 ∧ f_D_isOne J c = 0) ∨ ∃ k, k < mN μ ∧ c = nI k ∧ f_M_has m mk ml mt I c = 1 ∧ f_D_isOne J c = 1 := by
  have h6 := hW.1.1
  have h1 := hW.2.2
  have e : J 63 2 - 1 = nI (mN μ - 1) := by
    rw [hn]
    exact pk_sub (b := 1) (by omega)
  rw [f_D_isOne, e]
  rcases two_out c (b := nI (mN μ - 1)) (B := mN μ - 1) (by omega) rfl with h | h
  · refine Or.inl ⟨?_, h.2 J⟩
    rcases has_cases hR hW.1 c with z | ⟨j, hj, z⟩
    · exact z
    · exfalso
      have h2 := h.1 J
      rw [z, f_G_isOutside, if_neg (nneg (by omega)), if_pos ((nle (by omega) (by omega)).mpr (by omega))] at h2
      exact absurd h2 (by decide)
  · obtain ⟨k, hk, e2, _, h3⟩ := h
    refine Or.inr ⟨k, by omega, e2, ?_, h3 J⟩
    rw [e2]
    exact has_in hR hW.1 (by omega)
theorem isAway_in {I : Nat → Nat → Int32} {μ : MS} (hS : RS (I 68) μ) (hW : mWF μ) {c : Nat} (hc : c < mN μ) : f_D_isAway I (nI c) = if (mG μ).testBit c = true then 1 else 0 := by
  have h6 := hW.1
  rw [f_D_isAway, hS.2.2.1]
  simp only [nbit _ hW.g64 c (by omega)]
