/-! THE PURE PART: chance, numbers -/
def eu : Nat → Nat → Nat → Option Nat
  | 0, a, b => if b = 0 then some a else none
  | n + 1, a, b => if b = 0 then some a else eu n b (a % b)
def ffb : Nat → Nat
  | 0 => 1
  | 1 => 2
  | n + 2 => ffb (n + 1) + ffb n
theorem eu_none : ∀ n a b, b < a → eu n a b = none → ffb n ≤ b ∧ ffb (n + 1) ≤ a
  | 0, a, b, h, e => by
    have hb : b ≠ 0 := fun z => by rw [eu, if_pos z] at e; cases e
    have e1 : ffb 0 = 1 := rfl
    have e2 : ffb (0 + 1) = 2 := rfl
    omega
  | n + 1, a, b, h, e => by
    by_cases hb : b = 0
    · rw [eu, if_pos hb] at e
      cases e
    · rw [eu, if_neg hb] at e
      have hm := Nat.mod_lt a (show 0 < b by omega)
      obtain ⟨h1, h2⟩ := eu_none n b (a % b) hm e
      have hd : 1 ≤ a / b := (Nat.one_le_div_iff (by omega)).mpr (by omega)
      have hs := Nat.div_add_mod a b
      have hm2 : b * 1 ≤ b * (a / b) := Nat.mul_le_mul_left b hd
      refine ⟨h2, ?_⟩
      show ffb (n + 1) + ffb n ≤ a
      omega
theorem ffb_32 : 100000 < ffb 31 := by decide +kernel
theorem eu_some {a b : Nat} (h0 : 0 < b) (hb : b ≤ 100000) : ∃ g, eu 32 a b = some g := by
  cases e : eu 32 a b with
  | some g => exact ⟨g, rfl⟩
  | none =>
    exfalso
    rw [eu, if_neg (by omega)] at e
    have h1 := (eu_none 31 b (a % b) (Nat.mod_lt a h0) e).1
    have h2 := Nat.mod_lt a h0
    have h3 := ffb_32
    omega
theorem eu_pos : ∀ n a b g, eu n a b = some g → 0 < a + b → 0 < g ∧ g ≤ a + b
  | 0, a, b, g, e, h => by
    by_cases hb : b = 0
    · rw [eu, if_pos hb] at e
      cases e
      omega
    · rw [eu, if_neg hb] at e
      cases e
  | n + 1, a, b, g, e, h => by
    by_cases hb : b = 0
    · rw [eu, if_pos hb] at e
      cases e
      omega
    · rw [eu, if_neg hb] at e
      have hm := Nat.mod_le a b
      have := eu_pos n b (a % b) g e (by omega)
      omega
theorem l_gcd {I : Nat → Nat → Int32} {x0 x1 : Int32} {g : Nat} : ∀ (k step fuel a b : Nat), step + k = 32 → k < fuel → a < 10000000 → b < 10000000 → eu k a b = some g → l_G_commonDivisor_7 fuel I x0 x1 (nI a) (nI b) (nI step) = some (nI g, I)
  | 0, step, fuel + 1, a, b, hs, _, ha, hb, e => by
    by_cases h0 : b = 0
    · rw [eu, if_pos h0] at e
      cases e
      rw [l_G_commonDivisor_7, if_pos (show (32 : Int32) ≤ nI step from (nle (a := 32) (by omega) (by omega)).mpr (by omega))]
    · rw [eu, if_neg h0] at e
      cases e
  | k + 1, step, fuel + 1, a, b, hs, hf, ha, hb, e => by
    have e0 : nI b = 0 ↔ b = 0 := nI_eq (b := 0) (by omega) (by omega)
    rw [l_G_commonDivisor_7, if_neg (show ¬ (32 : Int32) ≤ nI step from fun z => by have := (nle (a := 32) (by omega) (by omega)).mp z; omega)]
    by_cases h0 : b = 0
    · rw [eu, if_pos h0] at e
      cases e
      rw [if_pos (e0.mpr h0)]
    · rw [eu, if_neg h0] at e
      have hm := Nat.mod_lt a (show 0 < b by omega)
      rw [if_neg (fun z => h0 (e0.mp z)), if_neg (fun z => h0 (e0.mp z)), pk_rem (by omega) (by omega) (by omega), show nI step + 1 = nI (step + 1) from nI_add step 1]
      exact l_gcd k (step + 1) fuel b (a % b) (by omega) (by omega) hb (by omega) e
theorem l_power {I : Nat → Nat → Int32} {b t : Nat} (ht : t ≤ 6) : ∀ (d i fuel : Nat), i + d = t → d < fuel → l_G_power_4 fuel I (nI b) (nI t) (nI (b ^ i)) (nI i) = some (nI (b ^ t), I)
  | 0, i, fuel + 1, hi, _ => by
    rw [l_G_power_4, if_pos ((nle (by omega) (by omega)).mpr (by omega)), show i = t by omega]
  | d + 1, i, fuel + 1, hi, hf => by
    rw [l_G_power_4, if_neg (fun z => by have := (nle (by omega) (by omega)).mp z; omega), show nI i + 1 = nI (i + 1) from nI_add i 1, pk_mul, ← Nat.pow_succ]
    exact l_power ht d (i + 1) fuel (by omega) (by omega)
theorem x_power {b t : Nat} (ht : t ≤ 6) (I : Nat → Nat → Int32) : x_G_power I (nI b) (nI t) = some (nI (b ^ t), I) := by
  have h := l_power (I := I) (b := b) ht t 0 1000 (by omega) (by omega)
  rw [nI_0] at h
  rw [x_G_power]
  exact h
/-! sets of the others -/
def sb (s o : Nat) : Bool := decide (s ||| o = o)
def oth6 (T c : Nat) : Nat := T &&& (63 ^^^ 2 ^ c)
theorem oth6_in : ∀ T, T < 64 → ∀ c, c < 6 → nI T &&& ((1 <<< (nI c &&& 31)) ^^^ (-1)) = nI (oth6 T c) := by decide +kernel
theorem oth6_pc : ∀ T, T < 64 → ∀ c, c < 6 → pc6 (oth6 T c) ≤ 5 := by decide +kernel
theorem oth6_lt {T : Nat} (c : Nat) {n : Nat} (h : T < n) : oth6 T c < n := Nat.lt_of_le_of_lt Nat.and_le_left h
theorem oth6_c : ∀ T, T < 64 → ∀ c, c < 6 → (oth6 T c).testBit c = false := by decide +kernel
theorem sb_in : ∀ s, s < 64 → ∀ o, o < 64 → (nI s &&& (nI o ^^^ (-1)) = 0 ↔ sb s o = true) := by decide +kernel
theorem sb_bit {s o i : Nat} (h : sb s o = true) (ho : o.testBit i = false) : s.testBit i = false := by
  have e : s ||| o = o := of_decide_eq_true h
  have h1 : (s ||| o).testBit i = o.testBit i := by rw [e]
  rw [Nat.testBit_or, ho, Bool.or_false] at h1
  exact h1
theorem sb_pc {s o : Nat} (h : sb s o = true) : ∀ i, pcTo s i ≤ pcTo o i
  | 0 => Nat.le_refl 0
  | i + 1 => by
    have ih := sb_pc h i
    rw [pcTo, pcTo]
    by_cases b : o.testBit i = true
    · rw [if_pos b]
      split <;> omega
    · rw [if_neg b, if_neg (by rw [sb_bit h (bitf b)]; decide)]
      omega
/-- the weight of a set: those of the others who stay away by x, who come by 10 - x -/
def prw (x o s : Nat) : Nat → Nat
  | 0 => 1
  | i + 1 => prw x o s i * (if o.testBit i = true then (if s.testBit i = true then x else 10 - x) else 1)
theorem prw_pow {x o s : Nat} (h : sb s o = true) : ∀ i, prw x o s i = x ^ pcTo s i * (10 - x) ^ (pcTo o i - pcTo s i)
  | 0 => rfl
  | i + 1 => by
    have hle := sb_pc h i
    rw [prw, prw_pow h i, pcTo, pcTo]
    by_cases b : o.testBit i = true
    · rw [if_pos b, if_pos b]
      by_cases b2 : s.testBit i = true
      · rw [if_pos b2, if_pos b2, show pcTo o i + 1 - (pcTo s i + 1) = pcTo o i - pcTo s i by omega, Nat.pow_succ, Nat.mul_right_comm]
      · rw [if_neg b2, if_neg b2, Nat.add_zero, show pcTo o i + 1 - pcTo s i = (pcTo o i - pcTo s i) + 1 by omega, Nat.pow_succ, Nat.mul_assoc]
    · have b2 := sb_bit h (bitf b)
      rw [if_neg b, if_neg b, b2, Nat.mul_one]
      rfl
theorem pcTo_6 : ∀ n, n < 7 → ∀ s, s < 2 ^ n → pcTo s n = pc6 s := by decide +kernel
theorem prw_6 {x o s n : Nat} (hn : n ≤ 6) (h : sb s o = true) (hs : s < 2 ^ n) (ho : o < 2 ^ n) : prw x o s n = x ^ pc6 s * (10 - x) ^ (pc6 o - pc6 s) := by
  rw [prw_pow h, pcTo_6 n (by omega) s hs, pcTo_6 n (by omega) o ho]
theorem prw_le {x o s n : Nat} (hn : n ≤ 6) (hx : x ≤ 10) (h : sb s o = true) (hs : s < 2 ^ n) (ho : o < 2 ^ n) (h5 : pc6 o ≤ 5) : prw x o s n ≤ 100000 := by
  have hle : pc6 s ≤ pc6 o := sb_pc h 6
  rw [prw_6 hn h hs ho]
  have h1 : x ^ pc6 s * (10 - x) ^ (pc6 o - pc6 s) ≤ 10 ^ pc6 s * 10 ^ (pc6 o - pc6 s) := Nat.mul_le_mul (Nat.pow_le_pow_left hx _) (Nat.pow_le_pow_left (by omega) _)
  rw [← Nat.pow_add, show pc6 s + (pc6 o - pc6 s) = pc6 o by omega] at h1
  have h2 : 10 ^ pc6 o ≤ 10 ^ 5 := Nat.pow_le_pow_right (by decide) h5
  exact Nat.le_trans h1 h2
/-- the bread he has when these stay away, too -/
def brW (μ : MS) (c s : Nat) : Nat := br (fv μ 6 (lineOf μ (mG μ ||| s)) (mS μ) c)
def tot (μ : MS) (c b x o : Nat) : Nat → Nat
  | 0 => 0
  | s + 1 => tot μ c b x o s + (if (sb s o && decide (b ≤ brW μ c s)) = true then prw x o s (mN μ) else 0)
theorem tot_le {μ : MS} {c b x o : Nat} (hn : mN μ ≤ 6) (hx : x ≤ 10) (ho : o < 2 ^ mN μ) (h5 : pc6 o ≤ 5) : ∀ s, s ≤ 2 ^ mN μ → tot μ c b x o s ≤ s * 100000
  | 0, _ => Nat.le_refl 0
  | s + 1, hs => by
    have ih := tot_le hn hx ho h5 (c := c) (b := b) s (by omega)
    rw [tot]
    split
    · next h =>
      rw [Bool.and_eq_true] at h
      have := prw_le hn hx h.1 (by omega) ho h5
      omega
    · rw [Nat.succ_mul]
      exact Nat.le_trans ih (Nat.le_add_right _ _)
theorem tot_no {μ : MS} {c b x o s : Nat} (h : sb s o = false ∨ ¬ b ≤ brW μ c s) : tot μ c b x o (s + 1) = tot μ c b x o s := by
  rw [tot, if_neg, Nat.add_zero]
  intro z
  rw [Bool.and_eq_true] at z
  rcases h with h | h
  · rw [h] at z
    cases z.1
  · exact h (of_decide_eq_true z.2)
theorem tot_yes {μ : MS} {c b x o s : Nat} (h : sb s o = true) (h2 : b ≤ brW μ c s) : tot μ c b x o (s + 1) = tot μ c b x o s + prw x o s (mN μ) := by
  rw [tot, if_pos]
  rw [h, decide_eq_true h2]
  rfl
def setG (μ : MS) (g : Nat) : MS := (mN μ, mK μ, mL μ, mT μ, g, mS μ, mD μ)
theorem setG_ok {μ : MS} {g : Nat} (h : mOK μ) (hg : g < 2 ^ mN μ) : mOK (setG μ g) := ⟨⟨h.1.1, h.1.2.1, h.1.2.2.1, h.1.2.2.2.1, h.1.2.2.2.2.1, hg, h.1.2.2.2.2.2.2⟩, h.2.1, h.2.2⟩
theorem setG_pres (μ : MS) (g : Nat) : mPres (setG μ g) = lineOf μ g := (lineOf_pres (setG μ g)).symm
theorem or_lt {a b n : Nat} (ha : a < 2 ^ n) (hb : b < 2 ^ n) : a ||| b < 2 ^ n := Nat.or_lt_two_pow ha hb
