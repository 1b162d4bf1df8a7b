/-! THE PURE PART: the reference's line, and whose words count -/
theorem nbit0 : ∀ g, g < 64 → ∀ j, j < 6 → ((nI g >>> (nI j &&& 31)) &&& 1 = 0 ↔ g.testBit j = false) := by decide +kernel
/-- the mill in the reference's row of 45 -/
def RS (F : Nat → Int32) (μ : MS) : Prop := (∀ p, p < mN μ → F p = nI (mL μ p)) ∧ (∀ i j, i < mN μ → j < mN μ → F (6 + 6 * i + j) = nI (mT μ i j)) ∧ F 42 = nI (mG μ) ∧ F 43 = nI (mS μ) ∧ F 44 = nI (mD μ)
def RK (K : Nat → Int32) (μ : MS) : Prop := ∀ k, k < mN μ → K k = nI (mK μ k)
/-- what stays as it is when people stand -/
def Stood (I J : Nat → Nat → Int32) (l : List Nat) : Prop := (∀ a, a ≠ 63 → a ≠ 72 → J a = I a) ∧ (∀ j, j ≠ 16 → J 63 j = I 63 j) ∧ RA (J 72) 0 l ∧ J 63 16 = nI l.length
def bitNot (g c : Nat) : Bool := !(g.testBit c)
def lineOf (μ : MS) (g : Nat) : List Nat := ((List.range' 0 (mN μ)).map (mL μ)).filter (bitNot g)
theorem stoodOn {I : Nat → Nat → Int32} {c : Nat} {acc : List Nat} (h1 : RA (I 72) 0 acc) (_h2 : I 63 16 = nI acc.length) : Stood I (zui (zui I 72 acc.length (nI c)) 63 16 (nI (acc.length + 1))) (acc ++ [c]) := by
  refine ⟨?_, ?_, ?_, ?_⟩
  · intro a h1 h2
    rw [zui_ne _ _ _ h1, zui_ne _ _ _ h2]
  · intro j hj
    rw [zui_self, pk_un hj, zui_ne _ _ _ (by decide)]
  · rw [zui_ne _ _ _ (by decide), zui_self]
    refine RA.snoc (RA.congr (fun k _ h => pk_un (by omega)) h1) ?_
    rw [Nat.zero_add, pk_us]
  · rw [zui_self, pk_us, List.length_append]
    rfl
theorem l_stands {μ : MS} {g : Nat} (hW : mWF μ) (hg : g < 64) : ∀ (d p fuel : Nat) (I : Nat → Nat → Int32) (acc : List Nat), p + d = mN μ → d < fuel → RS (I 68) μ → I 63 2 = nI (mN μ) → RA (I 72) 0 acc → I 63 16 = nI acc.length → acc.length ≤ p → ∃ J, l_D_stands_7 fuel I (nI g) (nI p) = some (0, J) ∧ Stood I J (acc ++ ((List.range' p d).map (mL μ)).filter (bitNot g))
  | 0, p, fuel + 1, I, acc, hp, _, hR, hn, h1, h2, _ => by
    have h66 := hW.1
    refine ⟨I, ?_, fun _ _ _ => rfl, fun _ _ => rfl, ?_, ?_⟩
    · rw [l_D_stands_7, hn, if_pos ((nle (by omega) (by omega)).mpr (by omega))]
    · simpa using h1
    · simpa using h2
  | d + 1, p, fuel + 1, I, acc, hp, hf, hR, hn, h1, h2, h3 => by
    have h66 := hW.1
    have hc := hW.2.2.1 p (by omega)
    rw [List.range'_succ, List.map_cons, List.filter_cons]
    rw [l_D_stands_7, hn, if_neg (fun z => by have := (nle (by omega) (by omega)).mp z; omega), if_pos (nzin (k := p) (N := 45) (by omega) (by decide)), if_pos (nzin (k := p) (N := 45) (by omega) (by decide)), ncl (by omega), hR.1 p (by omega), h2, if_pos (nzin (k := acc.length) (N := 6) (by omega) (by decide)), ncl (by omega), show nI p + 1 = nI (p + 1) from nI_add p 1, show nI acc.length + 1 = nI (acc.length + 1) from nI_add _ 1]
    have hb := nbit0 g hg (mL μ p) (by omega)
    by_cases h : g.testBit (mL μ p) = true
    · rw [if_neg (fun z => by rw [hb.mp z] at h; cases h), if_neg (by simp [bitNot, h])]
      exact l_stands hW hg d (p + 1) fuel I acc (by omega) (by omega) hR hn h1 h2 (by omega)
    · rw [if_pos (hb.mpr (bitf h)), if_pos (by simp [bitNot, h])]
      have q := stoodOn (c := mL μ p) h1 h2
      obtain ⟨J, e, j1, j2, j3, j4⟩ := l_stands hW hg d (p + 1) fuel (zui (zui I 72 acc.length (nI (mL μ p))) 63 16 (nI (acc.length + 1))) (acc ++ [mL μ p]) (by omega) (by omega) (by rw [q.1 68 (by decide) (by decide)]; exact hR) (by rw [q.2.1 2 (by decide)]; exact hn) q.2.2.1 q.2.2.2 (by simp; omega)
      refine ⟨J, e, fun a a1 a2 => (j1 a a1 a2).trans (q.1 a a1 a2), fun j hj => (j2 j hj).trans (q.2.1 j hj), ?_, ?_⟩
      · simpa using j3
      · simpa using j4
theorem x_stands {μ : MS} {g : Nat} {I : Nat → Nat → Int32} (hW : mWF μ) (hg : g < 64) (hR : RS (I 68) μ) (hn : I 63 2 = nI (mN μ)) : ∃ J, x_D_stands I (nI g) = some (0, J) ∧ Stood I J (lineOf μ g) := by
  have h66 := hW.1
  have q1 : ∀ a, a ≠ 63 → (zui I 63 16 0) a = I a := fun a h => zui_ne _ _ _ h
  have q2 : ∀ j, j ≠ 16 → (zui I 63 16 0) 63 j = I 63 j := fun j h => by rw [zui_self, pk_un h]
  obtain ⟨J, e, j1, j2, j3, j4⟩ := l_stands hW hg (mN μ) 0 1000 (zui I 63 16 0) [] (by omega) (by omega) (by rw [q1 68 (by decide)]; exact hR) (by rw [q2 2 (by decide)]; exact hn) trivial (by rw [zui_self, pk_us]; rfl) (by simp)
  rw [nI_0] at e
  exact ⟨J, by rw [x_D_stands, e], fun a a1 a2 => (j1 a a1 a2).trans (q1 a a1), fun j hj => (j2 j hj).trans (q2 j hj), j3, j4⟩
theorem lineOf_pres (μ : MS) : lineOf μ (mG μ) = mPres μ := by
  rw [mPres_eq]
  rfl
/-! sums -/
theorem testOr {B w i : Nat} : (B ||| 2 ^ w).testBit i = (B.testBit i || decide (w = i)) := by
  rw [Nat.testBit_or, Nat.testBit_two_pow]
theorem ms_or (μ : MS) (c : Nat) {B w : Nat} (hb : B.testBit w = false) : ∀ n, ms μ (B ||| 2 ^ w) c n = if w < n then ms μ B c n + mw μ w c else ms μ B c n
  | 0 => by rw [ms, ms, if_neg (by omega)]
  | n + 1 => by
    rw [ms, ms, ms_or μ c hb n, testOr]
    by_cases h : w = n
    · rw [← h, hb, if_neg (Nat.lt_irrefl w), if_pos (Nat.lt_succ_self w)]
      simp
    · have e : (B.testBit n || decide (w = n)) = B.testBit n := by simp [h]
      rw [e]
      by_cases h2 : w < n
      · rw [if_pos h2, if_pos (by omega : w < n + 1)]
        by_cases h3 : B.testBit n = true
        · rw [if_pos h3, if_pos h3, Int32.add_assoc, Int32.add_assoc, Int32.add_comm (mw μ w c)]
        · rw [if_neg h3, if_neg h3]
      · rw [if_neg h2, if_neg (by omega : ¬ w < n + 1)]
theorem clamp_le (x : Int32) : (if 0 ≤ x then (if x ≤ 9 then x else 9) else 0) = clampI x := by
  unfold clampI
  by_cases h9 : x < 9
  · rw [if_pos h9]
    by_cases h0 : 0 < x
    · rw [if_pos h0, if_pos (Int32.le_of_lt h0), if_pos (Int32.le_of_lt h9)]
    · rw [if_neg h0]
      by_cases h : 0 ≤ x
      · have : x = 0 := Int32.le_antisymm (Int32.not_lt.mp h0) h
        rw [this]
        rfl
      · rw [if_neg h]
  · rw [if_neg h9]
    have h : 9 ≤ x := Int32.not_lt.mp h9
    have h0 : 0 ≤ x := Int32.le_trans (by decide) h
    rw [if_pos h0]
    by_cases h2 : x ≤ 9
    · have : x = 9 := Int32.le_antisymm h2 h
      rw [this]
      rfl
    · rw [if_neg h2]
      rfl
/-- b, who stands nearer to c, has taken the word v -/
def took (μ : MS) (c v b : Nat) : Bool := decide (mK μ b ≠ 2 ∧ mK μ b ≠ 3 ∧ mT μ b c = v)
def kFree (μ : MS) (w : Nat) : Int32 := if mK μ w = 3 then 0 else 1
section PCount
variable {μ : MS}
theorem flag0 {b : Bool} : ((if b then (1 : Int32) else 0) = 0) ↔ b = false := by cases b <;> decide
/-- the words between are gone through -/
theorem l_between {x1 x3 : Int32} {c q w v : Nat} {I : Nat → Nat → Int32} (hW : mWF μ) (hS : RS (I 68) μ) (hK : RK (I 65) μ) (hc : c < mN μ) (hw : w < mN μ) (hq : q ≤ 6) (hv : v ≤ 6) (h2 : mK μ w ≠ 2) : ∀ (rem : List Nat) (x8 fuel : Nat) (b : Bool), RA (I 72) x8 rem → x8 + rem.length = q → (∀ u ∈ rem, u < mN μ) → l_D_counts (fuel + rem.length) 1 I x1 (nI c) x3 (nI q) (nI w) (nI v) (if b then 1 else 0) (nI x8) = l_D_counts fuel 1 I x1 (nI c) x3 (nI q) (nI w) (nI v) (if b && !(rem.any (took μ c v)) then 1 else 0) (nI q)
  | [], x8, fuel, b, _, h, _ => by
    rw [show x8 = q from h]
    simp
  | u :: rem, x8, fuel, b, hr, h, hm => by
    have h66 := hW.1
    have hl : (u :: rem).length = rem.length + 1 := rfl
    rw [hl] at h
    have hu := hm u List.mem_cons_self
    have hKu := hW.2.1 u hu
    have hKw := hW.2.1 w hw
    have hT := hW.2.2.2.2.1 u c hu hc
    have ih := fun b' => l_between (x1 := x1) (x3 := x3) hW hS hK hc hw hq hv h2 rem (x8 + 1) fuel b' hr.2 (by omega) (fun y hy => hm y (List.mem_cons_of_mem _ hy))
    have k2 : (nI (mK μ u) = 2) ↔ mK μ u = 2 := neq (b := 2) (by omega) (by omega)
    have k3 : (nI (mK μ u) = 3) ↔ mK μ u = 3 := neq (b := 3) (by omega) (by omega)
    have kw : (nI (mK μ w) = 2) ↔ mK μ w = 2 := neq (b := 2) (by omega) (by omega)
    have kv : (nI (mT μ u c) = nI v) ↔ mT μ u c = v := neq (by omega) (by omega)
    have ec : (6 : Int32) + 6 * nI u + nI c = nI (6 + 6 * u + c) := by rw [show (6 : Int32) = nI 6 from rfl, pk_mul, nI_add, nI_add]
    rw [hl, ← Nat.add_assoc, l_D_counts, if_neg (by decide), if_pos rfl, if_neg (fun z => by have := (nle (by omega) (by omega)).mp z; omega), if_pos (nzin (k := w) (N := 6) (by omega) (by decide)), ncl (by omega), hK w hw]
    rw [if_neg (fun z => h2 (kw.mp z)), if_pos (nzin (k := x8) (N := 6) (by omega) (by decide)), show nI x8 + 1 = nI (x8 + 1) from nI_add x8 1, ncl (by omega), hr.1, if_pos (nzin (k := u) (N := 6) (by omega) (by decide)), ncl (by omega), hK u hu, ec, if_pos (nzin (k := 6 + 6 * u + c) (N := 45) (by omega) (by decide)), ncl (by omega), hS.2.1 u c hu hc]
    have zu : zinb (nI u) 6 = true := nzin (by omega) (by decide)
    simp only [k2, k3, kv, flag0, zu, if_true]
    rw [List.any_cons]
    cases b with
    | false =>
      rw [if_pos rfl]
      have := ih false
      simpa using this
    | true =>
      rw [if_neg (by decide)]
      by_cases c2 : mK μ u = 2
      · rw [if_pos c2]
        have e : took μ c v u = false := by simp [took, c2]
        have := ih true
        simpa [e] using this
      · rw [if_neg c2]
        by_cases c3 : mK μ u = 3
        · rw [if_pos c3]
          have e : took μ c v u = false := by simp [took, c3]
          have := ih true
          simpa [e] using this
        · rw [if_neg c3]
          by_cases c4 : mT μ u c = v
          · rw [if_pos c4]
            have e : took μ c v u = true := by simp [took, c2, c3, c4]
            have := ih false
            simpa [e] using this
          · rw [if_neg c4]
            have e : took μ c v u = false := by simp [took, c4]
            have := ih true
            simpa [e] using this
end PCount
