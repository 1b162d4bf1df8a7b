/-! THE PURE PART: what the class's round does -/
def RA (F : Nat → Int32) : Nat → List Nat → Prop
  | _, [] => True
  | p, c :: r => F p = nI c ∧ RA F (p + 1) r
theorem RA.congr {F G : Nat → Int32} : ∀ {l : List Nat} {p : Nat}, (∀ k, p ≤ k → k < p + l.length → G k = F k) → RA F p l → RA G p l
  | [], _, _, _ => trivial
  | c :: r, p, h, h2 => ⟨(h p (Nat.le_refl p) (by simp)).trans h2.1, RA.congr (fun k h3 h4 => h k (by omega) (by simp; omega)) h2.2⟩
theorem RA.snoc {F : Nat → Int32} {c : Nat} : ∀ {l : List Nat} {p : Nat}, RA F p l → F (p + l.length) = nI c → RA F p (l ++ [c])
  | [], _, _, h => ⟨h, trivial⟩
  | d :: r, p, h, h2 => ⟨h.1, RA.snoc h.2 (by rw [← h2]; congr 1; simp; omega)⟩
theorem RA.left {F : Nat → Int32} {b : List Nat} : ∀ {a : List Nat} {p : Nat}, RA F p (a ++ b) → RA F p a
  | [], _, _ => trivial
  | _ :: _, _, h => ⟨h.1, RA.left h.2⟩
theorem RA.right {F : Nat → Int32} {b : List Nat} : ∀ {a : List Nat} {p : Nat}, RA F p (a ++ b) → RA F (p + a.length) b
  | [], _, h => h
  | _ :: a, p, h => by
    have := RA.right (a := a) h.2
    rw [List.length_cons, show p + (a.length + 1) = p + 1 + a.length by omega]
    exact this
theorem RA.get {F : Nat → Int32} : ∀ {l : List Nat} {p : Nat} (k : Nat) (h : k < l.length), RA F p l → F (p + k) = nI (l[k])
  | c :: r, p, 0, _, h => h.1
  | c :: r, p, k + 1, hk, h => by
    have := RA.get (l := r) (p := p + 1) k (by simpa using hk) h.2
    rw [show p + (k + 1) = p + 1 + k by omega, this]
    rfl
theorem orlt {B w k : Nat} (hB : B < 2 ^ k) (hw : w < k) : B ||| 2 ^ w < 2 ^ k := Nat.or_lt_two_pow hB (Nat.pow_lt_pow_right (by decide) hw)
theorem bitf {b : Bool} (h : ¬ b = true) : b = false := by cases b with
  | true => exact absurd rfl h
  | false => rfl
section PRound
variable {I : Nat → Nat → Int32} {m mk ml mt : Nat} {μ : MS}
theorem whoIn_in {q w : Nat} {r : List Nat} (hq : q < 6) (h : RA (I 13) q (w :: r)) : f_R_whoIn I (nI q) = nI w := by
  rw [f_R_whoIn, guard_in (g := fun j => I 13 j) (N := 6) hq (by decide)]
  exact h.1
theorem l_mouth (hR : RC I m mk ml mt μ) (hW : mWF μ) {p c : Nat} (hp : p < 100) (hc : c < mN μ) : ∀ (r : List Nat) (k q T B fuel : Nat), RA (I 13) q r → I 12 2 = nI (q + r.length) → q + r.length ≤ 6 → (∀ w ∈ r, w < mN μ) → p + 4 = q + k → r.length < fuel → T < 2 ^ 7 → B < 2 ^ 6 → l_R_mouthBits_17 m mk ml mt fuel I (nI p) (nI c) (nI B) (nI T) (nI q) = some (nI (mo μ c k T B r), I)
  | [], k, q, T, B, fuel + 1, _, hs, h6, _, hk, _, _, _ => by
    rw [l_R_mouthBits_17, hs, if_pos (c := nI (q + ([] : List Nat).length) ≤ nI q) ((nle (by omega) (by simp at h6 ⊢; omega)).mpr (by simp)), ite_self]
    cases k <;> rfl
  | w :: r, k, q, T, B, fuel + 1, hr, hs, h6, hm, hk, hf, hT, hB => by
    have h6' : q + (r.length + 1) ≤ 6 := h6
    have hl : (w :: r).length = r.length + 1 := rfl
    have e3 : nI p + 3 = nI (p + 3) := nI_add p 3
    have e1 : nI q + 1 = nI (q + 1) := nI_add q 1
    cases k with
    | zero =>
      rw [l_R_mouthBits_17, e3, if_pos ((nlt (by omega) (by omega)).mpr (by omega))]
      rfl
    | succ k =>
      have hw := hm w List.mem_cons_self
      have h66 := hW.1
      have hK := hW.2.1 w hw
      have ht := hW.2.2.2.2.1 w c hw hc
      have k2 : (nI (mK μ w) = 2) ↔ mK μ w = 2 := neq (b := 2) (by omega) (by omega)
      have k3 : (nI (mK μ w) = 3) ↔ mK μ w = 3 := neq (b := 3) (by omega) (by omega)
      have hb := fa_bit (n := T) (j := mT μ w c) (by omega)
      have hs2 : I 12 2 = nI (q + 1 + r.length) := by rw [hs, hl]; congr 1; omega
      have hf2 : r.length < fuel := by rw [hl] at hf; omega
      have hk2 : p + 4 = q + 1 + k := by omega
      have h62 : q + 1 + r.length ≤ 6 := by omega
      have hm2 : ∀ x ∈ r, x < mN μ := fun x hx => hm x (List.mem_cons_of_mem _ hx)
      have step : ∀ T' B', T' < 2 ^ 7 → B' < 2 ^ 6 → l_R_mouthBits_17 m mk ml mt fuel I (nI p) (nI c) (nI B') (nI T') (nI (q + 1)) = some (nI (mo μ c k T' B' r), I) := fun T' B' u v => l_mouth hR hW hp hc r k (q + 1) T' B' fuel hr.2 hs2 h62 hm2 hk2 hf2 u v
      have sT := orlt hT (show mT μ w c < 7 by omega)
      have sB := orlt hB (show w < 6 by omega)
      rw [l_R_mouthBits_17, e3, if_neg (fun z => by have := (nlt (by omega) (by omega)).mp z; omega), hs, if_neg (fun z => by rw [hl] at z; have := (nle (by omega) (by omega)).mp z; omega), whoIn_in (by omega) hr, kindOf_in hR hW hw, wordOf_in hR hW hw hc, e1, nsh1 w (by omega), nsh1 (mT μ w c) (by omega), fa_or, fa_or]
      simp only [k2, k3, hb]
      by_cases c2 : mK μ w = 2
      · simp only [mo, c2, if_true, true_or]
        exact step T _ hT sB
      · by_cases c3 : mK μ w = 3
        · simp only [mo, c2, c3, if_true, if_false, or_true, false_or, ne_eq, not_true, false_and, show ¬ (3 : Nat) = 2 by decide]
          exact step T _ hT hB
        · by_cases c4 : T.testBit (mT μ w c) = false
          · simp only [mo, c2, c3, c4, if_true, if_false, or_self, false_or, ne_eq, not_false_iff, and_self]
            exact step _ _ sT sB
          · simp only [mo, c2, c3, c4, if_false, or_self, ne_eq, not_false_iff, and_false]
            exact step _ _ sT hB
theorem mo_lt (μ : MS) (c : Nat) : ∀ (k T B : Nat) (r : List Nat), (∀ w ∈ r, w < 6) → B < 2 ^ 6 → mo μ c k T B r < 2 ^ 6
  | 0, _, _, _, _, h => h
  | k + 1, _, _, [], _, h => h
  | k + 1, T, B, w :: r, hr, h => by
    rw [mo]
    refine mo_lt μ c k _ _ r (fun x hx => hr x (List.mem_cons_of_mem _ hx)) ?_
    split
    · exact orlt h (hr w List.mem_cons_self)
    · exact h
theorem x_mouth (hR : RC I m mk ml mt μ) (hW : mWF μ) {p c : Nat} {r : List Nat} (hr : RA (I 13) p (c :: r)) (hs : I 12 2 = nI (p + (r.length + 1))) (h6 : p + (r.length + 1) ≤ 6) (hm : ∀ w ∈ c :: r, w < mN μ) : x_R_mouthBits m mk ml mt I (nI p) = some (nI (mo μ c 3 0 0 r), I) := by
  have h := l_mouth (p := p) hR hW (by omega) (hm c List.mem_cons_self) r 3 (p + 1) 0 0 1000 hr.2 (by rw [hs]; congr 1; omega) (by omega) (fun x hx => hm x (List.mem_cons_of_mem _ hx)) (by omega) (by omega) (by decide) (by decide)
  rw [nI_0] at h
  rw [x_R_mouthBits, whoIn_in (by omega) hr, show nI p + 1 = nI (p + 1) from nI_add p 1, h]
theorem x_worth (hR : RC I m mk ml mt μ) (hW : mWF μ) {i c : Nat} (hi : i < mN μ) (hc : c < mN μ) : x_M_worthOf m mk ml mt I (nI i) (nI c) = some (mw μ i c, I) := by
  have h6 := hW.1
  have hK := hW.2.1 i hi
  have k1 : (nI (mK μ i) = 1) ↔ mK μ i = 1 := neq (b := 1) (by omega) (by omega)
  have k4 : (nI (mK μ i) = 4) ↔ mK μ i = 4 := neq (b := 4) (by omega) (by omega)
  rw [x_M_worthOf, kindOf_in hR hW hi, wordOf_in hR hW hi hc]
  simp only [k1, k4, mw]
  split
  · rfl
  · split <;> rfl
theorem l_hear (hR : RC I m mk ml mt μ) (hW : mWF μ) {p c B : Nat} (hp : f_R_whoIn I (nI p) = nI c) (hc : c < mN μ) (hB : B < 64) : ∀ (d i fuel : Nat), i + d = mN μ → d < fuel → l_R_hearsay_13 m mk ml mt fuel I (nI p) (nI B) (ms μ B c i) (nI i) = some (ms μ B c (mN μ), I)
  | 0, i, fuel + 1, hi, _ => by
    have h6 := hW.1
    rw [l_R_hearsay_13, f_M_size, hR.1, if_pos ((nle (by omega) (by omega)).mpr (by omega)), show i = mN μ by omega]
  | d + 1, i, fuel + 1, hi, hf => by
    have h6 := hW.1
    have e1 : nI i + 1 = nI (i + 1) := nI_add i 1
    have step := l_hear hR hW hp hc hB d (i + 1) fuel (by omega) (by omega)
    rw [l_R_hearsay_13, f_M_size, hR.1, if_neg (fun z => by have := (nle (by omega) (by omega)).mp z; omega), f_G_isIn, e1, hp, x_worth hR hW (by omega) hc]
    have hb := nbit B hB i (by omega)
    rw [ms] at step
    by_cases c1 : B.testBit i = true
    · rw [if_pos c1] at step
      rw [if_pos (hb.mpr c1), if_neg (by decide)]
      exact step
    · rw [if_neg c1] at step
      rw [if_neg (fun z => c1 (hb.mp z)), if_pos rfl]
      exact step
theorem x_hear (hR : RC I m mk ml mt μ) (hW : mWF μ) {p c : Nat} {r : List Nat} (hr : RA (I 13) p (c :: r)) (hs : I 12 2 = nI (p + (r.length + 1))) (h6 : p + (r.length + 1) ≤ 6) (hm : ∀ w ∈ c :: r, w < mN μ) : x_R_hearsay m mk ml mt I (nI p) = some (ms μ (mo μ c 3 0 0 r) c (mN μ), I) := by
  have h66 := hW.1
  have h := l_hear hR hW (whoIn_in (by omega) hr) (hm c List.mem_cons_self) (mo_lt μ c 3 0 0 r (fun x hx => Nat.lt_of_lt_of_le (hm x (List.mem_cons_of_mem _ hx)) h66) (by decide)) (mN μ) 0 1000 (by omega) (by omega)
  rw [nI_0, ms] at h
  rw [x_R_hearsay, x_mouth hR hW hr hs h6 hm, Option.bind_some, h]
/-- the round's state behind the grinding -/
def rs (I : Nat → Nat → Int32) (s : Nat) (F : Nat → Int32) : Nat → Nat → Int32 := zrow (zui I 12 4 (nI s)) 14 F
theorem rs_ne {s : Nat} {F : Nat → Int32} {a : Nat} (h1 : a ≠ 12) (h2 : a ≠ 14) : rs I s F a = I a := by
  rw [rs, zrow, if_neg h2, zui_ne _ _ _ h1]
theorem rs_12 {s : Nat} {F : Nat → Int32} {j : Nat} (h : j ≠ 4) : rs I s F 12 j = I 12 j := by
  rw [rs, zrow, if_neg (by decide), zui_self, pk_un h]
theorem rs_s {s : Nat} {F : Nat → Int32} : rs I s F 12 4 = nI s := by
  rw [rs, zrow, if_neg (by decide), zui_self, pk_us]
theorem rs_F {s : Nat} {F : Nat → Int32} : rs I s F 14 = F := by
  rw [rs, zrow, if_pos rfl]
theorem rs_rs {s t : Nat} {F G : Nat → Int32} : rs (rs I s F) t G = rs I t G := by
  funext a
  by_cases h2 : a = 14
  · rw [h2, rs_F, rs_F]
  · by_cases h1 : a = 12
    · rw [h1]
      funext j
      by_cases hj : j = 4
      · rw [hj, rs_s, rs_s]
      · rw [rs_12 hj, rs_12 hj, rs_12 hj]
    · rw [rs_ne h1 h2, rs_ne h1 h2, rs_ne h1 h2]
theorem rs_self {s : Nat} (h : I 12 4 = nI s) : I = rs I s (I 14) := by
  funext a
  by_cases h2 : a = 14
  · rw [h2, rs_F]
  · by_cases h1 : a = 12
    · rw [h1]
      funext j
      by_cases hj : j = 4
      · rw [hj, rs_s, h]
      · rw [rs_12 hj]
    · rw [rs_ne h1 h2]
/-- one is served -/
theorem g_served {s f c : Nat} (hs : I 12 4 = nI s) (h9 : s ≤ 9) (hf : f ≤ 9) (hc : c < 6) : g_R_wear (g_R_hand I (nI c) (nI f)) (nI f) = rs I (mwear s f) (upd (I 14) c (nI f)) := by
  have e0 : g_R_hand I (nI c) (nI f) = zui I 14 c (nI f) := by
    rw [g_R_hand, guard_in (g := fun j => zui I 14 j (nI f)) (N := 6) hc (by decide)]
  have e4 : (zui I 14 c (nI f)) 12 4 = nI s := by rw [zui_ne _ _ _ (by decide), hs]
  have e5 : ∀ t : Nat, zui (zui I 14 c (nI f)) 12 4 (nI t) = rs I t (upd (I 14) c (nI f)) := by
    intro t
    funext a
    by_cases h2 : a = 14
    · rw [h2, rs_F, zui_ne _ _ _ (by decide), zui_self]
    · by_cases h1 : a = 12
      · rw [h1, zui_self, zui_ne _ _ _ (by decide)]
        funext j
        by_cases hj : j = 4
        · rw [hj, rs_s, pk_us]
        · rw [rs_12 hj, pk_un hj]
      · rw [rs_ne h1 h2, zui_ne _ _ _ h1, zui_ne _ _ _ h2]
  have e6 : zui I 14 c (nI f) = rs I s (upd (I 14) c (nI f)) := by
    rw [← e5 s]
    funext a
    by_cases h1 : a = 12
    · rw [h1, zui_self, zui_ne _ _ _ (by decide)]
      funext j
      by_cases hj : j = 4
      · rw [hj, pk_us, hs]
      · rw [pk_un hj]
    · rw [zui_ne _ _ _ h1]
  rw [g_R_wear, e0, e4, mwear]
  by_cases h1 : s < f
  · rw [if_neg (fun z => by have := (nle (by omega) (by omega)).mp z; omega), if_pos h1, show nI s + 1 = nI (s + 1) from nI_add s 1, e5]
  · rw [if_pos ((nle (by omega) (by omega)).mpr (by omega)), if_neg h1]
    by_cases h2 : f < s
    · rw [if_neg (fun z => by have := (nle (by omega) (by omega)).mp z; omega), if_pos h2, show nI s - 1 = nI (s - 1) from pk_sub (b := 1) (by omega), e5]
    · rw [if_pos ((nle (by omega) (by omega)).mpr (by omega)), if_neg h2, e6]
theorem mf_eq (μ : MS) (c s : Nat) (r : List Nat) : clampI (nI s + ms μ (mo μ c 3 0 0 r) c (mN μ)) = nI (mf μ c s r) := (clampI_in _).1
end PRound
