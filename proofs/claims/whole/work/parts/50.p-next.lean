/-! THE PURE PART: the class's next order -/
def AG (I : Nat → Nat → Int32) (n : Nat) (F : Nat → Nat) : Prop := ∀ j, j < n → I 13 j = nI (F j) ∧ F j < 6
theorem g_trade {I : Nat → Nat → Int32} {n p q : Nat} {F : Nat → Nat} (h : AG I n F) (h6 : n ≤ 6) (hp : p < n) (hq : q < n) : AG (g_R_trade I (nI p) (nI q)) n (trd F p q) ∧ ∀ a, a ≠ 13 → (g_R_trade I (nI p) (nI q)) a = I a := by
  have e : g_R_trade I (nI p) (nI q) = zui (zui I 13 p (I 13 q)) 13 q (I 13 p) := by
    have np : ¬ nI p < 0 := nneg (by omega)
    have nq : ¬ nI q < 0 := nneg (by omega)
    have np6 : ¬ Int32.ofNat 6 ≤ nI p := fun z => by have := (nle (a := 6) (by omega) (by omega)).mp z; omega
    have nq6 : ¬ Int32.ofNat 6 ≤ nI q := fun z => by have := (nle (a := 6) (by omega) (by omega)).mp z; omega
    rw [g_R_trade, if_neg np, if_neg np6, if_neg nq, if_neg nq6, ncl (by omega), ncl (by omega)]
  rw [e]
  refine ⟨fun j hj => ?_, fun a ha => by rw [zui_ne _ _ _ ha, zui_ne _ _ _ ha]⟩
  rw [zui_self, zui_self]
  unfold trd
  by_cases hjq : j = q
  · rw [hjq, pk_us, if_pos rfl]
    exact h p hp
  · rw [pk_un hjq, if_neg hjq]
    by_cases hjp : j = p
    · rw [hjp, pk_us, if_pos rfl]
      exact h q hq
    · rw [pk_un hjp, if_neg hjp]
      exact h j hj
theorem who_ag {I : Nat → Nat → Int32} {n j : Nat} {F : Nat → Nat} (h : AG I n F) (h6 : n ≤ 6) (hj : j < n) : f_R_whoIn I (nI j) = nI (F j) := by
  rw [f_R_whoIn, guard_in (g := fun j => I 13 j) (N := 6) (by omega) (by decide)]
  exact (h j hj).1
theorem l_rvs {n : Nat} {x1 x2 : Int32} (h6 : n ≤ 6) : ∀ (m lo hi fuel : Nat) (I : Nat → Nat → Int32) (F : Nat → Nat), AG I n F → 1 ≤ lo → lo + m ≤ 20 → hi < n → hi ≤ lo + m → m < fuel → ∃ J, l_R_nextOrder_87 fuel I x1 x2 (nI lo) (nI hi) = some (1, J) ∧ AG J n (rvs m lo hi F) ∧ ∀ a, a ≠ 13 → J a = I a
  | 0, lo, hi, fuel + 1, I, F, h, h1, h20, h2, h3, _ => by
    refine ⟨I, ?_, h, fun _ _ => rfl⟩
    rw [l_R_nextOrder_87, if_pos ((nle (by omega) (by omega)).mpr (by omega))]
  | m + 1, lo, hi, fuel + 1, I, F, h, h1, h20, h2, h3, hf => by
    rw [rvs]
    by_cases hl : hi ≤ lo
    · refine ⟨I, ?_, by rw [if_pos hl]; exact h, fun _ _ => rfl⟩
      rw [l_R_nextOrder_87, if_pos ((nle (by omega) (by omega)).mpr hl)]
    · obtain ⟨t1, t2⟩ := g_trade h h6 (p := lo) (q := hi) (by omega) h2
      obtain ⟨J, j0, j1, j2⟩ := l_rvs (x1 := x1) (x2 := x2) h6 m (lo + 1) (hi - 1) fuel _ _ t1 (by omega) (by omega) (by omega) (by omega) (by omega)
      refine ⟨J, ?_, by rw [if_neg hl]; exact j1, fun a ha => (j2 a ha).trans (t2 a ha)⟩
      have e : nI hi + -1 = nI (hi - 1) := by
        have := pk_m1 (hi - 1)
        rw [show hi - 1 + 1 = hi by omega] at this
        exact this
      rw [l_R_nextOrder_87, if_neg (fun z => hl ((nle (by omega) (by omega)).mp z)), show nI lo + 1 = nI (lo + 1) from nI_add lo 1, e]
      exact j0
/-- behind the exchange -/
def tailN (I : Nat → Nat → Int32) (n p q : Nat) : Option (Int32 × (Nat → Nat → Int32)) := l_R_nextOrder_87 1000 (g_R_trade I (nI p) (nI q)) (nI p) (nI q) (nI (p + 1)) (nI (n - 1))
theorem l_oth {n p : Nat} {I : Nat → Nat → Int32} {F : Nat → Nat} (h : AG I n F) (h6 : n ≤ 6) (hs : I 12 2 = nI n) (hp : p < n) : ∀ (k fuel : Nat), k < n → k < fuel → l_R_nextOrder_45 fuel I (nI p) (nI k) = tailN I n p (oth F p k) ∧ oth F p k < n
  | 0, fuel + 1, hk, _ => by
    obtain ⟨t1, t2⟩ := g_trade h h6 (p := p) (q := 0) hp hk
    have e : (g_R_trade I (nI p) (nI 0)) 12 2 - 1 = nI (n - 1) := by
      rw [t2 12 (by decide), hs]
      exact pk_sub (b := 1) (by omega)
    refine ⟨?_, hk⟩
    rw [l_R_nextOrder_45, if_pos ((nle (by omega) (by omega)).mpr (by omega)), e, show nI p + 1 = nI (p + 1) from nI_add p 1]
    rfl
  | k + 1, fuel + 1, hk, hf => by
    obtain ⟨t1, t2⟩ := g_trade h h6 (p := p) (q := k + 1) hp hk
    have e : (g_R_trade I (nI p) (nI (k + 1))) 12 2 - 1 = nI (n - 1) := by
      rw [t2 12 (by decide), hs]
      exact pk_sub (b := 1) (by omega)
    have b1 := (h p hp).2
    have b2 := (h (k + 1) hk).2
    rw [l_R_nextOrder_45, who_ag h h6 hp, who_ag h h6 hk, e, show nI p + 1 = nI (p + 1) from nI_add p 1, show nI (k + 1) + -1 = nI k from pk_m1 k, oth]
    by_cases c1 : k + 1 ≤ p
    · rw [if_pos ((nle (by omega) (by omega)).mpr c1), if_pos c1]
      exact ⟨rfl, hk⟩
    · rw [if_neg (fun z => c1 ((nle (by omega) (by omega)).mp z)), if_neg c1]
      by_cases c2 : F p ≤ F (k + 1)
      · rw [if_pos ((nle (by omega) (by omega)).mpr c2), if_pos c2]
        exact ⟨rfl, hk⟩
      · rw [if_neg (fun z => c2 ((nle (by omega) (by omega)).mp z)), if_neg c2]
        exact l_oth h h6 hs hp k fuel (by omega) (by omega)
theorem l_pvt {n : Nat} {I : Nat → Nat → Int32} {F : Nat → Nat} (h : AG I n F) (h6 : n ≤ 6) (hs : I 12 2 = nI n) : ∀ (k fuel : Nat), k < n → k < fuel → l_R_nextOrder_7 fuel I (nI k + -1) = (match pvt F k with
    | none => some (0, I)
    | some p => tailN I n p (oth F p (n - 1))) ∧ ∀ p, pvt F k = some p → p + 1 < n ∧ oth F p (n - 1) < n
  | 0, fuel + 1, hk, _ => by
    refine ⟨?_, fun p q => by cases q⟩
    have e : nI 0 + -1 = -1 := rfl
    rw [l_R_nextOrder_7, e, if_pos (by decide), if_neg (by decide)]
    rfl
  | k + 1, fuel + 1, hk, hf => by
    have b1 := (h k (by omega)).2
    have b2 := (h (k + 1) hk).2
    rw [l_R_nextOrder_7, show nI (k + 1) + -1 = nI k from pk_m1 k, if_neg (nneg (by omega)), show nI k + 1 = nI (k + 1) from nI_add k 1, who_ag h h6 (by omega), who_ag h h6 hk, pvt]
    by_cases c2 : F k ≤ F (k + 1)
    · have e1 : I 12 2 - 1 = nI (n - 1) := by
        rw [hs]
        exact pk_sub (b := 1) (by omega)
      obtain ⟨o1, o2⟩ := l_oth h h6 hs (p := k) (by omega) (n - 1) 1000 (by omega) (by omega)
      rw [if_pos ((nle (by omega) (by omega)).mpr c2), if_pos c2, if_pos (show (0 : Int32) ≤ nI k from (nle (a := 0) (by omega) (by omega)).mpr (by omega)), e1, o1]
      refine ⟨rfl, fun p q => ?_⟩
      cases q
      exact ⟨hk, o2⟩
    · rw [if_neg (fun z => c2 ((nle (by omega) (by omega)).mp z)), if_neg c2]
      exact l_pvt h h6 hs k fuel (by omega) (by omega)
theorem RA_of {F : Nat → Int32} : ∀ (L : List Nat) (p : Nat), (∀ k, k < L.length → F (p + k) = nI (L.getD k 0)) → RA F p L
  | [], _, _ => trivial
  | c :: r, p, h => by
    refine ⟨h 0 (by simp), RA_of r (p + 1) (fun k hk => ?_)⟩
    have := h (k + 1) (by simpa using hk)
    rw [show p + 1 + k = p + (k + 1) by omega, this]
    rfl
theorem getD_mem : ∀ (L : List Nat) (k : Nat), k < L.length → L.getD k 0 ∈ L
  | c :: r, 0, _ => List.mem_cons_self
  | c :: r, k + 1, h => List.mem_cons_of_mem _ (getD_mem r k (by simpa using h))
theorem RA.getD {F : Nat → Int32} : ∀ {L : List Nat} {p : Nat} (k : Nat), RA F p L → k < L.length → F (p + k) = nI (L.getD k 0)
  | c :: r, p, 0, h, _ => h.1
  | c :: r, p, k + 1, h, hk => by
    have := RA.getD (L := r) (p := p + 1) k h.2 (by simpa using hk)
    rw [show p + (k + 1) = p + 1 + k by omega, this]
    rfl
theorem x_next {I : Nat → Nat → Int32} {L : List Nat} (hr : RA (I 13) 0 L) (hs : I 12 2 = nI L.length) (h6 : L.length ≤ 6) (hm : ∀ w ∈ L, w < 6) : (nxL L = none → x_R_nextOrder I = some (0, I)) ∧ (∀ M, nxL L = some M → ∃ J, x_R_nextOrder I = some (1, J) ∧ (∀ a, a ≠ 13 → J a = I a) ∧ RA (J 13) 0 M ∧ M.length = L.length) := by
  have hag : AG I L.length (fun j => L.getD j 0) := fun j hj => by
    have := RA.getD j hr hj
    rw [Nat.zero_add] at this
    exact ⟨this, hm _ (getD_mem L j hj)⟩
  by_cases h0 : L.length = 0
  · have e : L = [] := List.length_eq_zero_iff.mp h0
    rw [e] at hs ⊢
    constructor
    · intro _
      rw [x_R_nextOrder, hs]
      rfl
    · intro M z
      cases z
  · have st : I 12 2 - 2 = nI (L.length - 1) + -1 := by
      rw [hs]
      by_cases h1 : L.length = 1
      · rw [h1]
        decide
      · have e1 : nI L.length - 2 = nI (L.length - 2) := pk_sub (b := 2) (by omega)
        have e2 := pk_m1 (L.length - 2)
        rw [show L.length - 2 + 1 = L.length - 1 by omega] at e2
        rw [e1, e2]
    obtain ⟨p1, p2⟩ := l_pvt hag h6 hs (L.length - 1) 1000 (by omega) (by omega)
    rw [← st] at p1
    unfold nxL nxF
    cases hp : pvt (fun j => L.getD j 0) (L.length - 1) with
    | none =>
      rw [hp] at p1
      refine ⟨fun _ => by rw [x_R_nextOrder]; exact p1, fun M z => by cases z⟩
    | some p =>
      rw [hp] at p1
      obtain ⟨q1, q2⟩ := p2 p hp
      refine ⟨fun z => (by cases z), fun M z => ?_⟩
      obtain ⟨t1, t2⟩ := g_trade hag h6 (p := p) (by omega) q2
      obtain ⟨J, j0, j1, j2⟩ := l_rvs (x1 := nI p) (x2 := nI (oth (fun j => L.getD j 0) p (L.length - 1))) h6 6 (p + 1) (L.length - 1) 1000 _ _ t1 (by omega) (by omega) (by omega) (by omega) (by omega)
      cases z
      refine ⟨J, ?_, fun a ha => (j2 a ha).trans (t2 a ha), ?_, by simp⟩
      · rw [x_R_nextOrder, p1]
        exact j0
      · refine RA_of _ 0 (fun k hk => ?_)
        have hk2 : k < L.length := by simpa using hk
        rw [Nat.zero_add, (j1 k hk2).1]
        congr 1
        simp [List.getD, hk2]
/-! the reference's orders -/
theorem l_codes {n : Nat} {I : Nat → Nat → Int32} (hn : n ≤ 6) : ∀ (d i fuel : Nat), i + d = n → d < fuel → l_D_codes_4 fuel I (nI n) (nI (6 ^ i)) (nI i) = some (nI (6 ^ n), I)
  | 0, i, fuel + 1, hi, _ => by
    rw [l_D_codes_4, if_pos ((nle (by omega) (by omega)).mpr (by omega)), show i = n by omega]
  | d + 1, i, fuel + 1, hi, hf => by
    rw [l_D_codes_4, if_neg (fun z => by have := (nle (by omega) (by omega)).mp z; omega), show nI i + 1 = nI (i + 1) from nI_add i 1, show nI (6 ^ i) * 6 = nI (6 ^ i * 6) from pk_mul _ 6, ← Nat.pow_succ]
    exact l_codes hn d (i + 1) fuel (by omega) (by omega)
theorem x_codes {n : Nat} (hn : n ≤ 6) (I : Nat → Nat → Int32) : x_D_codes I (nI n) = some (nI (6 ^ n), I) := by
  have h := l_codes (I := I) hn n 0 1000 (by omega) (by omega)
  rw [nI_0] at h
  rw [x_D_codes]
  exact h
theorem l_orders {n x T : Nat} {x1 x2 : Int32} (hn : n ≤ 6) (hx : x < 100000) (hT : T < 64) : ∀ (k fuel : Nat) (I : Nat → Nat → Int32), k ≤ n → k < fuel → f_D_there I = nI T → RA (I 72) k (dg (n - k) x) → ∃ J, l_D_orders_15 fuel I x1 x2 (nI (x / 6 ^ (n - k))) (nI (ob (dg (n - k) x))) (nI k + -1) = some (if ob (dg n x) = T then 1 else 0, J) ∧ (∀ a, a ≠ 72 → J a = I a) ∧ RA (J 72) 0 (dg n x)
  | 0, fuel + 1, I, _, _, ht, hr => by
    rw [Nat.sub_zero] at hr ⊢
    have hlt := ob_lt (dg n x) (dg_six n x)
    have e : nI 0 + -1 = -1 := rfl
    refine ⟨I, ?_, fun _ _ => rfl, hr⟩
    have hq : nI (ob (dg n x)) = nI T ↔ ob (dg n x) = T := neq (by omega) (by omega)
    rw [l_D_orders_15, e, if_pos (by decide), ht]
    by_cases h : ob (dg n x) = T
    · rw [if_pos (hq.mpr h), if_pos h]
    · rw [if_neg (fun z => h (hq.mp z)), if_neg h]
  | k + 1, fuel + 1, I, hk, hf, ht, hr => by
    have em : n - k = n - (k + 1) + 1 := by omega
    generalize hm : n - (k + 1) = m at hr em ⊢
    have hlo : x / 6 ^ m ≤ x := Nat.div_le_self _ _
    have hmod : x / 6 ^ m % 6 < 6 := Nat.mod_lt _ (by omega)
    have e1 : nI (x / 6 ^ m) / 6 = nI (x / 6 ^ (m + 1)) := by
      rw [Nat.pow_succ, ← Nat.div_div_eq_div_mul]
      exact pk_div (d := 6) (by omega) (by omega) (by omega)
    have e2 : nI (x / 6 ^ m) - nI (x / 6 ^ m) / 6 * 6 = nI (x / 6 ^ m % 6) := pk_rem (d := 6) (by omega) (by omega) (by omega)
    have zk : zinb (nI k) 6 = true := nzin (by omega) (by decide)
    obtain ⟨J, j0, j1, j2⟩ := l_orders (x1 := x1) (x2 := x2) hn hx hT k fuel (zui I 72 k (nI (x / 6 ^ m % 6))) (by omega) (by omega) (by rw [← ht, f_D_there, f_D_there, zui_ne _ _ _ (by decide), zui_ne _ _ _ (by decide)]) (by
      rw [zui_self, em, dg]
      exact ⟨pk_us, RA.congr (fun j hj _ => pk_un (by omega)) hr⟩)
    refine ⟨J, ?_, fun a ha => (j1 a ha).trans (zui_ne _ _ _ ha), j2⟩
    rw [l_D_orders_15, show nI (k + 1) + -1 = nI k from pk_m1 k, if_neg (nneg (by omega)), if_pos zk, if_pos zk, ncl (by omega), e2, e1, zui_self, pk_us, nsh1 _ (by omega), fa_or]
    rw [em, dg, ob] at j0
    exact j0
theorem x_orders {n x T : Nat} {I : Nat → Nat → Int32} (hn : n ≤ 6) (hx : x < 100000) (hT : T < 64) (ht : f_D_there I = nI T) : ∃ J, x_D_orders I (nI x) (nI n) = some (if ob (dg n x) = T then 1 else 0, J) ∧ Stood I J (dg n x) := by
  have q1 : ∀ a, a ≠ 63 → (zui I 63 16 (nI n)) a = I a := fun a h => zui_ne _ _ _ h
  have q2 : ∀ j, j ≠ 16 → (zui I 63 16 (nI n)) 63 j = I 63 j := fun j h => by rw [zui_self, pk_un h]
  obtain ⟨J, j0, j1, j2⟩ := l_orders (x1 := nI x) (x2 := nI n) hn hx hT n 1000 (zui I 63 16 (nI n)) (Nat.le_refl n) (by omega) (by rw [← ht, f_D_there, f_D_there, q1 68 (by decide), q2 2 (by decide)]) (by rw [Nat.sub_self]; trivial)
  rw [Nat.sub_self] at j0
  have e0 : x / 6 ^ 0 = x := by rw [Nat.pow_zero, Nat.div_one]
  have e1 : nI n - 1 = nI n + -1 := by
    by_cases h : n = 0
    · rw [h]
      rfl
    · have h1 : nI n - 1 = nI (n - 1) := pk_sub (b := 1) (by omega)
      have h2 := pk_m1 (n - 1)
      rw [show n - 1 + 1 = n by omega] at h2
      rw [h1, h2]
  rw [e0] at j0
  refine ⟨J, ?_, fun a a1 a2 => (j1 a a2).trans (q1 a a1), fun j hj => ?_, j2, ?_⟩
  · rw [x_D_orders, e1]
    exact j0
  · rw [j1 63 (by decide)]
    exact q2 j hj
  · rw [j1 63 (by decide), zui_self, pk_us, dg_len]
