/-! THE PURE PART: what holds between calls -/
def IKc (I : Nat → Nat → Int32) (q : Nat) (kl : Nat → MS) : Prop := I 53 1 = nI q ∧ ∀ j, j < q → RC I (55 + 4 * j) (55 + 4 * j + 1) (55 + 4 * j + 2) (55 + 4 * j + 3) (kl j)
def IKd (I : Nat → Nat → Int32) (q : Nat) (kl : Nat → MS) : Prop := I 63 11 = nI q ∧ ∀ j, j < q → RS (fun x => I 70 (45 * j + x)) (kl j)
def IT (I : Nat → Nat → Int32) (n : Nat) (tx : Nat → Nat) : Prop := I 1 2 = nI n ∧ I 63 1 = nI n ∧ n ≤ 200 ∧ ∀ k, k < n → I 2 k = nI (tx k) ∧ I 64 k = nI (tx k) ∧ 32 ≤ tx k ∧ tx k ≤ 126
def sim (μ ν : MS) : Prop := mOK ν ∧ mN ν = mN μ ∧ mK ν = mK μ
def INV (I : Nat → Nat → Int32) (μ : MS) (r k : Nat) (pl : Nat → MS) (q : Nat) (kl : Nat → MS) (sl : List (Nat × Nat)) (n : Nat) (tx : Nat → Nat) : Prop := mOK μ ∧ IM I μ ∧ (r < 8 ∧ k ≤ 8 ∧ q ≤ 2) ∧ IPc I r k pl ∧ IPd I k pl ∧ IKc I q kl ∧ IKd I q kl ∧ (∀ j, j < k → sim μ (pl j)) ∧ (∀ j, j < q → sim μ (kl j)) ∧ IS I (mN μ) sl ∧ IT I n tx
theorem IM.congr {I K : Nat → Nat → Int32} {μ : MS} (h : IM I μ) (e : ∀ a, (4 ≤ a ∧ a ≤ 7) ∨ a = 65 ∨ a = 68 → K a = I a) (e2 : K 63 2 = I 63 2) : IM K μ := by
  refine ⟨h.1.congr (e 4 (by omega)) (e 5 (by omega)) (e 6 (by omega)) (e 7 (by omega)), ?_, ?_, e2.trans h.2.2.2⟩
  · rw [e 68 (by omega)]
    exact h.2.1
  · rw [e 65 (by omega)]
    exact h.2.2.1
theorem IPc.congr {I K : Nat → Nat → Int32} {r k : Nat} {pl : Nat → MS} (h : IPc I r k pl) (e : ∀ a, 19 ≤ a ∧ a ≤ 52 → K a = I a) : IPc K r k pl := by
  refine ⟨by rw [e 19 (by omega)]; exact h.1, fun j hj => ?_⟩
  have hb := zslot_lt r j
  exact (h.2 j hj).congr (e _ (by omega)) (e _ (by omega)) (e _ (by omega)) (e _ (by omega))
theorem IPd.congr {I K : Nat → Nat → Int32} {k : Nat} {pl : Nat → MS} (h : IPd I k pl) (e : K 69 = I 69) (e2 : K 63 9 = I 63 9) : IPd K k pl := by
  refine ⟨e2.trans h.1, fun j hj => ?_⟩
  rw [e]
  exact h.2 j hj
theorem IKc.congr {I K : Nat → Nat → Int32} {q : Nat} {kl : Nat → MS} (h : IKc I q kl) (hq : q ≤ 2) (e : ∀ a, 53 ≤ a ∧ a ≤ 62 → K a = I a) : IKc K q kl := by
  refine ⟨by rw [e 53 (by omega)]; exact h.1, fun j hj => ?_⟩
  exact (h.2 j hj).congr (e _ (by omega)) (e _ (by omega)) (e _ (by omega)) (e _ (by omega))
theorem IKd.congr {I K : Nat → Nat → Int32} {q : Nat} {kl : Nat → MS} (h : IKd I q kl) (e : K 70 = I 70) (e2 : K 63 11 = I 63 11) : IKd K q kl := by
  refine ⟨e2.trans h.1, fun j hj => ?_⟩
  rw [e]
  exact h.2 j hj
theorem IS.congr {I K : Nat → Nat → Int32} {n : Nat} {sl : List (Nat × Nat)} (h : IS I n sl) (e : ∀ a, a = 16 ∨ a = 17 ∨ a = 18 ∨ a = 71 → K a = I a) (e2 : K 63 13 = I 63 13) : IS K n sl := by
  refine ⟨SA.congr (fun x _ _ => ⟨by rw [e 17 (by omega)], by rw [e 18 (by omega)], by rw [e 71 (by omega)]⟩) h.1, ?_, e2.trans h.2.2.1, h.2.2.2⟩
  rw [e 16 (by omega)]
  exact h.2.1
theorem IT.congr {I K : Nat → Nat → Int32} {n : Nat} {tx : Nat → Nat} (h : IT I n tx) (e : K 1 2 = I 1 2) (e1 : K 2 = I 2) (e2 : K 64 = I 64) (e3 : K 63 1 = I 63 1) : IT K n tx := by
  refine ⟨e.trans h.1, e3.trans h.2.1, h.2.2.1, ?_⟩
  rw [e1, e2]
  exact h.2.2.2
theorem INV.keep {I K : Nat → Nat → Int32} {μ : MS} {r k : Nat} {pl : Nat → MS} {q : Nat} {kl : Nat → MS} {sl : List (Nat × Nat)} {n : Nat} {tx : Nat → Nat} (h : INV I μ r k pl q kl sl n tx) (kp : KP I K) : INV K μ r k pl q kl sl n tx := by
  obtain ⟨h1, h2, h3, h4, h5, h6, h7, h8, h9, h10, h11⟩ := h
  have e : ∀ a, a ≠ 1 → a ≠ 3 → ¬ (8 ≤ a ∧ a ≤ 15) → a ≠ 63 → a ≠ 66 → a ≠ 67 → ¬ (72 ≤ a ∧ a ≤ 75) → K a = I a := kp.1
  refine ⟨h1, h2.keep kp, h3, h4.congr (fun a _ => e a (by omega) (by omega) (by omega) (by omega) (by omega) (by omega) (by omega)), h5.congr (e 69 (by decide) (by decide) (by decide) (by decide) (by decide) (by decide) (by decide)) (kp.2.2 9 (by omega)), h6.congr h3.2.2 (fun a _ => e a (by omega) (by omega) (by omega) (by omega) (by omega) (by omega) (by omega)), h7.congr (e 70 (by decide) (by decide) (by decide) (by decide) (by decide) (by decide) (by decide)) (kp.2.2 11 (by omega)), h8, h9, h10.keep kp, h11.congr kp.2.1 (e 2 (by decide) (by decide) (by decide) (by decide) (by decide) (by decide) (by decide)) (e 64 (by decide) (by decide) (by decide) (by decide) (by decide) (by decide) (by decide)) (kp.2.2 1 (by omega))⟩
theorem INV.step {I K : Nat → Nat → Int32} {μ μ' : MS} {r k r' k' : Nat} {pl pl' : Nat → MS} {q : Nat} {kl : Nat → MS} {sl : List (Nat × Nat)} {n : Nat} {tx : Nat → Nat} (h : INV I μ r k pl q kl sl n tx) (hs : sim μ μ') (hR : RC K 4 5 6 7 μ') (hS : RS (K 68) μ') (hr : r' < 8) (hk : k' ≤ 8) (hc : IPc K r' k' pl') (hd : IPd K k' pl') (hp : ∀ j, j < k' → sim μ (pl' j)) (e : ∀ a, a = 1 ∨ a = 2 ∨ a = 16 ∨ a = 17 ∨ a = 18 ∨ (53 ≤ a ∧ a ≤ 62) ∨ a = 64 ∨ a = 65 ∨ a = 70 ∨ a = 71 → K a = I a) (e2 : ∀ j, j = 1 ∨ j = 2 ∨ j = 11 ∨ j = 13 → K 63 j = I 63 j) : INV K μ' r' k' pl' q kl sl n tx := by
  obtain ⟨h1, h2, h3, h4, h5, h6, h7, h8, h9, h10, h11⟩ := h
  have tr : ∀ ν, sim μ ν → sim μ' ν := fun ν z => ⟨z.1, z.2.1.trans hs.2.1.symm, z.2.2.trans hs.2.2.symm⟩
  refine ⟨hs.1, ⟨hR, hS, ?_, ?_⟩, ⟨hr, hk, h3.2.2⟩, hc, hd, h6.congr h3.2.2 (fun a ha => e a (by omega)), h7.congr (e 70 (by omega)) (e2 11 (by omega)), fun j hj => tr _ (hp j hj), fun j hj => tr _ (h9 j hj), ?_, h11.congr (by rw [e 1 (by omega)]) (e 2 (by omega)) (e 64 (by omega)) (e2 1 (by omega))⟩
  · rw [e 65 (by omega)]
    intro x hx
    rw [hs.2.2]
    rw [hs.2.1] at hx
    exact h2.2.2.1 x hx
  · rw [e2 2 (by omega), hs.2.1]
    exact h2.2.2.2
  · rw [hs.2.1]
    exact h10.congr (fun a ha => e a (by omega)) (e2 13 (by omega))
/-- so it is, for some mill -/
def ZA (I : Nat → Nat → Int32) (r : Nat) : Prop := ∃ μ k pl q kl sl n tx, INV I μ r k pl q kl sl n tx
/-- both answer alike, and it is so behind them -/
def OC (G : (Nat → Nat → Int32) → Option (Int32 × (Nat → Nat → Int32) × Nat)) (D : (Nat → Nat → Int32) → Option (Int32 × (Nat → Nat → Int32))) (I : Nat → Nat → Int32) : Prop := ∃ v J K r', G I = some (v, J, r') ∧ D J = some (v, K) ∧ ZA K r'
section PInv
variable {I : Nat → Nat → Int32} {μ : MS} {r k : Nat} {pl : Nat → MS} {q : Nat} {kl : Nat → MS} {sl : List (Nat × Nat)} {n : Nat} {tx : Nat → Nat}
theorem sim_pl (h : INV I μ r k pl q kl sl n tx) : ∀ j, j < nk k → sim μ (npl k pl μ j) := by
  intro j hj
  have h8 := h.2.2.2.2.2.2.2.1
  have hs : sim μ μ := ⟨h.1, rfl, rfl⟩
  unfold npl
  unfold nk at hj
  by_cases e : k = 8
  · rw [if_pos e] at hj ⊢
    split
    · exact hs
    · exact h8 (j + 1) (by omega)
  · rw [if_neg e] at hj ⊢
    split
    · exact hs
    · exact h8 j (by omega)
theorem pl6 (h : INV I μ r k pl q kl sl n tx) : ∀ j, j < k → mN (pl j) ≤ 6 := fun j hj => (h.2.2.2.2.2.2.2.1 j hj).1.1.1
/-- the class and the reference put away what was -/
theorem putC (h : INV I μ r k pl q kl sl n tx) : RC (zput19 r k I) 4 5 6 7 μ ∧ IPc (zput19 r k I) (zrotn r k) (nk k) (npl k pl μ) ∧ (∀ a, ¬ (19 ≤ a ∧ a ≤ 52) → zput19 r k I a = I a) ∧ zrotn r k < 8 := by
  obtain ⟨c1, c2⟩ := put_c (pl := pl) h.2.1.1 h.1.1.1 h.2.2.1.1 h.2.2.1.2.1 h.2.2.2.1
  refine ⟨h.2.1.1.congr (c2 4 (by omega)) (c2 5 (by omega)) (c2 6 (by omega)) (c2 7 (by omega)), c1, c2, ?_⟩
  have := h.2.2.1.1
  unfold zrotn
  split <;> omega
theorem putD (h : INV I μ r k pl q kl sl n tx) {J : Nat → Nat → Int32} (e : ∀ a, 63 ≤ a → J a = I a) : ∃ K, x_D_keeps J = some (0, K) ∧ IPd K (nk k) (npl k pl μ) ∧ (∀ a, a ≠ 63 → a ≠ 69 → K a = J a) ∧ (∀ j, j ≠ 9 → K 63 j = J 63 j) ∧ RS (K 68) μ ∧ RK (K 65) μ ∧ K 63 2 = nI (mN μ) := by
  obtain ⟨K, k0, k1, k2, k3⟩ := put_d (I := J) (k := k) (pl := pl) (μ := μ) (by rw [e 68 (by decide)]; exact h.2.1.2.1) h.1.1.1 h.2.2.1.2.1 (h.2.2.2.2.1.congr (e 69 (by decide)) (by rw [e 63 (by decide)])) (pl6 h)
  refine ⟨K, k0, k1, k2, k3, ?_, ?_, ?_⟩
  · rw [k2 68 (by decide) (by decide), e 68 (by decide)]
    exact h.2.1.2.1
  · rw [k2 65 (by decide) (by decide), e 65 (by decide)]
    exact h.2.1.2.2.1
  · rw [k3 2 (by decide), e 63 (by decide)]
    exact h.2.1.2.2.2
theorem op_change (h : INV I μ r k pl q kl sl n tx) (a b : Int32) : OC (fun J => x_G_change r k J a b) (fun J => x_D_change J a b) I := by
  have z : ¬ (1 : Int32) = 0 := by decide
  have h66 := h.1.1.1
  rcases two_two h.2.1.1 h.2.1.2.2.2 h.1 a b with ⟨h1, h2⟩ | ⟨i, j, hi, hj, hij, ea, eb, h1, h2⟩
  · exact ⟨-1, I, I, r, by show x_G_change r k I a b = _; rw [x_G_change, if_pos h1], by show x_D_change I a b = _; rw [x_D_change, if_pos h2], μ, k, pl, q, kl, sl, n, tx, h⟩
  · obtain ⟨c1, c2, c3, c4⟩ := putC h
    obtain ⟨J, j0, j1, j2⟩ := x_mswap c1 h.1 hi hj (by decide)
    have hok := swp_ok h.1 hi hj hij
    obtain ⟨p, hp, ep⟩ := hok.2.1 i hi
    have hp6 : p < 6 := Nat.lt_of_lt_of_le hp h66
    have fJ : ∀ x, 63 ≤ x → J x = I x := fun x hx => (j2 x (by omega)).trans (c3 x (by omega))
    obtain ⟨K, k0, k1, k2, k3, k4, k5, k6⟩ := putD h fJ
    obtain ⟨pa, pb, p1, p2, p3, p4⟩ := x_dswap k4 k6 h.1 hi hj
    have e68 : ∀ x, x ≠ 68 → (zui (zui K 68 pa (nI j)) 68 pb (nI i)) x = K x := fun x hx => by rw [zui_ne _ _ _ hx, zui_ne _ _ _ hx]
    have lo : ∀ x, x < 63 → (zui (zui K 68 pa (nI j)) 68 pb (nI i)) x = J x := fun x hx => (e68 x (by omega)).trans (k2 x (by omega) (by omega))
    refine ⟨nI p, J, zui (zui K 68 pa (nI j)) 68 pb (nI i), zrotn r k, ?_, ?_, swp μ i j, nk k, npl k pl μ, q, kl, sl, n, tx, ?_⟩
    · show x_G_change r k I a b = _
      rw [x_G_change, h1, if_neg z, ea, eb, j0, Option.bind_some]
      dsimp only
      rw [x_mplace j1 hok.1 hp ep, Option.bind_some]
    · show x_D_change J a b = _
      have h2' : f_D_areTwo J a b = 1 := by
        rw [← h2, f_D_areTwo, f_D_areTwo, f_D_isOne, f_D_isOne, f_D_isOne, f_D_isOne, fJ 63 (by decide)]
        rfl
      rw [x_D_change, h2', if_neg z, ea, eb, k0, Option.bind_some]
      dsimp only
      rw [p3, Option.bind_some]
      dsimp only
      rw [x_dplace p4 (by rw [e68 63 (by decide)]; exact k6) hok.1 hp ep, Option.bind_some]
    · refine h.step ⟨hok, rfl, rfl⟩ (j1.congr (lo 4 (by decide)) (lo 5 (by decide)) (lo 6 (by decide)) (lo 7 (by decide))) p4 c4 (nk_le h.2.2.1.2.1) (c2.congr (fun x hx => (lo x (by omega)).trans (j2 x (by omega)))) (k1.congr (e68 69 (by decide)) (by rw [e68 63 (by decide)])) (sim_pl h) (fun x hx => ?_) (fun y hy => ?_)
      · by_cases hx63 : x < 63
        · exact (lo x hx63).trans ((j2 x (by omega)).trans (c3 x (by omega)))
        · exact (e68 x (by omega)).trans ((k2 x (by omega) (by omega)).trans (fJ x (by omega)))
      · rw [e68 63 (by decide), k3 y (by omega), fJ 63 (by decide)]
theorem fx_in : ∀ g, g < 64 → ∀ c, c < 6 → nI g ^^^ (1 <<< (nI c &&& 31)) = nI (g ^^^ 2 ^ c) := by decide +kernel
theorem fx_lt : ∀ n, n < 7 → ∀ g, g < 2 ^ n → ∀ c, c < n → g ^^^ 2 ^ c < 2 ^ n := by decide +kernel
theorem setG_RC {J : Nat → Nat → Int32} {m mk ml mt g : Nat} {ν : MS} (hR : RC J m mk ml mt ν) (hd : mk ≠ m ∧ ml ≠ m ∧ mt ≠ m) : RC (zui J m 4 (nI g)) m mk ml mt (setG ν g) := by
  refine ⟨?_, ?_, ?_, ?_, ?_, ?_, ?_⟩
  · rw [zui_self, pk_un (by decide)]
    exact hR.1
  · rw [zui_ne _ _ _ hd.1]
    exact hR.2.1
  · rw [zui_ne _ _ _ hd.2.1]
    exact hR.2.2.1
  · rw [zui_ne _ _ _ hd.2.2]
    exact hR.2.2.2.1
  · rw [zui_self, pk_us]
    rfl
  · rw [zui_self, pk_un (by decide)]
    exact hR.2.2.2.2.2.1
  · rw [zui_self, pk_un (by decide)]
    exact hR.2.2.2.2.2.2
theorem setG_RS {F : Nat → Int32} {ν : MS} {g : Nat} (hS : RS F ν) (h6 : mN ν ≤ 6) : RS (upd F 42 (nI g)) (setG ν g) := by
  refine ⟨fun p hp => ?_, fun i j hi hj => ?_, pk_us, ?_, ?_⟩
  · have hp2 : p < mN ν := hp
    rw [pk_un (by omega)]
    exact hS.1 p hp2
  · have hi2 : i < mN ν := hi
    have hj2 : j < mN ν := hj
    rw [pk_un (by omega)]
    exact hS.2.1 i j hi2 hj2
  · rw [pk_un (by decide)]
    exact hS.2.2.2.1
  · rw [pk_un (by decide)]
    exact hS.2.2.2.2
theorem op_away (h : INV I μ r k pl q kl sl n tx) (x : Int32) : OC (fun J => x_G_away r k J x) (fun J => x_D_away J x) I := by
  have z : ¬ (1 : Int32) = 0 := by decide
  have h66 := h.1.1.1
  rcases two_has h.2.1.1 h.2.1.2.2.2 h.1 x with ⟨h1, h2⟩ | ⟨c, hc, e, h1, h2⟩
  · exact ⟨-1, I, I, r, by show x_G_away r k I x = _; rw [x_G_away, if_pos h1], by show x_D_away I x = _; rw [x_D_away, if_pos h2], μ, k, pl, q, kl, sl, n, tx, h⟩
  · obtain ⟨c1, c2, c3, c4⟩ := putC h
    have hlt := fx_lt (mN μ) (by omega) (mG μ) h.1.1.2.2.2.2.2.1 c hc
    have hok := setG_ok h.1 hlt
    have eg : g_M_setGone 4 5 6 7 (zput19 r k I) ((f_M_goneBits 4 5 6 7 (zput19 r k I)) ^^^ (1 <<< (x &&& 31))) = zui (zput19 r k I) 4 4 (nI (mG μ ^^^ 2 ^ c)) := by
      rw [g_M_setGone, f_M_goneBits, c1.2.2.2.2.1, e, fx_in _ h.1.1.g64 c (by omega)]
    have hRJ := setG_RC (g := mG μ ^^^ 2 ^ c) c1 (by decide)
    have fJ : ∀ y, 63 ≤ y → (zui (zput19 r k I) 4 4 (nI (mG μ ^^^ 2 ^ c))) y = I y := fun y hy => (zui_ne _ _ _ (by omega)).trans (c3 y (by omega))
    obtain ⟨K, k0, k1, k2, k3, k4, k5, k6⟩ := putD h fJ
    have ek : zui K 68 42 (K 68 42 ^^^ (1 <<< (x &&& 31))) = zui K 68 42 (nI (mG μ ^^^ 2 ^ c)) := by
      rw [k4.2.2.1, e, fx_in _ h.1.1.g64 c (by omega)]
    have hSK : RS ((zui K 68 42 (nI (mG μ ^^^ 2 ^ c))) 68) (setG μ (mG μ ^^^ 2 ^ c)) := by
      rw [zui_self]
      exact setG_RS k4 h66
    have lo : ∀ y, y < 63 → (zui K 68 42 (nI (mG μ ^^^ 2 ^ c))) y = (zui (zput19 r k I) 4 4 (nI (mG μ ^^^ 2 ^ c))) y := fun y hy => (zui_ne _ _ _ (by omega)).trans (k2 y (by omega) (by omega))
    refine ⟨if (mG μ ^^^ 2 ^ c).testBit c = true then 1 else 0, zui (zput19 r k I) 4 4 (nI (mG μ ^^^ 2 ^ c)), zui K 68 42 (nI (mG μ ^^^ 2 ^ c)), zrotn r k, ?_, ?_, setG μ (mG μ ^^^ 2 ^ c), nk k, npl k pl μ, q, kl, sl, n, tx, ?_⟩
    · show x_G_away r k I x = _
      rw [x_G_away, h1, if_neg z, eg, e, isGone_in hRJ hok.1 hc]
      by_cases b : (mG (setG μ (mG μ ^^^ 2 ^ c))).testBit c = true
      · rw [if_pos b, if_neg z, if_pos (show (mG μ ^^^ 2 ^ c).testBit c = true from b)]
      · rw [if_neg b, if_pos rfl, if_neg (show ¬ (mG μ ^^^ 2 ^ c).testBit c = true from b)]
    · show x_D_away _ x = _
      have h2' : f_D_isOne (zui (zput19 r k I) 4 4 (nI (mG μ ^^^ 2 ^ c))) x = 1 := by
        rw [← h2, f_D_isOne, f_D_isOne, fJ 63 (by decide)]
        rfl
      rw [x_D_away, h2', if_neg z, k0, Option.bind_some]
      dsimp only
      rw [ek, e, isAway_in hSK hok.1 hc]
      by_cases b : (mG (setG μ (mG μ ^^^ 2 ^ c))).testBit c = true
      · rw [if_pos b, if_neg z, if_pos (show (mG μ ^^^ 2 ^ c).testBit c = true from b)]
      · rw [if_neg b, if_pos rfl, if_neg (show ¬ (mG μ ^^^ 2 ^ c).testBit c = true from b)]
    · refine h.step ⟨hok, rfl, rfl⟩ (hRJ.congr (lo 4 (by decide)) (lo 5 (by decide)) (lo 6 (by decide)) (lo 7 (by decide))) hSK c4 (nk_le h.2.2.1.2.1) (c2.congr (fun y hy => (lo y (by omega)).trans (zui_ne _ _ _ (by omega)))) (k1.congr (zui_ne _ _ _ (by decide)) (by rw [zui_ne _ _ _ (by decide)])) (sim_pl h) (fun y hy => ?_) (fun y hy => ?_)
      · by_cases hy63 : y < 63
        · exact (lo y hy63).trans ((zui_ne _ _ _ (by omega)).trans (c3 y (by omega)))
        · exact (zui_ne _ _ _ (by omega)).trans ((k2 y (by omega) (by omega)).trans (fJ y (by omega)))
      · rw [zui_ne _ _ _ (by decide), k3 y (by omega), fJ 63 (by decide)]
theorem op_say (h : INV I μ r k pl q kl sl n tx) (a b w : Int32) : OC (fun J => x_G_say r k J a b w) (fun J => x_D_say J a b w) I := by
  have z : ¬ (1 : Int32) = 0 := by decide
  have h66 := h.1.1.1
  rcases two_two h.2.1.1 h.2.1.2.2.2 h.1 a b with ⟨h1, h2⟩ | ⟨i, j, hi, hj, hij, ea, eb, h1, h2⟩
  · exact ⟨-1, I, I, r, by show x_G_say r k I a b w = _; rw [x_G_say, if_pos h1], by show x_D_say I a b w = _; rw [x_D_say, if_pos h2], μ, k, pl, q, kl, sl, n, tx, h⟩
  · rcases two_out w (b := 6) (B := 6) (by omega) rfl with ⟨h3, h4⟩ | ⟨v, hv, ev, h3, h4⟩
    · exact ⟨-1, I, I, r, by show x_G_say r k I a b w = _; rw [x_G_say, h1, if_neg z, h3, if_neg z], by show x_D_say I a b w = _; rw [x_D_say, h2, if_neg z, h4, if_pos rfl], μ, k, pl, q, kl, sl, n, tx, h⟩
    · obtain ⟨c1, c2, c3, c4⟩ := putC h
      have hok : mOK (setT μ i j v) := ⟨setT_wf h.1.1 hv, h.1.2.1, h.1.2.2⟩
      obtain ⟨g1, g2⟩ := g_setT (v := v) c1 h66 hi hj (by decide)
      rw [g2] at g1
      have fJ : ∀ y, 63 ≤ y → (zui (zput19 r k I) 7 (i * 6 + j) (nI v)) y = I y := fun y hy => (zui_ne _ _ _ (by omega)).trans (c3 y (by omega))
      obtain ⟨K, k0, k1, k2, k3, k4, k5, k6⟩ := putD h fJ
      obtain ⟨d1, d2, d3⟩ := d_word k4 h.1.1 hi hj
      have hSK : RS ((zui K 68 (6 + 6 * i + j) (nI v)) 68) (setT μ i j v) := by
        rw [zui_self]
        exact d_setT k4 h66 hi hj
      have lo : ∀ y, y < 63 → (zui K 68 (6 + 6 * i + j) (nI v)) y = (zui (zput19 r k I) 7 (i * 6 + j) (nI v)) y := fun y hy => (zui_ne _ _ _ (by omega)).trans (k2 y (by omega) (by omega))
      refine ⟨nI (mT μ i j), zui (zput19 r k I) 7 (i * 6 + j) (nI v), zui K 68 (6 + 6 * i + j) (nI v), zrotn r k, ?_, ?_, setT μ i j v, nk k, npl k pl μ, q, kl, sl, n, tx, ?_⟩
      · show x_G_say r k I a b w = _
        rw [x_G_say, h1, if_neg z, h3, if_pos rfl, ea, eb, ev, g2, wordOf_in c1 h.1.1 hi hj]
      · show x_D_say _ a b w = _
        have h2' : f_D_areTwo (zui (zput19 r k I) 7 (i * 6 + j) (nI v)) a b = 1 := by
          rw [← h2, f_D_areTwo, f_D_areTwo, f_D_isOne, f_D_isOne, f_D_isOne, f_D_isOne, fJ 63 (by decide)]
          rfl
        rw [x_D_say, h2', if_neg z, h4, if_neg z, k0, Option.bind_some, ea, eb, ev]
        dsimp only
        rw [if_pos d1, if_pos d1, d2, d3]
      · refine h.step ⟨hok, rfl, rfl⟩ (g1.congr (lo 4 (by decide)) (lo 5 (by decide)) (lo 6 (by decide)) (lo 7 (by decide))) hSK c4 (nk_le h.2.2.1.2.1) (c2.congr (fun y hy => (lo y (by omega)).trans (zui_ne _ _ _ (by omega)))) (k1.congr (zui_ne _ _ _ (by decide)) (by rw [zui_ne _ _ _ (by decide)])) (sim_pl h) (fun y hy => ?_) (fun y hy => ?_)
        · by_cases hy63 : y < 63
          · exact (lo y hy63).trans ((zui_ne _ _ _ (by omega)).trans (c3 y (by omega)))
          · exact (zui_ne _ _ _ (by omega)).trans ((k2 y (by omega) (by omega)).trans (fJ y (by omega)))
        · rw [zui_ne _ _ _ (by decide), k3 y (by omega), fJ 63 (by decide)]
theorem withS_RC {J : Nat → Nat → Int32} {m mk ml mt s d : Nat} {ν : MS} (hR : RC J m mk ml mt ν) (hd : mk ≠ m ∧ ml ≠ m ∧ mt ≠ m) : RC (zui (zui J m 5 (nI s)) m 6 (nI d)) m mk ml mt (withS ν s d) := by
  refine ⟨?_, ?_, ?_, ?_, ?_, ?_, ?_⟩
  · rw [zui_self, pk_un (by decide), zui_self, pk_un (by decide)]
    exact hR.1
  · rw [zui_ne _ _ _ hd.1, zui_ne _ _ _ hd.1]
    exact hR.2.1
  · rw [zui_ne _ _ _ hd.2.1, zui_ne _ _ _ hd.2.1]
    exact hR.2.2.1
  · rw [zui_ne _ _ _ hd.2.2, zui_ne _ _ _ hd.2.2]
    exact hR.2.2.2.1
  · rw [zui_self, pk_un (by decide), zui_self, pk_un (by decide)]
    exact hR.2.2.2.2.1
  · rw [zui_self, pk_un (by decide), zui_self, pk_us]
    rfl
  · rw [zui_self, pk_us]
    rfl
theorem op_day (h : INV I μ r k pl q kl sl n tx) : OC (fun J => x_G_day r k J) (fun J => x_D_day J) I := by
  have h66 := h.1.1.1
  obtain ⟨c1, c2, c3, c4⟩ := putC h
  obtain ⟨A, a0, a1, a2, a3, a4, a5, a6⟩ := x_pass c1 h.1.1 mo4
  have hRA : RC A 4 5 6 7 μ := c1.congr (a1 4 (by decide) (by decide) (by decide)) (a1 5 (by decide) (by decide) (by decide)) (a1 6 (by decide) (by decide) (by decide)) (a1 7 (by decide) (by decide) (by decide))
  have e9 : g_M_endDay 4 5 6 7 A (f_R_stoneThen A) = zui (zui A 4 5 (nI (dayOf μ).2)) 4 6 (nI (mD μ + 1)) := by
    rw [g_M_endDay, f_R_stoneThen, a5, hRA.2.2.2.2.2.2, show nI (mD μ) + 1 = nI (mD μ + 1) from nI_add _ 1]
  have hRJ := withS_RC (s := (dayOf μ).2) (d := mD μ + 1) hRA (by decide)
  have fJ : ∀ y, 63 ≤ y → (zui (zui A 4 5 (nI (dayOf μ).2)) 4 6 (nI (mD μ + 1))) y = I y := fun y hy => by rw [zui_ne _ _ _ (by omega), zui_ne _ _ _ (by omega), a1 y (by omega) (by omega) (by omega), c3 y (by omega)]
  obtain ⟨K, k0, k1, k2, k3, k4, k5, k6⟩ := putD h fJ
  obtain ⟨E, L, e0, e1, e2, e3, e4⟩ := x_passes h.1.1 k4 k5 k6
  have hok := ynx_ok h.1
  have hi : ∀ y, y ≠ 63 → y ≠ 68 → y ≠ 72 → y ≠ 73 → y ≠ 74 → L y = K y := fun y y1 y2 y3 y4 y5 => by rw [e2, zui_ne _ _ _ y2, zui_ne _ _ _ y2, e1.1 y y1 y3 y4 y5]
  have h63 : ∀ y, y ≠ 16 → y ≠ 19 → L 63 y = K 63 y := fun y y1 y2 => by rw [e2, zui_ne _ _ _ (by decide), zui_ne _ _ _ (by decide), e1.2 y y1 y2]
  have lo : ∀ y, y < 63 → L y = (zui (zui A 4 5 (nI (dayOf μ).2)) 4 6 (nI (mD μ + 1))) y := fun y hy => (hi y (by omega) (by omega) (by omega) (by omega) (by omega)).trans (k2 y (by omega) (by omega))
  refine ⟨nI (mD μ + 1), zui (zui A 4 5 (nI (dayOf μ).2)) 4 6 (nI (mD μ + 1)), L, zrotn r k, ?_, ?_, ynx μ, nk k, npl k pl μ, q, kl, sl, n, tx, ?_⟩
  · show x_G_day r k I = _
    rw [x_G_day, a0, Option.bind_some]
    dsimp only
    rw [e9, f_M_daysGone, hRJ.2.2.2.2.2.2]
    rfl
  · show x_D_day _ = _
    rw [x_D_day, k0, Option.bind_some]
    dsimp only
    rw [e0, Option.bind_some]
    dsimp only
    rw [e4.2.2.2.2]
    rfl
  · refine h.step ⟨hok, rfl, rfl⟩ (hRJ.congr (lo 4 (by decide)) (lo 5 (by decide)) (lo 6 (by decide)) (lo 7 (by decide))) e4 c4 (nk_le h.2.2.1.2.1) (c2.congr (fun y hy => ?_)) (k1.congr (hi 69 (by decide) (by decide) (by decide) (by decide) (by decide)) (h63 9 (by decide) (by decide))) (sim_pl h) (fun y hy => ?_) (fun y hy => ?_)
    · rw [lo y (by omega), zui_ne _ _ _ (by omega), zui_ne _ _ _ (by omega), a1 y (by omega) (by omega) (by omega)]
    · by_cases hy63 : y < 63
      · rw [lo y hy63, zui_ne _ _ _ (by omega), zui_ne _ _ _ (by omega), a1 y (by omega) (by omega) (by omega), c3 y (by omega)]
      · rw [hi y (by omega) (by omega) (by omega) (by omega) (by omega), k2 y (by omega) (by omega), fJ y (by omega)]
    · rw [h63 y (by omega) (by omega), k3 y (by omega), fJ 63 (by decide)]
end PInv
