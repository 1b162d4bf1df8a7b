/-! THE PURE PART: two change places -/
/-- the mill where a and b have changed places -/
def swp (μ : MS) (a b : Nat) : MS := (mN μ, mK μ, fun p => if mL μ p = b then a else if mL μ p = a then b else mL μ p, mT μ, mG μ, mS μ, mD μ)
theorem swp_ok {μ : MS} {a b : Nat} (h : mOK μ) (ha : a < mN μ) (hb : b < mN μ) (hab : a ≠ b) : mOK (swp μ a b) := by
  refine ⟨⟨h.1.1, h.1.2.1, ?_, ?_, h.1.2.2.2.2.1, h.1.2.2.2.2.2.1, h.1.2.2.2.2.2.2⟩, ?_, h.2.2⟩
  · intro p hp
    have hp2 : p < mN μ := hp
    show (if mL μ p = b then a else if mL μ p = a then b else mL μ p) < mN μ
    split
    · exact ha
    · split
      · exact hb
      · exact h.1.2.2.1 p hp2
  · intro p q hp hq e
    have hp2 : p < mN μ := hp
    have hq2 : q < mN μ := hq
    have e2 : (if mL μ p = b then a else if mL μ p = a then b else mL μ p) = (if mL μ q = b then a else if mL μ q = a then b else mL μ q) := e
    refine h.1.2.2.2.1 p q hp2 hq2 ?_
    split at e2 <;> split at e2 <;> (try split at e2) <;> (try split at e2) <;> omega
  · intro c hc
    have hc2 : c < mN μ := hc
    by_cases h1 : c = a
    · obtain ⟨p, hp, e⟩ := h.2.1 b hb
      exact ⟨p, hp, by show (if mL μ p = b then a else if mL μ p = a then b else mL μ p) = c; rw [if_pos e, h1]⟩
    · by_cases h2 : c = b
      · obtain ⟨p, hp, e⟩ := h.2.1 a ha
        exact ⟨p, hp, by show (if mL μ p = b then a else if mL μ p = a then b else mL μ p) = c; rw [if_neg (by rw [e]; exact hab), if_pos e, h2]⟩
      · obtain ⟨p, hp, e⟩ := h.2.1 c hc2
        exact ⟨p, hp, by show (if mL μ p = b then a else if mL μ p = a then b else mL μ p) = c; rw [e, if_neg h2, if_neg h1]⟩
theorem swp_line {μ : MS} {F : Nat → Int32} {a b pa pb : Nat} (hW : mWF μ) (hF : ∀ p, p < mN μ → F p = nI (mL μ p)) (hpa : pa < mN μ) (hpb : pb < mN μ) (ea : mL μ pa = a) (eb : mL μ pb = b) : ∀ p, p < mN μ → upd (upd F pa (nI b)) pb (nI a) p = nI (mL (swp μ a b) p) := by
  intro p hp
  show _ = nI (if mL μ p = b then a else if mL μ p = a then b else mL μ p)
  by_cases h1 : p = pb
  · rw [h1, pk_us, if_pos eb]
  · rw [pk_un h1, if_neg (fun z => h1 (hW.2.2.2.1 p pb hp hpb (z.trans eb.symm)))]
    by_cases h2 : p = pa
    · rw [h2, pk_us, if_pos ea]
    · rw [pk_un h2, if_neg (fun z => h2 (hW.2.2.2.1 p pa hp hpa (z.trans ea.symm)))]
      exact hF p hp
theorem x_mswap {I : Nat → Nat → Int32} {m mk ml mt a b : Nat} {μ : MS} (hR : RC I m mk ml mt μ) (hW : mOK μ) (ha : a < mN μ) (hb : b < mN μ) (hd : ml ≠ m ∧ ml ≠ mk ∧ ml ≠ mt) : ∃ J, x_M_swap m mk ml mt I (nI a) (nI b) = some (0, J) ∧ RC J m mk ml mt (swp μ a b) ∧ ∀ x, x ≠ ml → J x = I x := by
  have h66 := hW.1.1
  obtain ⟨pa, hpa, ea⟩ := hW.2.1 a ha
  obtain ⟨pb, hpb, eb⟩ := hW.2.1 b hb
  refine ⟨zui (zui I ml pa (nI b)) ml pb (nI a), ?_, ?_, fun x hx => by rw [zui_ne _ _ _ hx, zui_ne _ _ _ hx]⟩
  · have n6 : ∀ p, p < mN μ → ¬ Int32.ofNat 6 ≤ nI p := fun p hp z => by have := (nle (a := 6) (by omega) (by omega)).mp z; omega
    rw [x_M_swap, x_mplace hR hW.1 hpa ea, Option.bind_some]
    dsimp only
    rw [x_mplace hR hW.1 hpb eb, Option.bind_some]
    dsimp only
    rw [if_neg (nneg (by omega)), if_neg (n6 pa hpa), if_neg (nneg (by omega)), if_neg (n6 pb hpb), if_pos (nzin (by omega) (by decide)), if_pos (nzin (by omega) (by decide)), ncl (by omega), ncl (by omega)]
  · refine ⟨?_, ?_, ?_, ?_, ?_, ?_, ?_⟩
    · rw [zui_ne _ _ _ hd.1.symm, zui_ne _ _ _ hd.1.symm]
      exact hR.1
    · rw [zui_ne _ _ _ hd.2.1.symm, zui_ne _ _ _ hd.2.1.symm]
      exact hR.2.1
    · rw [zui_self, zui_self]
      exact swp_line hW.1 hR.2.2.1 hpa hpb ea eb
    · rw [zui_ne _ _ _ hd.2.2.symm, zui_ne _ _ _ hd.2.2.symm]
      exact hR.2.2.2.1
    · rw [zui_ne _ _ _ hd.1.symm, zui_ne _ _ _ hd.1.symm]
      exact hR.2.2.2.2.1
    · rw [zui_ne _ _ _ hd.1.symm, zui_ne _ _ _ hd.1.symm]
      exact hR.2.2.2.2.2.1
    · rw [zui_ne _ _ _ hd.1.symm, zui_ne _ _ _ hd.1.symm]
      exact hR.2.2.2.2.2.2
theorem x_dswap {I : Nat → Nat → Int32} {a b : Nat} {μ : MS} (hS : RS (I 68) μ) (hn : I 63 2 = nI (mN μ)) (hW : mOK μ) (ha : a < mN μ) (hb : b < mN μ) : ∃ pa pb, pa < 6 ∧ pb < 6 ∧ x_D_swaps I (nI a) (nI b) = some (0, zui (zui I 68 pa (nI b)) 68 pb (nI a)) ∧ RS ((zui (zui I 68 pa (nI b)) 68 pb (nI a)) 68) (swp μ a b) := by
  have h66 := hW.1.1
  obtain ⟨pa, hpa, ea⟩ := hW.2.1 a ha
  obtain ⟨pb, hpb, eb⟩ := hW.2.1 b hb
  refine ⟨pa, pb, by omega, by omega, ?_, ?_⟩
  · rw [x_D_swaps, x_dplace hS hn hW.1 hpa ea, Option.bind_some]
    dsimp only
    rw [x_dplace hS hn hW.1 hpb eb, Option.bind_some]
    dsimp only
    rw [if_pos (nzin (by omega) (by decide)), if_pos (nzin (by omega) (by decide)), ncl (by omega), ncl (by omega)]
  · rw [zui_self, zui_self]
    refine ⟨?_, ?_, ?_, ?_, ?_⟩
    · exact swp_line hW.1 hS.1 hpa hpb ea eb
    · intro i j hi hj
      have hi2 : i < mN μ := hi
      have hj2 : j < mN μ := hj
      rw [pk_un (by omega), pk_un (by omega)]
      exact hS.2.1 i j hi2 hj2
    · rw [pk_un (by omega), pk_un (by omega)]
      exact hS.2.2.1
    · rw [pk_un (by omega), pk_un (by omega)]
      exact hS.2.2.2.1
    · rw [pk_un (by omega), pk_un (by omega)]
      exact hS.2.2.2.2
/-! THE PURE PART: year -/
def dw (z k : Nat) : Nat := (7919 * z + 6151 * k + 1) * (7919 * z + 6151 * k + 1) % 65521 / 8
theorem dw_num {z k : Nat} (hz : z ≤ 9999) (hk : k < 60) : (7919 * (nI z).toInt64 + 6151 * (nI k).toInt64 + 1) * (7919 * (nI z).toInt64 + 6151 * (nI k).toInt64 + 1) - (7919 * (nI z).toInt64 + 6151 * (nI k).toInt64 + 1) * (7919 * (nI z).toInt64 + 6151 * (nI k).toInt64 + 1) / 65521 * 65521 = lN ((7919 * z + 6151 * k + 1) * (7919 * z + 6151 * k + 1) % 65521) := by
  have e : 7919 * (nI z).toInt64 + 6151 * (nI k).toInt64 + 1 = lN (7919 * z + 6151 * k + 1) := by
    rw [nI_l (by omega), nI_l (by omega), show (7919 : Int64) = lN 7919 from rfl, show (6151 : Int64) = lN 6151 from rfl, lN_mul, lN_mul, lN_add, lN_1]
  have hw : 7919 * z + 6151 * k + 1 ≤ 80000000 := by omega
  have hm : (7919 * z + 6151 * k + 1) * (7919 * z + 6151 * k + 1) ≤ 80000000 * 80000000 := Nat.mul_le_mul hw hw
  rw [e, lN_mul, show (65521 : Int64) = lN 65521 from rfl, pk_lRem (Nat.lt_of_le_of_lt hm (by decide)) (by decide) (by decide)]
theorem dw_class {z k : Nat} (hz : z ≤ 9999) (hk : k < 60) (I : Nat → Nat → Int32) : x_G_drawOf I (nI z) (nI k) = some (nI (dw z k), I) := by
  have hm : (7919 * z + 6151 * k + 1) * (7919 * z + 6151 * k + 1) % 65521 < 65521 := Nat.mod_lt _ (by decide)
  rw [x_G_drawOf, dw_num hz hk, show (8 : Int64) = lN 8 from rfl, pk_lDiv (Nat.lt_of_lt_of_le hm (by decide)) (by decide) (by decide), lN_i]
  rfl
theorem dw_ref {z k : Nat} (hz : z ≤ 9999) (hk : k < 60) : ((7919 * (nI z).toInt64 + 6151 * (nI k).toInt64 + 1) * (7919 * (nI z).toInt64 + 6151 * (nI k).toInt64 + 1) - (7919 * (nI z).toInt64 + 6151 * (nI k).toInt64 + 1) * (7919 * (nI z).toInt64 + 6151 * (nI k).toInt64 + 1) / 65521 * 65521).toInt32 / 8 = nI (dw z k) := by
  have hm : (7919 * z + 6151 * k + 1) * (7919 * z + 6151 * k + 1) % 65521 < 65521 := Nat.mod_lt _ (by decide)
  rw [dw_num hz hk, lN_i, show (8 : Int32) = nI 8 from rfl, pk_div (Nat.lt_of_lt_of_le hm (by decide)) (by decide) (by decide)]
  rfl
theorem dw_lt (z k : Nat) : dw z k < 65521 := Nat.lt_of_le_of_lt (Nat.div_le_self _ _) (Nat.mod_lt _ (by decide))
/-- two are drawn -/
def ydr (μ : MS) (z k : Nat) : MS := if dw z k % mN μ = dw z k / 8 % mN μ then μ else swp μ (dw z k % mN μ) (dw z k / 8 % mN μ)
/-- the next morning -/
def ynx (ν : MS) : MS := withS ν (dayOf ν).2 (mD ν + 1)
def yst (μ : MS) (z : Nat) : Nat → MS × Nat
  | 0 => (μ, 0)
  | k + 1 => (ynx (ydr (yst μ z k).1 z k), (yst μ z k).2 + pc6 (todayBran (ydr (yst μ z k).1 z k)))
theorem ydr_ok {μ : MS} {z k : Nat} (h : mOK μ) : mOK (ydr μ z k) ∧ mN (ydr μ z k) = mN μ ∧ mK (ydr μ z k) = mK μ := by
  have h1 := h.2.2
  unfold ydr
  split
  · exact ⟨h, rfl, rfl⟩
  · next hne => exact ⟨swp_ok h (Nat.mod_lt _ h1) (Nat.mod_lt _ h1) hne, rfl, rfl⟩
theorem ynx_ok {ν : MS} (h : mOK ν) : mOK (ynx ν) := withS_ok h (gr_stone ν 6 _ _ h.1.2.2.2.2.2.2)
theorem yst_ok {μ : MS} (h : mOK μ) (z : Nat) : ∀ k, mOK (yst μ z k).1 ∧ mN (yst μ z k).1 = mN μ ∧ mK (yst μ z k).1 = mK μ
  | 0 => ⟨h, rfl, rfl⟩
  | k + 1 => by
    obtain ⟨h1, h2, h3⟩ := yst_ok h z k
    obtain ⟨q1, q2, q3⟩ := ydr_ok (z := z) (k := k) h1
    exact ⟨ynx_ok q1, q2.trans h2, q3.trans h3⟩
section PYear
variable {μ : MS} {z n : Nat}
theorem x_cdraw {I : Nat → Nat → Int32} {ν : MS} {k : Nat} (hR : RC I 8 9 10 11 ν) (hW : mOK ν) : ∃ J, x_G_swapDrawn I (nI (dw z k)) = some (0, J) ∧ RC J 8 9 10 11 (ydr ν z k) ∧ ∀ x, x ≠ 10 → J x = I x := by
  have h66 := hW.1.1
  have h1 := hW.2.2
  have hd := dw_lt z k
  have n0 : ¬ nI (mN ν) = 0 := fun y => by have := (neq (b := 0) (by omega) (by omega)).mp y; omega
  have d8 : nI (dw z k) / 8 = nI (dw z k / 8) := pk_div (d := 8) (by omega) (by omega) (by omega)
  have hd8 : dw z k / 8 ≤ dw z k := Nat.div_le_self _ _
  have ha : dw z k % mN ν < mN ν := Nat.mod_lt _ h1
  have hb : dw z k / 8 % mN ν < mN ν := Nat.mod_lt _ h1
  have e : x_G_swapDrawn I (nI (dw z k)) = if nI (dw z k % mN ν) = nI (dw z k / 8 % mN ν) then some (0, I) else (x_M_swap 8 9 10 11 I (nI (dw z k % mN ν)) (nI (dw z k / 8 % mN ν))).bind (fun q1 => some (0, q1.2)) := by
    rw [x_G_swapDrawn, f_M_size, hR.1, if_pos (show (1 : Int32) ≤ nI (mN ν) from (nle (a := 1) (by omega) (by omega)).mpr h1), if_neg n0, if_neg n0, d8, pk_rem (by omega) (by omega) (by omega), pk_rem (by omega) (by omega) (by omega)]
  rw [e, ydr]
  by_cases q : dw z k % mN ν = dw z k / 8 % mN ν
  · rw [if_pos ((neq (by omega) (by omega)).mpr q), if_pos q]
    exact ⟨I, rfl, hR, fun _ _ => rfl⟩
  · rw [if_neg (fun y => q ((neq (by omega) (by omega)).mp y)), if_neg q]
    obtain ⟨J, j0, j1, j2⟩ := x_mswap hR hW ha hb (by decide)
    exact ⟨J, by rw [j0, Option.bind_some], j1, j2⟩
theorem l_cyear (hW : mOK μ) (hz : z ≤ 9999) (hn : n ≤ 60) {w : Int32} : ∀ (d k fuel : Nat) (I : Nat → Nat → Int32), k + d = n → d < fuel → RC I 8 9 10 11 (yst μ z k).1 → ∃ J, l_G_year_51 fuel I (nI z) (nI n) w (nI (yst μ z k).2) (nI k) = some (if w = 0 then nI (mS (yst μ z n).1) else nI (yst μ z n).2, J) ∧ ∀ a, ¬ (8 ≤ a ∧ a ≤ 15) → J a = I a
  | 0, k, fuel + 1, I, hk, _, hR => by
    rw [show k = n by omega] at hR ⊢
    refine ⟨I, ?_, fun _ _ => rfl⟩
    rw [l_G_year_51, if_pos ((nle (a := n) (b := n) (by omega) (by omega)).mpr (Nat.le_refl n)), f_M_stoneNow, hR.2.2.2.2.2.1]
    split <;> rfl
  | d + 1, k, fuel + 1, I, hk, hf, hR => by
    obtain ⟨y1, y2, y3⟩ := yst_ok hW z k
    obtain ⟨q1, q2, q3⟩ := ydr_ok (z := z) (k := k) y1
    obtain ⟨A, a0, a1, a2⟩ := x_cdraw (z := z) (k := k) hR y1
    obtain ⟨J, j0, j1, j2, j3, j4, j5, j6⟩ := x_pass a1 q1.1 mo8
    have hRJ : RC J 8 9 10 11 (ydr (yst μ z k).1 z k) := a1.congr (j1 8 (by decide) (by decide) (by decide)) (j1 9 (by decide) (by decide) (by decide)) (j1 10 (by decide) (by decide) (by decide)) (j1 11 (by decide) (by decide) (by decide))
    have e9 : g_M_endDay 8 9 10 11 J (f_R_stoneThen J) = zui (zui J 8 5 (nI (dayOf (ydr (yst μ z k).1 z k)).2)) 8 6 (nI (mD (ydr (yst μ z k).1 z k) + 1)) := by
      rw [g_M_endDay, f_R_stoneThen, j5, hRJ.2.2.2.2.2.2, show nI (mD (ydr (yst μ z k).1 z k)) + 1 = nI (mD (ydr (yst μ z k).1 z k) + 1) from nI_add _ 1]
    have hRE : RC (zui (zui J 8 5 (nI (dayOf (ydr (yst μ z k).1 z k)).2)) 8 6 (nI (mD (ydr (yst μ z k).1 z k) + 1))) 8 9 10 11 (yst μ z (k + 1)).1 := by
      refine ⟨?_, ?_, ?_, ?_, ?_, ?_, ?_⟩
      · rw [zui_self, pk_un (by decide), zui_self, pk_un (by decide)]
        exact hRJ.1
      · rw [zui_ne _ _ _ (by decide), zui_ne _ _ _ (by decide)]
        exact hRJ.2.1
      · rw [zui_ne _ _ _ (by decide), zui_ne _ _ _ (by decide)]
        exact hRJ.2.2.1
      · rw [zui_ne _ _ _ (by decide), zui_ne _ _ _ (by decide)]
        exact hRJ.2.2.2.1
      · rw [zui_self, pk_un (by decide), zui_self, pk_un (by decide)]
        exact hRJ.2.2.2.2.1
      · rw [zui_self, pk_un (by decide), zui_self, pk_us]
        rfl
      · rw [zui_self, pk_us]
        rfl
    have er : ∀ a, a ≠ 8 → (zui (zui J 8 5 (nI (dayOf (ydr (yst μ z k).1 z k)).2)) 8 6 (nI (mD (ydr (yst μ z k).1 z k) + 1))) a = J a := fun a ha => by rw [zui_ne _ _ _ ha, zui_ne _ _ _ ha]
    have hl := mPres_len q1.1
    have h66 := q1.1.1
    have hb := x_cbran (μ := ydr (yst μ z k).1 z k) (g := 6) (s := mS (ydr (yst μ z k).1 z k)) (l := mPres (ydr (yst μ z k).1 z k)) (I := zui (zui J 8 5 (nI (dayOf (ydr (yst μ z k).1 z k)).2)) 8 6 (nI (mD (ydr (yst μ z k).1 z k) + 1))) q1.1 (by rw [er 12 (by decide)]; exact noGuest j4) (fun c hc hg => by rw [er 14 (by decide), j6]; exact fv_in (ydr (yst μ z k).1 z k) hc hg _) (by rw [er 13 (by decide)]; exact j2) (by rw [er 12 (by decide)]; exact j3) (by omega) (fun w hw => (mPres_mem q1.1 hw).1)
    obtain ⟨Z, z0, z1⟩ := l_cyear hW hz hn (w := w) d (k + 1) fuel _ (by omega) (by omega) hRE
    refine ⟨Z, ?_, fun a ha => (z1 a ha).trans ((er a (by omega)).trans ((j1 a (by omega) (by omega) (by omega)).trans (a2 a (by omega))))⟩
    rw [l_G_year_51, if_neg (fun y => by have := (nle (by omega) (by omega)).mp y; omega), dw_class hz (by omega), Option.bind_some]
    dsimp only
    rw [a0, Option.bind_some]
    dsimp only
    rw [j0, Option.bind_some]
    dsimp only
    rw [e9, hb, Option.bind_some]
    dsimp only
    rw [x_bc, Option.bind_some]
    dsimp only
    rw [nbc_in _ (brn_lt q1.1 _ _ _), nI_add, show nI k + 1 = nI (k + 1) from nI_add k 1]
    exact z0
theorem l_dyear {O : Nat → Nat → Int32} (hO : IM O μ) (hW : mOK μ) (hz : z ≤ 9999) (hn : n ≤ 60) {w : Int32} : ∀ (d k fuel : Nat) (I : Nat → Nat → Int32), k + d = n → d < fuel → Held O I → RS (I 68) (yst μ z k).1 → ∃ J, l_D_year_42 fuel I (nI z) (nI n) w (nI (yst μ z k).2) (nI k) = some (if w = 0 then nI (mS (yst μ z n).1) else nI (yst μ z n).2, J) ∧ KP O J
  | 0, k, fuel + 1, I, hk, _, hH, hS => by
    rw [show k = n by omega] at hS ⊢
    refine ⟨_, ?_, Held.back hH⟩
    rw [l_D_year_42, if_pos ((nle (a := n) (b := n) (by omega) (by omega)).mpr (Nat.le_refl n)), x_lets, Option.bind_some, Option.bind_some, hS.2.2.2.1]
    split <;> rfl
  | d + 1, k, fuel + 1, I, hk, hf, hH, hS => by
    obtain ⟨y1, y2, y3⟩ := yst_ok hW z k
    obtain ⟨q1, q2, q3⟩ := ydr_ok (z := z) (k := k) y1
    have h66 := y1.1.1
    have h1 := y1.2.2
    obtain ⟨hK, hN⟩ := hH.stable (ν := (yst μ z k).1) hO.2.2.1 hO.2.2.2 y2 y3
    have n0 : ¬ nI (mN (yst μ z k).1) = 0 := fun y => by have := (neq (b := 0) (by omega) (by omega)).mp y; omega
    have hd := dw_lt z k
    have hd8 : dw z k / 8 ≤ dw z k := Nat.div_le_self _ _
    have d8 : nI (dw z k) / 8 = nI (dw z k / 8) := pk_div (d := 8) (by omega) (by omega) (by omega)
    have ha : dw z k % mN (yst μ z k).1 < mN (yst μ z k).1 := Nat.mod_lt _ h1
    have hb : dw z k / 8 % mN (yst μ z k).1 < mN (yst μ z k).1 := Nat.mod_lt _ h1
    -- the day behind the draw
    have day : ∀ A, Held O A → RS (A 68) (ydr (yst μ z k).1 z k) → ∃ J, ((x_D_passes A).bind (fun q4 => (x_D_bran q4.2).bind (fun q5 => (x_D_ones q5.2 q5.1).bind (fun q6 => l_D_year_42 fuel q6.2 (nI z) (nI n) w (nI (yst μ z k).2 + q6.1) (nI k + 1))))) = some (if w = 0 then nI (mS (yst μ z n).1) else nI (yst μ z n).2, J) ∧ KP O J := by
      intro A hA hSA
      obtain ⟨hK2, hN2⟩ := hA.stable (ν := ydr (yst μ z k).1 z k) hO.2.2.1 hO.2.2.2 (q2.trans y2) (q3.trans y3)
      obtain ⟨E, L, e0, e1, e2, e3, e4⟩ := x_passes q1.1 hSA hK2 hN2
      have hL : Held O L := by
        rw [e2]
        exact ((hA.day e1).put (by decide)).put (by decide)
      have L73 : L 73 = gf (dayOf (ydr (yst μ z k).1 z k)).1 (noR (A 73)) := by
        rw [e2, zui_ne _ _ _ (by decide), zui_ne _ _ _ (by decide), e3]
      have hq66 := q1.1.1
      have hbr := x_dbran (μ := ydr (yst μ z k).1 z k) (g := 6) (s := mS (ydr (yst μ z k).1 z k)) (l := mPres (ydr (yst μ z k).1 z k)) (I := L) q1.1 ((hL.2.1 2 (by decide) (by decide)).trans (by rw [hO.2.2.2, q2, y2])) (fun c hc => by rw [L73]; exact dfines (by omega))
      obtain ⟨Z, z0, z1⟩ := l_dyear hO hW hz hn (w := w) d (k + 1) fuel L (by omega) (by omega) hL e4
      refine ⟨Z, ?_, z1⟩
      rw [e0, Option.bind_some]
      dsimp only
      rw [hbr, Option.bind_some]
      dsimp only
      rw [x_ones (brn_lt q1.1 _ _ _), Option.bind_some]
      dsimp only
      rw [nI_add, show nI k + 1 = nI (k + 1) from nI_add k 1]
      exact z0
    rw [l_D_year_42, if_neg (fun y => by have := (nle (by omega) (by omega)).mp y; omega)]
    simp only [dw_ref hz (show k < 60 by omega), hN, if_neg n0, d8]
    rw [pk_rem (by omega) (by omega) (by omega), pk_rem (by omega) (by omega) (by omega)]
    by_cases q : dw z k % mN (yst μ z k).1 = dw z k / 8 % mN (yst μ z k).1
    · rw [if_pos ((neq (by omega) (by omega)).mpr q)]
      exact day I hH (by rw [ydr, if_pos q]; exact hS)
    · rw [if_neg (fun y => q ((neq (by omega) (by omega)).mp y))]
      obtain ⟨pa, pb, p1, p2, p3, p4⟩ := x_dswap hS hN y1 ha hb
      rw [p3, Option.bind_some]
      dsimp only
      exact day _ ((hH.put (by omega)).put (by omega)) (by rw [ydr, if_neg q]; exact p4)
theorem op_year {I : Nat → Nat → Int32} (hI : IM I μ) (hW : mOK μ) (x y w : Int32) : OQ (fun J => x_G_year J x y w) (fun J => x_D_year J x y w) I := by
  have h66 := hW.1.1
  have zz : ¬ (1 : Int32) = 0 := by decide
  rcases two_out x (b := 9999) (B := 9999) (by omega) rfl with ⟨h3, h4⟩ | ⟨z, hz, e, h3, h4⟩
  · exact OQ.same (v := -1) (by show x_G_year I x y w = _; rw [x_G_year, h3, if_neg zz]) (by show x_D_year I x y w = _; rw [x_D_year, h4, if_pos rfl])
  · by_cases y1 : y < 1
    · have d1 : f_D_in I y 1 60 = 0 := by rw [f_D_in, if_pos y1]
      exact OQ.same (v := -1) (by show x_G_year I x y w = _; rw [x_G_year, h3, if_pos rfl, if_pos y1]) (by show x_D_year I x y w = _; rw [x_D_year, h4, if_neg zz, d1, if_pos rfl])
    · rcases two_out y (b := 60) (B := 60) (by omega) rfl with ⟨k3, k4⟩ | ⟨n, hn, e2, k3, k4⟩
      · have d1 : f_D_in I y 1 60 = 0 := by
          have h := k4 I
          rw [f_D_in] at h
          have y0 : ¬ y < 0 := fun q => y1 (Int32.lt_trans q (by decide))
          rw [if_neg y0] at h
          rw [f_D_in, if_neg y1]
          exact h
        exact OQ.same (v := -1) (by show x_G_year I x y w = _; rw [x_G_year, h3, if_pos rfl, if_neg y1, k3, if_neg zz]) (by show x_D_year I x y w = _; rw [x_D_year, h4, if_neg zz, d1, if_pos rfl])
      · have d1 : ∀ J, f_D_in J y 1 60 = 1 := fun J => by
          have h := k4 J
          rw [f_D_in, if_neg (show ¬ y < 0 by rw [e2]; exact nneg (by omega))] at h
          rw [f_D_in, if_neg y1]
          exact h
        rcases two_out w (b := 1) (B := 1) (by omega) rfl with ⟨w3, w4⟩ | ⟨j, hj, e3, w3, w4⟩
        · exact OQ.same (v := -1) (by show x_G_year I x y w = _; rw [x_G_year, h3, if_pos rfl, if_neg y1, k3, if_pos rfl, w3, if_neg zz]) (by show x_D_year I x y w = _; rw [x_D_year, h4, if_neg zz, d1, if_neg zz, w4, if_pos rfl])
        · obtain ⟨A, a0, a1, a2⟩ := x_copy8 hI.1 h66
          obtain ⟨J, j0, j1⟩ := l_cyear hW hz hn (w := w) n 0 1000 A (by omega) (by omega) a1
          have fJ : ∀ a, ¬ (8 ≤ a ∧ a ≤ 15) → J a = I a := fun a ha => (j1 a ha).trans (a2 a (by omega))
          have kJ := KP.low fJ
          have hJ := hI.keep kJ
          obtain ⟨K, k0, k1⟩ := l_dyear (O := J) hJ hW hz hn (w := w) n 0 1000 _ (by omega) (by omega) (Held.start J) (by rw [zrow_ne _ _ (by decide)]; exact hJ.2.1)
          rw [nI_0] at j0 k0
          have t0 : nI (yst μ z 0).2 = 0 := rfl
          rw [t0] at j0 k0
          refine ⟨if w = 0 then nI (mS (yst μ z n).1) else nI (yst μ z n).2, J, K, ?_, ?_, kJ.trans k1⟩
          · show x_G_year I x y w = _
            rw [x_G_year, h3, if_pos rfl, if_neg y1, k3, if_pos rfl, w3, if_pos rfl, a0, Option.bind_some, e, e2]
            exact j0
          · show x_D_year J x y w = _
            rw [x_D_year, h4, if_neg zz, d1, if_neg zz, w4, if_neg zz, x_holds, Option.bind_some, e, e2]
            exact k0
end PYear
