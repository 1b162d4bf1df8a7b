/-! THE PURE PART: chance -/
section PChance
variable {μ : MS} {c b x o : Nat}
theorem line_in (hW : mOK μ) (hc : c < mN μ) {g : Nat} (hg : g < 2 ^ mN μ) (hb : g.testBit c = false) : c ∈ lineOf μ g := by
  rw [← setG_pres]
  exact pres_in (setG_ok hW hg) hc hb
theorem l_cchance (hW : mOK μ) (hc : c < mN μ) (hgc : (mG μ).testBit c = false) (hb : b ≤ 3) (hx : x ≤ 10) (ho : o < 2 ^ mN μ) (hoc : o.testBit c = false) (h5 : pc6 o ≤ 5) {p : Int32} {g : Nat} (hgd : eu 32 (tot μ c b x o (2 ^ mN μ)) (10 ^ pc6 o) = some g) : ∀ (d s fuel g' : Nat) (I : Nat → Nat → Int32), s + d = 2 ^ mN μ → d < fuel → RC I 4 5 6 7 μ → RC I 8 9 10 11 (setG μ g') → ∃ J, l_G_chance_85 fuel I (nI c) (nI b) (nI x) p (nI o) (nI (tot μ c b x o s)) (nI s) = some (if p = 0 then nI (tot μ c b x o (2 ^ mN μ)) / nI g else nI (10 ^ pc6 o) / nI g, J) ∧ ∀ a, ¬ (8 ≤ a ∧ a ≤ 15) → J a = I a
  | 0, s, fuel + 1, g', I, hs, _, hR, _ => by
    have h66 := hW.1.1
    have h64 := pow_64 h66
    have htl := tot_le (c := c) (b := b) h66 hx ho h5 (2 ^ mN μ) (Nat.le_refl _)
    have hp10 : 10 ^ pc6 o ≤ 10 ^ 5 := Nat.pow_le_pow_right (by decide) h5
    have hp10' : 0 < 10 ^ pc6 o := Nat.pow_pos (by decide)
    have gp := eu_pos 32 _ _ g hgd (by omega)
    have gg := l_gcd (I := I) (x0 := nI (tot μ c b x o (2 ^ mN μ))) (x1 := nI (10 ^ pc6 o)) 32 0 1000 (tot μ c b x o (2 ^ mN μ)) (10 ^ pc6 o) (by omega) (by omega) (by omega) (by omega) hgd
    rw [nI_0] at gg
    refine ⟨I, ?_, fun _ _ => rfl⟩
    have g1 : (1 : Int32) ≤ nI g := (nI_leI (a := 1) (by omega) (by omega)).mpr (by omega)
    have g0 : ¬ nI g = 0 := fun z => by have := (nI_eq (b := 0) (by omega) (by omega)).mp z; omega
    rw [l_G_chance_85, f_M_size, hR.1, nsh1 (mN μ) (by omega), if_pos ((nle (by omega) (by omega)).mpr (by omega)), x_bc, Option.bind_some]
    dsimp only
    rw [nbc_in o (by omega), show (10 : Int32) = nI 10 from rfl, x_power (by omega), Option.bind_some]
    dsimp only
    rw [show s = 2 ^ mN μ by omega, x_G_commonDivisor, gg, Option.bind_some]
    dsimp only
    rw [if_pos g1, if_neg g0, if_neg g0]
    split <;> rfl
  | d + 1, s, fuel + 1, g', I, hs, hf, hR, hT => by
    have h66 := hW.1.1
    have h64 := pow_64 h66
    rw [l_G_chance_85, f_M_size, hR.1, nsh1 (mN μ) (by omega), if_neg (fun z => by have := (nle (by omega) (by omega)).mp z; omega), show nI s + 1 = nI (s + 1) from nI_add s 1]
    have hsb := sb_in s (by omega) o (by omega)
    by_cases b1 : sb s o = true
    · rw [if_pos (hsb.mpr b1)]
      have hgs : mG μ ||| s < 2 ^ mN μ := or_lt hW.1.2.2.2.2.2.1 (by omega)
      have hcs : (mG μ ||| s).testBit c = false := by rw [Nat.testBit_or, hgc, sb_bit b1 hoc]; rfl
      have eg : g_M_setGone 8 9 10 11 I (f_M_goneBits 4 5 6 7 I ||| nI s) = zui I 8 4 (nI (mG μ ||| s)) := by
        rw [g_M_setGone, f_M_goneBits, hR.2.2.2.2.1, fa_or]
      have hT2 : RC (zui I 8 4 (nI (mG μ ||| s))) 8 9 10 11 (setG μ (mG μ ||| s)) := by
        refine ⟨?_, ?_, ?_, ?_, ?_, ?_, ?_⟩
        · rw [zui_self, pk_un (by decide)]
          exact hT.1
        · rw [zui_ne _ _ _ (by decide)]
          exact hT.2.1
        · rw [zui_ne _ _ _ (by decide)]
          exact hT.2.2.1
        · rw [zui_ne _ _ _ (by decide)]
          exact hT.2.2.2.1
        · rw [zui_self, pk_us]
          rfl
        · rw [zui_self, pk_un (by decide)]
          exact hT.2.2.2.2.2.1
        · rw [zui_self, pk_un (by decide)]
          exact hT.2.2.2.2.2.2
      obtain ⟨J, j0, j1, j2, j3, j4, j5, j6⟩ := x_pass hT2 (setG_ok hW hgs).1 mo8
      have fJ : ∀ a, ¬ (8 ≤ a ∧ a ≤ 15) → J a = I a := fun a ha => (j1 a (by omega) (by omega) (by omega)).trans (zui_ne _ _ _ (by omega))
      have hTJ : RC J 8 9 10 11 (setG μ (mG μ ||| s)) := hT2.congr (j1 8 (by decide) (by decide) (by decide)) (j1 9 (by decide) (by decide) (by decide)) (j1 10 (by decide) (by decide) (by decide)) (j1 11 (by decide) (by decide) (by decide))
      have hRJ : RC J 4 5 6 7 μ := hR.congr (fJ 4 (by omega)) (fJ 5 (by omega)) (fJ 6 (by omega)) (fJ 7 (by omega))
      have eb : f_G_breadOf J (f_R_fineOf J (nI c)) = nI (brW μ c s) := by
        have e1 : J 14 c = nI (fv (setG μ (mG μ ||| s)) 6 (mPres (setG μ (mG μ ||| s))) (mS μ) c) := by
          rw [j6]
          exact fv_in (setG μ (mG μ ||| s)) (pres_in (setG_ok hW hgs) hc hcs) (by omega) _
        rw [fineOf_in (by omega), e1, bread_in (fv_le _ _ _ _ _), fv_cong (μ := μ) (ν := setG μ (mG μ ||| s)) rfl rfl rfl, setG_pres]
        rfl
      have hple : pc6 s ≤ pc6 o := sb_pc b1 6
      rw [eg, j0, Option.bind_some]
      dsimp only
      rw [x_bc, Option.bind_some]
      dsimp only
      rw [x_bc, Option.bind_some]
      dsimp only
      rw [nbc_in s (by omega), nbc_in o (by omega), eb, pk_sub hple, show (10 : Int32) - nI x = nI (10 - x) from pk_sub (a := 10) hx, x_power (by omega), Option.bind_some]
      dsimp only
      rw [x_power (by omega), Option.bind_some]
      dsimp only
      rw [pk_mul, nI_add, show nI (tot μ c b x o s) + 0 = nI (tot μ c b x o s) from Int32.add_zero _, ← prw_6 h66 b1 (show s < 2 ^ mN μ by omega) ho]
      have hbr : brW μ c s ≤ 3 := br_le _
      obtain ⟨Z, z0, z1⟩ := l_cchance hW hc hgc hb hx ho hoc h5 (p := p) hgd d (s + 1) fuel (mG μ ||| s) J (by omega) (by omega) hRJ hTJ
      refine ⟨Z, ?_, fun a ha => (z1 a ha).trans (fJ a ha)⟩
      rw [← z0]
      by_cases b2 : b ≤ brW μ c s
      · rw [if_neg (fun z => by have := (nlt (by omega) (by omega)).mp z; omega), tot_yes b1 b2]
      · rw [if_pos ((nlt (by omega) (by omega)).mpr (by omega)), tot_no (Or.inr b2)]
    · rw [if_neg (fun z => b1 (hsb.mp z)), ← tot_no (μ := μ) (c := c) (b := b) (x := x) (Or.inl (bitf b1))]
      exact l_cchance hW hc hgc hb hx ho hoc h5 hgd d (s + 1) fuel g' I (by omega) (by omega) hR hT
theorem l_below {I : Nat → Nat → Int32} {x1 x2 x3 x4 x6 : Int32} (ho : o < 64) : ∀ (d k fuel : Nat), k + d = pc6 o → l_D_chance (fuel + d + 1) 0 I x1 x2 x3 x4 (nI o) x6 (nI (10 ^ k)) (nI k) 0 0 = l_D_chance fuel 1 I x1 x2 x3 x4 (nI o) x6 (nI (10 ^ pc6 o)) 0 0 0
  | 0, k, fuel, hk => by
    have h6 := pc6_le o
    rw [l_D_chance, if_pos rfl, x_ones ho, Option.bind_some]
    dsimp only
    rw [if_pos ((nle (by omega) (by omega)).mpr (by omega)), show k = pc6 o by omega]
  | d + 1, k, fuel, hk => by
    have h6 := pc6_le o
    rw [l_D_chance, if_pos rfl, x_ones ho, Option.bind_some]
    dsimp only
    rw [if_neg (fun z => by have := (nle (by omega) (by omega)).mp z; omega), show nI k + 1 = nI (k + 1) from nI_add k 1, show nI (10 ^ k) * 10 = nI (10 ^ k * 10) from pk_mul _ 10, ← Nat.pow_succ, ← Nat.add_assoc]
    exact l_below ho d (k + 1) fuel (by omega)
theorem l_prod {I : Nat → Nat → Int32} {x1 x2 x4 x6 x7 : Int32} {s : Nat} (hN : mN μ ≤ 6) (hx : x ≤ 10) (hn : I 63 2 = nI (mN μ)) (ho : o < 64) (hs : s < 64) : ∀ (d i fuel : Nat), i + d = mN μ → l_D_chance (fuel + d) 2 I x1 x2 (nI x) x4 (nI o) x6 x7 (nI s) (nI (prw x o s i)) (nI i) = l_D_chance fuel 2 I x1 x2 (nI x) x4 (nI o) x6 x7 (nI s) (nI (prw x o s (mN μ))) (nI (mN μ))
  | 0, i, fuel, hi => by
    rw [show i = mN μ by omega]
    rfl
  | d + 1, i, fuel, hi => by
    have b1 := nbit0 o ho i (by omega)
    have b2 := nbit s hs i (by omega)
    have ih := l_prod (I := I) (x1 := x1) (x2 := x2) (x4 := x4) (x6 := x6) (x7 := x7) (s := s) hN hx hn ho hs d (i + 1) fuel (by omega)
    rw [prw] at ih
    rw [← Nat.add_assoc, l_D_chance, if_neg (by decide), if_neg (by decide), if_pos rfl, hn, if_neg (fun z => by have := (nle (by omega) (by omega)).mp z; omega), show nI i + 1 = nI (i + 1) from nI_add i 1]
    by_cases c1 : o.testBit i = true
    · rw [if_neg (fun z => by rw [b1.mp z] at c1; cases c1)]
      rw [if_pos c1] at ih
      by_cases c2 : s.testBit i = true
      · rw [if_pos c2] at ih
        rw [if_pos (b2.mpr c2), pk_mul]
        exact ih
      · rw [if_neg c2] at ih
        rw [if_neg (fun z => c2 (b2.mp z)), show (10 : Int32) - nI x = nI (10 - x) from pk_sub (a := 10) hx, pk_mul]
        exact ih
    · rw [if_neg c1] at ih
      rw [if_pos (b1.mpr (bitf c1)), show nI (prw x o s i) * 1 = nI (prw x o s i * 1) from pk_mul _ 1]
      exact ih
theorem l_dgcd {I : Nat → Nat → Int32} {x1 x2 x3 x4 x5 x6 x7 : Int32} {g : Nat} (hg0 : 0 < g) (hg1 : g < 100000000) : ∀ (k fuel a d : Nat), k < fuel → a < 10000000 → d < 10000000 → eu k a d = some g → l_D_chance fuel 3 I x1 x2 x3 x4 x5 x6 x7 (nI a) (nI d) 0 = some (if x4 = 0 then x6 / nI g else x7 / nI g, I)
  | k, fuel + 1, a, d, hk, ha, hd, e => by
    have g0 : ¬ nI g = 0 := fun z => by have := (nI_eq (b := 0) (by omega) (by omega)).mp z; omega
    have e0 : nI d ≤ 0 ↔ d = 0 := by
      rw [show nI d ≤ 0 ↔ d ≤ 0 from nI_leI (b := 0) (by omega) (by omega)]
      omega
    have e1 : nI d = 0 ↔ d = 0 := nI_eq (b := 0) (by omega) (by omega)
    rw [l_D_chance, if_neg (by decide), if_neg (by decide), if_neg (by decide), if_pos rfl]
    by_cases h0 : d = 0
    · have ea : a = g := by
        cases k with
        | zero => rw [eu, if_pos h0] at e; exact Option.some.inj e
        | succ k => rw [eu, if_pos h0] at e; exact Option.some.inj e
      rw [if_pos (e0.mpr h0), ea, if_neg g0, if_neg g0]
      split <;> rfl
    · rw [if_neg (fun z => h0 (e0.mp z)), if_neg (fun z => h0 (e1.mp z)), pk_rem (by omega) (by omega) (by omega)]
      cases k with
      | zero => rw [eu, if_neg h0] at e; cases e
      | succ k =>
        rw [eu, if_neg h0] at e
        have hm := Nat.mod_lt a (show 0 < d by omega)
        exact l_dgcd hg0 hg1 k fuel d (a % d) (by omega) hd (by omega) e
theorem l_dchance (hW : mOK μ) (hc : c < mN μ) (hgc : (mG μ).testBit c = false) (hb : b ≤ 3) (hx : x ≤ 10) (ho : o < 2 ^ mN μ) (hoc : o.testBit c = false) (h5 : pc6 o ≤ 5) {p : Int32} {g : Nat} (hgd : eu 32 (tot μ c b x o (2 ^ mN μ)) (10 ^ pc6 o) = some g) : ∀ (d s fuel : Nat) (I : Nat → Nat → Int32), s + d = 2 ^ mN μ → 9 * d + 40 < fuel → RS (I 68) μ → RK (I 65) μ → I 63 2 = nI (mN μ) → ∃ J, l_D_chance fuel 1 I (nI c) (nI b) (nI x) p (nI o) (nI (tot μ c b x o s)) (nI (10 ^ pc6 o)) (nI s) 0 0 = some (if p = 0 then nI (tot μ c b x o (2 ^ mN μ)) / nI g else nI (10 ^ pc6 o) / nI g, J) ∧ Day I J
  | 0, s, fuel, I, hs, hf, hS, hK, hn => by
    have h66 := hW.1.1
    have h64 := pow_64 h66
    have htl := tot_le (c := c) (b := b) h66 hx ho h5 (2 ^ mN μ) (Nat.le_refl _)
    have hp10 : 10 ^ pc6 o ≤ 10 ^ 5 := Nat.pow_le_pow_right (by decide) h5
    have hp10' : 0 < 10 ^ pc6 o := Nat.pow_pos (by decide)
    have gp := eu_pos 32 _ _ g hgd (by omega)
    obtain ⟨f, rfl⟩ : ∃ f, fuel = f + 1 := ⟨fuel - 1, by omega⟩
    refine ⟨I, ?_, Day.refl I⟩
    rw [l_D_chance, if_neg (by decide), if_pos rfl, hn, nsh1 (mN μ) (by omega), if_pos ((nle (by omega) (by omega)).mpr (by omega)), show s = 2 ^ mN μ by omega]
    exact l_dgcd (by omega) (by omega) 32 f _ _ (by omega) (by omega) (by omega) hgd
  | d + 1, s, fuel, I, hs, hf, hS, hK, hn => by
    have h66 := hW.1.1
    have h64 := pow_64 h66
    obtain ⟨f, rfl⟩ : ∃ f, fuel = f + 1 := ⟨fuel - 1, by omega⟩
    have hsb := sb_in s (by omega) o (by omega)
    rw [l_D_chance, if_neg (by decide), if_pos rfl, hn, nsh1 (mN μ) (by omega), if_neg (fun z => by have := (nle (by omega) (by omega)).mp z; omega), show nI s + 1 = nI (s + 1) from nI_add s 1]
    by_cases b1 : sb s o = true
    · have hgs : mG μ ||| s < 2 ^ mN μ := or_lt hW.1.2.2.2.2.2.1 (by omega)
      have hcs : (mG μ ||| s).testBit c = false := by rw [Nat.testBit_or, hgc, sb_bit b1 hoc]; rfl
      have pr := l_prod (μ := μ) (I := I) (x1 := nI c) (x2 := nI b) (x4 := p) (x6 := nI (tot μ c b x o s)) (x7 := nI (10 ^ pc6 o)) (s := s) (x := x) (o := o) h66 hx hn (by omega) (by omega) (mN μ) 0 (f - mN μ) (by omega)
      rw [show f - mN μ + mN μ = f by omega] at pr
      have pr' : l_D_chance f 2 I (nI c) (nI b) (nI x) p (nI o) (nI (tot μ c b x o s)) (nI (10 ^ pc6 o)) (nI s) 1 0 = _ := pr
      obtain ⟨q, hq⟩ : ∃ q, f - mN μ = q + 1 := ⟨f - mN μ - 1, by omega⟩
      obtain ⟨E, e0, e1, e2, e3, e4⟩ := x_stands (I := I) (g := mG μ ||| s) hW.1 (by omega) hS hn
      have hll : (lineOf μ (mG μ ||| s)).length ≤ 6 := by
        rw [← setG_pres]
        have := mPres_len (setG_ok hW hgs).1
        have h7 : mN (setG μ (mG μ ||| s)) = mN μ := rfl
        omega
      have hlm : ∀ w ∈ lineOf μ (mG μ ||| s), w < mN μ := fun w hw => by
        rw [← setG_pres] at hw
        exact (mPres_mem (setG_ok hW hgs).1 hw).1
      have gd := x_grinds (x1 := -1) (g := 6) (l := lineOf μ (mG μ ||| s)) (I := E) hW.1 (by rw [e1 68 (by decide) (by decide)]; exact hS) (by rw [e1 65 (by decide) (by decide)]; exact hK) e3 e4 hll hlm (mPres_nodup hW.1 _) noBody
      have day : Day I (rg E (gr μ 6 (lineOf μ (mG μ ||| s)) (mS μ)).2 (gf (gr μ 6 (lineOf μ (mG μ ||| s)) (mS μ)).1 (noR (E 73))) (gm μ 6 (lineOf μ (mG μ ||| s)) (E 74))) := ⟨fun a a1 a2 a3 a4 => by rw [rg_ne a1 a3 a4, e1 a a1 a2], fun j y1 y2 => by rw [rg_63 y2, e2 j y1]⟩
      have eb : f_D_breadOf (rg E (gr μ 6 (lineOf μ (mG μ ||| s)) (mS μ)).2 (gf (gr μ 6 (lineOf μ (mG μ ||| s)) (mS μ)).1 (noR (E 73))) (gm μ 6 (lineOf μ (mG μ ||| s)) (E 74))) ((rg E (gr μ 6 (lineOf μ (mG μ ||| s)) (mS μ)).2 (gf (gr μ 6 (lineOf μ (mG μ ||| s)) (mS μ)).1 (noR (E 73))) (gm μ 6 (lineOf μ (mG μ ||| s)) (E 74))) 73 c) = nI (brW μ c s) := by
        rw [rg_73, fv_in μ (line_in hW hc hgs hcs) (by omega), dbread_in (fv_le _ _ _ _ _)]
        rfl
      generalize hL : rg E (gr μ 6 (lineOf μ (mG μ ||| s)) (mS μ)).2 (gf (gr μ 6 (lineOf μ (mG μ ||| s)) (mS μ)).1 (noR (E 73))) (gm μ 6 (lineOf μ (mG μ ||| s)) (E 74)) = L at gd day eb
      rw [if_pos (hsb.mpr b1), pr', hq, l_D_chance, if_neg (by decide), if_neg (by decide), if_pos rfl, hn, if_pos ((nle (a := mN μ) (b := mN μ) (by omega) (by omega)).mpr (Nat.le_refl _)), hS.2.2.1, fa_or, e0, Option.bind_some]
      dsimp only
      rw [gd, Option.bind_some]
      dsimp only
      rw [if_pos (nzin (k := c) (N := 6) (by omega) (by decide)), ncl (by omega), eb, show nI s + 1 = nI (s + 1) from nI_add s 1, nI_add, show nI (tot μ c b x o s) + 0 = nI (tot μ c b x o s) from Int32.add_zero _]
      have hbr : brW μ c s ≤ 3 := br_le _
      obtain ⟨Z, z0, z1⟩ := l_dchance hW hc hgc hb hx ho hoc h5 (p := p) hgd d (s + 1) q L (by omega) (by omega) (by rw [day.1 68 (by decide) (by decide) (by decide) (by decide)]; exact hS) (by rw [day.1 65 (by decide) (by decide) (by decide) (by decide)]; exact hK) (by rw [day.2 2 (by decide) (by decide)]; exact hn)
      refine ⟨Z, ?_, day.trans z1⟩
      rw [← z0]
      by_cases b2 : b ≤ brW μ c s
      · rw [if_neg (fun z => by have := (nlt (by omega) (by omega)).mp z; omega), tot_yes b1 b2]
      · rw [if_pos ((nlt (by omega) (by omega)).mpr (by omega)), tot_no (Or.inr b2)]
    · rw [if_neg (fun z => b1 (hsb.mp z)), ← tot_no (μ := μ) (c := c) (b := b) (x := x) (Or.inl (bitf b1))]
      exact l_dchance hW hc hgc hb hx ho hoc h5 hgd d (s + 1) f I (by omega) (by omega) hS hK hn
theorem op_chance {I : Nat → Nat → Int32} (hI : IM I μ) (hW : mOK μ) (y w v p : Int32) : OQ (fun J => x_G_chance J y w v p) (fun J => x_D_chance J y w v p) I := by
  have h66 := hW.1.1
  have h64 := pow_64 h66
  have z : ¬ (1 : Int32) = 0 := by decide
  rcases two_has hI.1 hI.2.2.2 hW y with ⟨h1, h2⟩ | ⟨c, hc, e, h1, h2⟩
  · exact OQ.same (v := -1) (by show x_G_chance I y w v p = _; rw [x_G_chance, if_pos h1]) (by show x_D_chance I y w v p = _; rw [x_D_chance, if_pos h2])
  · rcases two_out w (b := 3) (B := 3) (by omega) rfl with ⟨h3, h4⟩ | ⟨b, hb, e2, h3, h4⟩
    · exact OQ.same (v := -1) (by show x_G_chance I y w v p = _; rw [x_G_chance, h1, if_neg z, h3, if_neg z]) (by show x_D_chance I y w v p = _; rw [x_D_chance, h2, if_neg z, h4, if_pos rfl])
    · rcases two_out v (b := 10) (B := 10) (by omega) rfl with ⟨k3, k4⟩ | ⟨x, hx, e3, k3, k4⟩
      · exact OQ.same (v := -1) (by show x_G_chance I y w v p = _; rw [x_G_chance, h1, if_neg z, h3, if_pos rfl, k3, if_neg z]) (by show x_D_chance I y w v p = _; rw [x_D_chance, h2, if_neg z, h4, if_neg z, k4, if_pos rfl])
      · rcases two_out p (b := 1) (B := 1) (by omega) rfl with ⟨p3, p4⟩ | ⟨q, hq, e4, p3, p4⟩
        · exact OQ.same (v := -1) (by show x_G_chance I y w v p = _; rw [x_G_chance, h1, if_neg z, h3, if_pos rfl, k3, if_pos rfl, p3, if_neg z]) (by show x_D_chance I y w v p = _; rw [x_D_chance, h2, if_neg z, h4, if_neg z, k4, if_neg z, p4, if_pos rfl])
        · by_cases bg : (mG μ).testBit c = true
          · exact OQ.same (v := -2) (by show x_G_chance I y w v p = _; rw [x_G_chance, h1, if_neg z, h3, if_pos rfl, k3, if_pos rfl, p3, if_pos rfl, e, isGone_in hI.1 hW.1 hc, if_pos bg, if_neg z]) (by show x_D_chance I y w v p = _; rw [x_D_chance, h2, if_neg z, h4, if_neg z, k4, if_neg z, p4, if_neg z, e, isAway_in hI.2.1 hW.1 hc, if_pos bg, if_neg z])
          · have hT := thr_64 hW.1
            have hT2 := thr_lt (mN μ) (by omega) (mG μ) hW.1.2.2.2.2.2.1
            have ho := oth6_lt c hT2
            have hoc := oth6_c (thr (mN μ) (mG μ)) hT c (by omega)
            have h5 := oth6_pc (thr (mN μ) (mG μ)) hT c (by omega)
            have hin := oth6_in (thr (mN μ) (mG μ)) hT c (by omega)
            have hp10 : 10 ^ pc6 (oth6 (thr (mN μ) (mG μ)) c) ≤ 10 ^ 5 := Nat.pow_le_pow_right (by decide) h5
            have hp10' : 0 < 10 ^ pc6 (oth6 (thr (mN μ) (mG μ)) c) := Nat.pow_pos (by decide)
            obtain ⟨g, hgd⟩ := eu_some (a := tot μ c b x (oth6 (thr (mN μ) (mG μ)) c) (2 ^ mN μ)) hp10' (by omega)
            obtain ⟨A, a0, a1, a2⟩ := x_copy8 hI.1 h66
            obtain ⟨J, j0, j1⟩ := l_cchance hW hc (bitf bg) hb hx ho hoc h5 (p := p) hgd (2 ^ mN μ) 0 1000 (mG μ) A (by omega) (by omega) (hI.1.congr (a2 4 (by omega)) (a2 5 (by omega)) (a2 6 (by omega)) (a2 7 (by omega))) a1
            have fJ : ∀ a, ¬ (8 ≤ a ∧ a ≤ 15) → J a = I a := fun a ha => (j1 a ha).trans (a2 a (by omega))
            have kJ := KP.low fJ
            have hJ := hI.keep kJ
            obtain ⟨K, k0, k1⟩ := l_dchance hW hc (bitf bg) hb hx ho hoc h5 (p := p) hgd (2 ^ mN μ) 0 (5000 - pc6 (oth6 (thr (mN μ) (mG μ)) c) - 1) J (by omega) (by omega) hJ.2.1 hJ.2.2.1 hJ.2.2.2
            have bl := l_below (I := J) (x1 := nI c) (x2 := nI b) (x3 := nI x) (x4 := p) (x6 := 0) (o := oth6 (thr (mN μ) (mG μ)) c) (by omega) (pc6 (oth6 (thr (mN μ) (mG μ)) c)) 0 (5000 - pc6 (oth6 (thr (mN μ) (mG μ)) c) - 1) (by omega)
            rw [show 5000 - pc6 (oth6 (thr (mN μ) (mG μ)) c) - 1 + pc6 (oth6 (thr (mN μ) (mG μ)) c) + 1 = 5000 by omega] at bl
            have bl' : l_D_chance 5000 0 J (nI c) (nI b) (nI x) p (nI (oth6 (thr (mN μ) (mG μ)) c)) 0 1 0 0 0 = _ := bl
            rw [nI_0] at j0 k0
            have t0 : nI (tot μ c b x (oth6 (thr (mN μ) (mG μ)) c) 0) = 0 := rfl
            rw [t0] at j0 k0
            refine ⟨if p = 0 then nI (tot μ c b x (oth6 (thr (mN μ) (mG μ)) c) (2 ^ mN μ)) / nI g else nI (10 ^ pc6 (oth6 (thr (mN μ) (mG μ)) c)) / nI g, J, K, ?_, ?_, kJ.trans k1.kp⟩
            · show x_G_chance I y w v p = _
              rw [x_G_chance, h1, if_neg z, h3, if_pos rfl, k3, if_pos rfl, p3, if_pos rfl, e, isGone_in hI.1 hW.1 hc, if_neg bg, if_pos rfl, a0, Option.bind_some, e2, e3, f_M_presentBits, hI.1.1, hI.1.2.2.2.2.1, thr_in (mN μ) (by omega) (mG μ) hW.1.2.2.2.2.2.1, hin]
              exact j0
            · show x_D_chance J y w v p = _
              rw [x_D_chance, one_keep hI hJ h2, if_neg z, h4, if_neg z, k4, if_neg z, p4, if_neg z, e, isAway_in hJ.2.1 hW.1 hc, if_neg bg, if_pos rfl, e2, e3, there_in hW.1 hJ.2.1 hJ.2.2.2, hin, bl']
              exact k0
end PChance
