/-! THE PURE PART: behind -/
theorem mo_cong {μ ν : MS} (h1 : mK ν = mK μ) (h2 : mT ν = mT μ) (c : Nat) : ∀ (k T B : Nat) (r : List Nat), mo ν c k T B r = mo μ c k T B r
  | 0, _, _, _ => rfl
  | k + 1, _, _, [] => rfl
  | k + 1, T, B, w :: r => by
    rw [mo, mo, h1, h2]
    exact mo_cong h1 h2 c k _ _ r
theorem ms_cong {μ ν : MS} (h1 : mK ν = mK μ) (h2 : mT ν = mT μ) (B c : Nat) : ∀ n, ms ν B c n = ms μ B c n
  | 0 => rfl
  | n + 1 => by
    rw [ms, ms, ms_cong h1 h2 B c n, mw, mw, h1, h2]
theorem mf_cong {μ ν : MS} (h0 : mN ν = mN μ) (h1 : mK ν = mK μ) (h2 : mT ν = mT μ) (c s : Nat) (r : List Nat) : mf ν c s r = mf μ c s r := by
  rw [mf, mf, mo_cong h1 h2, ms_cong h1 h2, h0]
theorem gr_cong {μ ν : MS} (h0 : mN ν = mN μ) (h1 : mK ν = mK μ) (h2 : mT ν = mT μ) (g : Nat) : ∀ (r : List Nat) (s : Nat), gr ν g r s = gr μ g r s
  | [], _ => rfl
  | c :: r, s => by
    rw [gr, gr, mf_cong h0 h1 h2, gr_cong h0 h1 h2 g r, gr_cong h0 h1 h2 g r]
theorem fv_cong {μ ν : MS} (h0 : mN ν = mN μ) (h1 : mK ν = mK μ) (h2 : mT ν = mT μ) (g : Nat) (l : List Nat) (s c : Nat) : fv ν g l s c = fv μ g l s c := by
  rw [fv, fv, gr_cong h0 h1 h2]
/-- the same mill with this stone, these days -/
def withS (μ : MS) (s d : Nat) : MS := (mN μ, mK μ, mL μ, mT μ, mG μ, s, d)
theorem withS_wf {μ : MS} {s d : Nat} (h : mWF μ) (hs : s ≤ 9) : mWF (withS μ s d) := ⟨h.1, h.2.1, h.2.2.1, h.2.2.2.1, h.2.2.2.2.1, h.2.2.2.2.2.1, hs⟩
theorem withS_ok {μ : MS} {s d : Nat} (h : mOK μ) (hs : s ≤ 9) : mOK (withS μ s d) := ⟨withS_wf h.1 hs, h.2.1, h.2.2⟩
theorem l_dholds : ∀ (d i fuel : Nat) (I : Nat → Nat → Int32), i + d = 45 → d < fuel → l_D_holds_2 fuel I (nI i) = some (0, zrow I 75 (fun j => if i ≤ j ∧ j < 45 then I 68 j else I 75 j))
  | 0, i, fuel + 1, I, hi, _ => by
    have e : (fun j => if i ≤ j ∧ j < 45 then I 68 j else I 75 j) = I 75 := funext fun j => if_neg (by omega)
    have e2 : zrow I 75 (I 75) = I := by
      funext x
      by_cases h : x = 75
      · rw [h, zrow_self]
      · rw [zrow_ne _ _ h]
    rw [l_D_holds_2, if_pos (show (45 : Int32) ≤ nI i from (nle (a := 45) (by omega) (by omega)).mpr (by omega)), e, e2]
  | d + 1, i, fuel + 1, I, hi, hf => by
    rw [l_D_holds_2, if_neg (show ¬ (45 : Int32) ≤ nI i from fun z => by have := (nle (a := 45) (by omega) (by omega)).mp z; omega), if_pos (nzin (by omega) (by decide)), if_pos (nzin (by omega) (by decide)), ncl (by omega), show nI i + 1 = nI (i + 1) from nI_add i 1, l_dholds d (i + 1) fuel _ (by omega) (by omega), zrow_zui, zui_self, zui_ne _ _ _ (by decide)]
    have e : (fun j => if i + 1 ≤ j ∧ j < 45 then I 68 j else upd (I 75) i (I 68 i) j) = fun j => if i ≤ j ∧ j < 45 then I 68 j else I 75 j := by
      funext j
      by_cases hj : j = i
      · rw [hj, if_neg (by omega), if_pos (by omega), pk_us]
      · rw [pk_un hj]
        by_cases hj2 : i ≤ j ∧ j < 45
        · rw [if_pos hj2, if_pos (by omega)]
        · rw [if_neg hj2, if_neg (by omega)]
    rw [e]
theorem l_dlets : ∀ (d i fuel : Nat) (I : Nat → Nat → Int32), i + d = 45 → d < fuel → l_D_lets_2 fuel I (nI i) = some (0, zrow I 68 (fun j => if i ≤ j ∧ j < 45 then I 75 j else I 68 j))
  | 0, i, fuel + 1, I, hi, _ => by
    have e : (fun j => if i ≤ j ∧ j < 45 then I 75 j else I 68 j) = I 68 := funext fun j => if_neg (by omega)
    have e2 : zrow I 68 (I 68) = I := by
      funext x
      by_cases h : x = 68
      · rw [h, zrow_self]
      · rw [zrow_ne _ _ h]
    rw [l_D_lets_2, if_pos (show (45 : Int32) ≤ nI i from (nle (a := 45) (by omega) (by omega)).mpr (by omega)), e, e2]
  | d + 1, i, fuel + 1, I, hi, hf => by
    rw [l_D_lets_2, if_neg (show ¬ (45 : Int32) ≤ nI i from fun z => by have := (nle (a := 45) (by omega) (by omega)).mp z; omega), if_pos (nzin (by omega) (by decide)), if_pos (nzin (by omega) (by decide)), ncl (by omega), show nI i + 1 = nI (i + 1) from nI_add i 1, l_dlets d (i + 1) fuel _ (by omega) (by omega), zrow_zui, zui_self, zui_ne _ _ _ (by decide)]
    have e : (fun j => if i + 1 ≤ j ∧ j < 45 then I 75 j else upd (I 68) i (I 75 i) j) = fun j => if i ≤ j ∧ j < 45 then I 75 j else I 68 j := by
      funext j
      by_cases hj : j = i
      · rw [hj, if_neg (by omega), if_pos (by omega), pk_us]
      · rw [pk_un hj]
        by_cases hj2 : i ≤ j ∧ j < 45
        · rw [if_pos hj2, if_pos (by omega)]
        · rw [if_neg hj2, if_neg (by omega)]
    rw [e]
theorem x_holds (I : Nat → Nat → Int32) : x_D_holds I = some (0, zrow I 75 (fun j => if j < 45 then I 68 j else I 75 j)) := by
  have h := l_dholds 45 0 1000 I (by omega) (by omega)
  rw [nI_0] at h
  rw [x_D_holds, h]
  congr 3
  funext j
  by_cases hj : j < 45
  · rw [if_pos hj, if_pos ⟨Nat.zero_le j, hj⟩]
  · rw [if_neg hj, if_neg (fun z => hj z.2)]
theorem x_lets (I : Nat → Nat → Int32) : x_D_lets I = some (0, zrow I 68 (fun j => if j < 45 then I 75 j else I 68 j)) := by
  have h := l_dlets 45 0 1000 I (by omega) (by omega)
  rw [nI_0] at h
  rw [x_D_lets, h]
  congr 3
  funext j
  by_cases hj : j < 45
  · rw [if_pos hj, if_pos ⟨Nat.zero_le j, hj⟩]
  · rw [if_neg hj, if_neg (fun z => hj z.2)]
/-- away from here and back: I holds, K is what comes of it, with what I holds -/
def Held (I K : Nat → Nat → Int32) : Prop := (∀ a, a ≠ 63 → a ≠ 68 → a ≠ 72 → a ≠ 73 → a ≠ 74 → a ≠ 75 → K a = I a) ∧ (∀ j, j ≠ 16 → j ≠ 19 → K 63 j = I 63 j) ∧ (∀ j, 45 ≤ j → K 68 j = I 68 j) ∧ (∀ j, j < 45 → K 75 j = I 68 j)
theorem Held.start (I : Nat → Nat → Int32) : Held I (zrow I 75 (fun j => if j < 45 then I 68 j else I 75 j)) := ⟨fun a _ _ _ _ _ h => zrow_ne _ _ h, fun j _ _ => by rw [zrow_ne _ _ (by decide)], fun j _ => by rw [zrow_ne _ _ (by decide)], fun j hj => by rw [zrow_self, if_pos hj]⟩
theorem Held.back {I K : Nat → Nat → Int32} (h : Held I K) : KP I (zrow K 68 (fun j => if j < 45 then K 75 j else K 68 j)) := by
  refine ⟨?_, ?_, ?_⟩
  · intro a a1 a2 a3 a4 a5 a6 a7
    by_cases a8 : a = 68
    · rw [a8, zrow_self]
      funext j
      by_cases hj : j < 45
      · rw [if_pos hj, h.2.2.2 j hj]
      · rw [if_neg hj, h.2.2.1 j (by omega)]
    · rw [zrow_ne _ _ a8, h.1 a a4 a8 (by omega) (by omega) (by omega) (by omega)]
  · rw [zrow_ne _ _ (by decide), h.1 1 (by decide) (by decide) (by decide) (by decide) (by decide) (by decide)]
  · intro j hj
    rw [zrow_ne _ _ (by decide), h.2.1 j (by omega) (by omega)]
theorem Held.day {I K L : Nat → Nat → Int32} (h : Held I K) (k : Day K L) : Held I L := ⟨fun a a1 a2 a3 a4 a5 a6 => (k.1 a a1 a3 a4 a5).trans (h.1 a a1 a2 a3 a4 a5 a6), fun j j1 j2 => (k.2 j j1 j2).trans (h.2.1 j j1 j2), fun j hj => by rw [k.1 68 (by decide) (by decide) (by decide) (by decide)]; exact h.2.2.1 j hj, fun j hj => by rw [k.1 75 (by decide) (by decide) (by decide) (by decide)]; exact h.2.2.2 j hj⟩
theorem Held.put {I K : Nat → Nat → Int32} (h : Held I K) {j : Nat} {v : Int32} (hj : j < 45) : Held I (zui K 68 j v) := ⟨fun a a1 a2 a3 a4 a5 a6 => by rw [zui_ne _ _ _ a2]; exact h.1 a a1 a2 a3 a4 a5 a6, fun j j1 j2 => by rw [zui_ne _ _ _ (by decide)]; exact h.2.1 j j1 j2, fun i hi => by rw [zui_self, pk_un (by omega)]; exact h.2.2.1 i hi, fun i hi => by rw [zui_ne _ _ _ (by decide)]; exact h.2.2.2 i hi⟩
theorem Held.stable {I K : Nat → Nat → Int32} {μ ν : MS} (h : Held I K) (hI : RK (I 65) μ) (hn : I 63 2 = nI (mN μ)) (e1 : mN ν = mN μ) (e2 : mK ν = mK μ) : RK (K 65) ν ∧ K 63 2 = nI (mN ν) := by
  rw [h.1 65 (by decide) (by decide) (by decide) (by decide) (by decide) (by decide), h.2.1 2 (by decide) (by decide), e1, hn]
  refine ⟨fun k hk => ?_, rfl⟩
  rw [e2]
  exact hI k (by rw [← e1]; exact hk)
theorem x_passes {I : Nat → Nat → Int32} {μ : MS} (hW : mWF μ) (hS : RS (I 68) μ) (hK : RK (I 65) μ) (hn : I 63 2 = nI (mN μ)) : ∃ E J, x_D_passes I = some (0, J) ∧ Day I E ∧ J = zui (zui E 68 43 (nI (dayOf μ).2)) 68 44 (nI (mD μ + 1)) ∧ E 73 = gf (dayOf μ).1 (noR (I 73)) ∧ RS (J 68) (withS μ (dayOf μ).2 (mD μ + 1)) := by
  have h66 := hW.1
  obtain ⟨E, e0, e1, e2, e3, e4, e5, e6⟩ := x_today hW hS hK hn
  have e68 : E 68 = I 68 := e1.1 68 (by decide) (by decide) (by decide) (by decide)
  refine ⟨E, _, ?_, e1, rfl, e5, ?_⟩
  · rw [x_D_passes, e0, Option.bind_some]
    dsimp only
    rw [e4, e68, hS.2.2.2.2, show nI (mD μ) + 1 = nI (mD μ + 1) from nI_add _ 1]
  · rw [zui_self, zui_self, e68]
    refine ⟨?_, ?_, ?_, ?_, ?_⟩
    · intro p hp
      have hp2 : p < mN μ := hp
      rw [pk_un (by omega), pk_un (by omega)]
      exact hS.1 p hp
    · intro i j hi hj
      have hi2 : i < mN μ := hi
      have hj2 : j < mN μ := hj
      rw [pk_un (by omega), pk_un (by omega)]
      exact hS.2.1 i j hi hj
    · rw [pk_un (by decide), pk_un (by decide)]
      exact hS.2.2.1
    · rw [pk_un (by decide), pk_us]
      rfl
    · rw [pk_us]
      rfl
/-- the stone behind so many days -/
def stn (μ : MS) : Nat → Nat
  | 0 => mS μ
  | d + 1 => (gr μ 6 (mPres μ) (stn μ d)).2
theorem stn_le {μ : MS} (hW : mWF μ) : ∀ d, stn μ d ≤ 9
  | 0 => hW.2.2.2.2.2.2
  | d + 1 => gr_stone μ 6 _ _ (stn_le hW d)
/-- how fine c had it on the last one of so many days -/
def lastF (μ : MS) (no : Int32) (d c : Nat) : Int32 := if d = 0 then no else if c ∈ mPres μ ∧ c ≠ 6 then nI (fv μ 6 (mPres μ) (stn μ (d - 1)) c) else no
theorem l_cbehind {μ : MS} (hW : mOK μ) {n : Nat} (hn : n ≤ 60) (x2 : Int32) : ∀ (k d fuel : Nat) (I : Nat → Nat → Int32), d + k = n → k < fuel → RC I 4 5 6 7 μ → RA (I 13) 0 (mPres μ) → I 12 2 = nI (mPres μ).length → I 12 3 = -1 → (∀ c, c < 6 → I 14 c = lastF μ (-4) d c) → ∃ J, l_G_behind_49 fuel I (nI n) x2 (nI (stn μ d)) (nI d) = (if x2 = -1 then some (nI (stn μ n), J) else some (f_R_fineOf J x2, J)) ∧ (∀ a, a ≠ 12 → a ≠ 13 → a ≠ 14 → J a = I a) ∧ ∀ c, c < 6 → J 14 c = lastF μ (-4) n c
  | 0, d, fuel + 1, I, hd, _, hR, h1, h2, h3, h4 => by
    have e : d = n := by omega
    refine ⟨I, ?_, fun _ _ _ _ => rfl, by rw [← e]; exact h4⟩
    rw [l_G_behind_49, if_pos ((nle (by omega) (by omega)).mpr (by omega)), e]
  | k + 1, d, fuel + 1, I, hd, hf, hR, h1, h2, h3, h4 => by
    have h66 := hW.1.1
    have hl := mPres_len hW.1
    have hs := stn_le hW.1 d
    have g := x_grind0 (s := stn μ d) (g := 6) hR hW.1 mo4 h1 h2 (by omega) (fun w hw => (mPres_mem hW.1 hw).1) hs (noGuest h3)
    rw [l_G_behind_49, if_neg (fun z => by have := (nle (by omega) (by omega)).mp z; omega), g, Option.bind_some]
    dsimp only
    rw [f_R_stoneThen, rs_s, show nI d + 1 = nI (d + 1) from nI_add d 1]
    obtain ⟨J, j0, j1, j2⟩ := l_cbehind hW hn x2 k (d + 1) fuel (rs I (gr μ 6 (mPres μ) (stn μ d)).2 (gf (gr μ 6 (mPres μ) (stn μ d)).1 (I 14))) (by omega) (by omega) (hR.rs mo4) (by rw [rs_ne (by decide) (by decide)]; exact h1) (by rw [rs_12 (by decide)]; exact h2) (by rw [rs_12 (by decide)]; exact h3) (by
      intro c hc
      rw [rs_F, lastF, if_neg (by omega), Nat.add_sub_cancel]
      by_cases hm : c ∈ mPres μ ∧ c ≠ 6
      · rw [if_pos hm, fv_in μ hm.1 hm.2]
      · rw [if_neg hm, fine_out μ hm, h4 c hc, lastF, if_neg hm, ite_self])
    exact ⟨J, j0, fun a a1 a2 a3 => (j1 a a1 a2 a3).trans (rs_ne a1 a3), j2⟩
theorem l_dbehind {μ : MS} (hW : mOK μ) {n : Nat} (hn : n ≤ 60) (x2 : Int32) {O : Nat → Nat → Int32} (hO1 : RK (O 65) μ) (hO2 : O 63 2 = nI (mN μ)) : ∀ (k d fuel : Nat) (I : Nat → Nat → Int32), d + k = n → k < fuel → Held O I → RS (I 68) (withS μ (stn μ d) (mD μ + d)) → (∀ c, c < 6 → 0 < d → I 73 c = lastF μ (-1) d c) → ∃ J, l_D_behind_31 fuel I (nI n) x2 (nI d) = l_D_behind_31 (fuel - k) J (nI n) x2 (nI n) ∧ Held O J ∧ RS (J 68) (withS μ (stn μ n) (mD μ + n)) ∧ (∀ c, c < 6 → 0 < n → J 73 c = lastF μ (-1) n c)
  | 0, d, fuel, I, hd, _, hH, hS, h4 => by
    have e : d = n := by omega
    rw [e] at hS h4
    exact ⟨I, by rw [e]; rfl, hH, hS, h4⟩
  | k + 1, d, fuel + 1, I, hd, hf, hH, hS, h4 => by
    have h66 := hW.1.1
    have hs := stn_le hW.1 d
    have hW2 := withS_wf (d := mD μ + d) hW.1 hs
    obtain ⟨hK, hN⟩ := hH.stable (ν := withS μ (stn μ d) (mD μ + d)) hO1 hO2 rfl rfl
    obtain ⟨E, L, e0, e1, e2, e3, e4⟩ := x_passes hW2 hS hK hN
    have day : dayOf (withS μ (stn μ d) (mD μ + d)) = gr μ 6 (mPres μ) (stn μ d) := gr_cong (μ := μ) (ν := withS μ (stn μ d) (mD μ + d)) rfl rfl rfl 6 _ _
    rw [day] at e2 e3 e4
    have hL : Held O L := by
      rw [e2]
      exact ((hH.day e1).put (by decide)).put (by decide)
    rw [l_D_behind_31, if_neg (fun z => by have := (nle (by omega) (by omega)).mp z; omega), e0, Option.bind_some]
    dsimp only
    rw [show nI d + 1 = nI (d + 1) from nI_add d 1]
    have L73 : L 73 = gf (gr μ 6 (mPres μ) (stn μ d)).1 (noR (I 73)) := by
      rw [e2, zui_ne _ _ _ (by decide), zui_ne _ _ _ (by decide), e3]
    obtain ⟨J, j0, j1, j2, j3⟩ := l_dbehind hW hn x2 hO1 hO2 k (d + 1) fuel L (by omega) (by omega) hL e4 (by
      intro c hc _
      rw [L73, dfines hc, lastF, if_neg (show ¬ d + 1 = 0 from Nat.succ_ne_zero d), Nat.add_sub_cancel])
    exact ⟨J, by rw [j0, show fuel + 1 - (k + 1) = fuel - k by omega], j1, j2, j3⟩
theorem op_behind {I : Nat → Nat → Int32} {μ : MS} (hI : IM I μ) (hW : mOK μ) (n c : Int32) : OQ (fun J => x_G_behind J n c) (fun J => x_D_behind J n c) I := by
  have h6 := hW.1.1
  have z : ¬ (1 : Int32) = 0 := by decide
  rcases two_out n (b := 60) (B := 60) (by omega) rfl with ⟨h3, h4⟩ | ⟨k, hk, e, h3, h4⟩
  · exact OQ.same (v := -1) (by show x_G_behind I n c = _; rw [x_G_behind, h3, if_neg z]) (by show x_D_behind I n c = _; rw [x_D_behind, h4, if_pos rfl])
  · obtain ⟨A, a0, a1, a2, a3, a4, a5⟩ := x_line hI.1 hW.1 mo4
    have kA := KP.round a1
    have hA := hI.keep kA
    obtain ⟨J, j0, j1, j2⟩ := l_cbehind hW hk c k 0 1000 A (by omega) (by omega) hA.1 a2 a3 a4 (by
      intro x hx
      rw [a5, noF, if_pos hx]
      rfl)
    have kJ := kA.trans (KP.round j1)
    have hJ := hI.keep kJ
    have H0 := Held.start J
    have S0 : RS ((zrow J 75 (fun j => if j < 45 then J 68 j else J 75 j)) 68) (withS μ (stn μ 0) (mD μ + 0)) := by
      rw [zrow_ne _ _ (by decide)]
      exact hJ.2.1
    obtain ⟨K, k0, k1, k2, k3⟩ := l_dbehind hW hk c hJ.2.2.1 hJ.2.2.2 k 0 1000 _ (by omega) (by omega) H0 S0 (fun x hx y => absurd y (Nat.lt_irrefl 0))
    rw [nI_0] at j0 k0
    have j0' : l_G_behind_49 1000 A (nI k) c (f_M_stoneNow 4 5 6 7 I) 0 = (if c = -1 then some (nI (stn μ k), J) else some (f_R_fineOf J c, J)) := by
      rw [f_M_stoneNow, hI.1.2.2.2.2.2.1]
      exact j0
    have fin : l_D_behind_31 (1000 - k) K (nI k) c (nI k) = if 0 ≤ c then (if nI k = 0 then ((x_D_lets K).bind (fun q2 => some (-4, q2.2))) else (if f_D_isAway K c = 0 then (if zinb c 6 = true then ((x_D_lets K).bind (fun q3 => some (K 73 c.toNatClampNeg, q3.2))) else none) else ((x_D_lets K).bind (fun q4 => some (-4, q4.2))))) else ((x_D_lets K).bind (fun q5 => some (K 68 43, q5.2))) := by
      obtain ⟨f, hf⟩ : ∃ f, 1000 - k = f + 1 := ⟨999 - k, by omega⟩
      rw [hf, l_D_behind_31, if_pos ((nle (by omega) (by omega)).mpr (by omega))]
    rw [x_lets] at fin
    simp only [Option.bind_some] at fin
    have kK := Held.back k1
    by_cases cn : c = -1
    · refine ⟨nI (stn μ k), J, _, ?_, ?_, kJ.trans kK⟩
      · show x_G_behind I n c = _
        rw [x_G_behind, h3, if_pos rfl, if_pos cn, a0, Option.bind_some, e, j0', if_pos cn]
      · show x_D_behind J n c = _
        rw [x_D_behind, h4, if_neg z, if_pos cn, x_holds, Option.bind_some, e]
        dsimp only
        rw [k0, fin, if_neg (by rw [cn]; decide), k2.2.2.2.1]
        rfl
    · rcases two_has hI.1 hI.2.2.2 hW c with ⟨h1, h2⟩ | ⟨x, hx, ex, h1, h2⟩
      · exact OQ.same (v := -1) (by show x_G_behind I n c = _; rw [x_G_behind, h3, if_pos rfl, if_neg cn, if_pos h1]) (by show x_D_behind I n c = _; rw [x_D_behind, h4, if_neg z, if_neg cn, if_pos h2])
      · refine ⟨lastF μ (-4) k x, J, _, ?_, ?_, kJ.trans kK⟩
        · show x_G_behind I n c = _
          rw [x_G_behind, h3, if_pos rfl, if_neg cn, h1, if_neg z, a0, Option.bind_some, e, j0', if_neg cn, ex, fineOf_in (by omega), j2 x (by omega)]
        · show x_D_behind J n c = _
          have h2' : f_D_isOne J c = 1 := by
            rw [← h2, f_D_isOne, f_D_isOne, hJ.2.2.2, hI.2.2.2]
            rfl
          have c0 : (0 : Int32) ≤ c := by
            rw [ex]
            exact (nle (a := 0) (by omega) (by omega)).mpr (by omega)
          rw [x_D_behind, h4, if_neg z, if_neg cn, h2', if_neg z, x_holds, Option.bind_some, e]
          dsimp only
          rw [k0, fin, if_pos c0]
          have ek : (nI k = 0) ↔ k = 0 := neq (b := 0) (by omega) (by omega)
          by_cases kz : k = 0
          · rw [if_pos (ek.mpr kz), lastF, if_pos kz]
          · rw [if_neg (fun y => kz (ek.mp y)), ex, isAway_in (μ := withS μ (stn μ k) (mD μ + k)) k2 (withS_wf hW.1 (stn_le hW.1 k)) hx, ncl (by omega), k3 x (by omega) (by omega), if_pos (nzin (k := x) (N := 6) (by omega) (by decide))]
            by_cases b : (mG μ).testBit x = true
            · have hb : (if (mG (withS μ (stn μ k) (mD μ + k))).testBit x = true then (1 : Int32) else 0) = 1 := if_pos b
              have hm : ¬ (x ∈ mPres μ ∧ x ≠ 6) := fun y => by have := (mPres_mem hW.1 y.1).2; rw [this] at b; cases b
              rw [hb, if_neg z, lastF, if_neg kz, if_neg hm]
            · have hb : (if (mG (withS μ (stn μ k) (mD μ + k))).testBit x = true then (1 : Int32) else 0) = 0 := if_neg b
              have hm : x ∈ mPres μ ∧ x ≠ 6 := ⟨pres_in hW hx (bitf b), by omega⟩
              rw [hb, if_pos rfl, lastF, if_neg kz, if_pos hm, lastF, if_neg kz, if_pos hm]
