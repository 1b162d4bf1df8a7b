/-! THE PURE PART: helpless -/
theorem ob_nodup : ∀ l, (∀ c ∈ l, c < 6) → pc6 (ob l) = l.length → l.Nodup
  | [], _, _ => List.nodup_nil
  | c :: l, h, e => by
    have h2 : ∀ x ∈ l, x < 6 := fun x hx => h x (List.mem_cons_of_mem _ hx)
    have hle := ob_le l h2
    have hc := h c List.mem_cons_self
    rw [ob, List.length_cons] at e
    by_cases b : (ob l).testBit c = true
    · rw [pc_same (ob l) (ob_lt l h2) c hc b] at e
      omega
    · rw [pc_or (ob l) (ob_lt l h2) c hc (bitf b)] at e
      refine List.nodup_cons.mpr ⟨fun z => ?_, ob_nodup l h2 (by omega)⟩
      rw [ob_bit, decide_eq_true z] at b
      exact b rfl
/-- an order of all who are there -/
def Ord (μ : MS) (L : List Nat) : Prop := L.length ≤ 6 ∧ L.Nodup ∧ (∀ w ∈ L, w < mN μ) ∧ (∀ w ∈ L, w < 6) ∧ (∀ w, w < mN μ → (mG μ).testBit w = false → w ∈ L) ∧ L.length = pc6 (thr (mN μ) (mG μ))
theorem ord_of {μ : MS} (hW : mWF μ) {L : List Nat} (hl : L.length = pc6 (thr (mN μ) (mG μ))) (h6 : ∀ d ∈ L, d < 6) (ho : ob L = thr (mN μ) (mG μ)) : Ord μ L := by
  have h66 := hW.1
  have hb : ∀ w, w < 6 → (w ∈ L ↔ w < mN μ ∧ (mG μ).testBit w = false) := by
    intro w hw
    have h1 := ob_bit w L
    rw [ho, thr_bit (mN μ) (by omega) (mG μ) hW.2.2.2.2.2.1 w hw] at h1
    constructor
    · intro z
      rw [decide_eq_true z, Bool.and_eq_true] at h1
      exact ⟨of_decide_eq_true h1.1, by simpa using h1.2⟩
    · intro z
      rw [decide_eq_true z.1, z.2] at h1
      exact of_decide_eq_true h1.symm
  refine ⟨by have := pc6_le (thr (mN μ) (mG μ)); omega, ob_nodup L h6 (by rw [ho, hl]), fun w hw => ((hb w (h6 w hw)).mp hw).1, h6, fun w h1 h2 => (hb w (by omega)).mpr ⟨h1, h2⟩, hl⟩
def fil (n T x d : Nat) : List (List Nat) := ((List.range' x d).map (dg n)).filter (fun L => decide (ob L = T))
theorem fil_succ (n T x d : Nat) : fil n T x (d + 1) = if ob (dg n x) = T then dg n x :: fil n T (x + 1) d else fil n T (x + 1) d := by
  unfold fil
  rw [List.range'_succ, List.map_cons, List.filter_cons]
  by_cases h : ob (dg n x) = T
  · rw [if_pos (decide_eq_true h), if_pos h]
  · rw [if_neg (fun z => h (of_decide_eq_true z)), if_neg h]
def vs (μ : MS) : List (List Nat) := ords (pc6 (thr (mN μ) (mG μ))) (thr (mN μ) (mG μ))
theorem fil_vs {μ : MS} (hW : mWF μ) : fil (pc6 (thr (mN μ) (mG μ))) (thr (mN μ) (mG μ)) 0 (6 ^ pc6 (thr (mN μ) (mG μ))) = vs μ := by
  have h66 := hW.1
  have h1 := thr_lt (mN μ) (by omega) (mG μ) hW.2.2.2.2.2.1
  have h2 := pow_64 h66
  rw [vs, ← lst_ords _ _ (by omega) rfl, fil, lst, List.range_eq_range']
theorem vs_ord {μ : MS} (hW : mWF μ) : ∀ L ∈ vs μ, Ord μ L := by
  intro L hL
  have h66 := hW.1
  have h1 := thr_lt (mN μ) (by omega) (mG μ) hW.2.2.2.2.2.1
  have h2 := pow_64 h66
  rw [vs, ← lst_ords _ _ (by omega) rfl, List.mem_filter] at hL
  obtain ⟨q1, q2⟩ := lst_mem hL.1
  exact ord_of hW q1 q2 (of_decide_eq_true hL.2)
theorem vs_head {μ : MS} (hW : mWF μ) : ∃ r, vs μ = mNum μ :: r ∧ chain (mNum μ :: r) = true ∧ r.length + 1 ≤ 720 := by
  have h66 := hW.1
  have h1 := thr_lt (mN μ) (by omega) (mG μ) hW.2.2.2.2.2.1
  have h2 := pow_64 h66
  have h3 := ords_head (thr (mN μ) (mG μ)) (by omega)
  have h4 := ords_chain (thr (mN μ) (mG μ)) (by omega)
  have e : ords (pc6 (thr (mN μ) (mG μ))) (thr (mN μ) (mG μ)) = vs μ := rfl
  rw [e] at h3 h4
  rw [← mNum_tl hW] at h3
  cases hv : vs μ with
  | nil =>
    rw [hv] at h3
    cases h3.1
  | cons L r =>
    rw [hv] at h3 h4
    have e2 : L = mNum μ := Option.some.inj h3.1
    rw [e2] at h4
    exact ⟨r, by rw [e2], h4, h3.2⟩
section PHelp
variable {μ : MS}
/-- the reference grinds an order -/
theorem d_ground {I J : Nat → Nat → Int32} {L : List Nat} (hW : mWF μ) (hS : RS (I 68) μ) (hK : RK (I 65) μ) (hn : I 63 2 = nI (mN μ)) (hs : Stood I J L) (hL : Ord μ L) : ∃ K, x_D_grinds J (-1) = some (0, K) ∧ Day I K ∧ x_D_bran K = some (nI (brn μ 6 L (mS μ)), K) ∧ (∀ c, c < 6 → K 73 c = if c ∈ L ∧ c ≠ 6 then nI (fv μ 6 L (mS μ) c) else -1) ∧ K 72 = J 72 := by
  obtain ⟨s1, s2, s3, s4⟩ := hs
  have g := x_grinds (x1 := -1) (g := 6) (l := L) (I := J) hW (by rw [s1 68 (by decide) (by decide)]; exact hS) (by rw [s1 65 (by decide) (by decide)]; exact hK) s3 s4 hL.1 hL.2.2.1 hL.2.1 noBody
  have day : Day I (rg J (gr μ 6 L (mS μ)).2 (gf (gr μ 6 L (mS μ)).1 (noR (J 73))) (gm μ 6 L (J 74))) := ⟨fun a a1 a2 a3 a4 => by rw [rg_ne a1 a3 a4, s1 a a1 a2], fun j y1 y2 => by rw [rg_63 y2, s2 j y1]⟩
  have h73 : ∀ c, c < 6 → (rg J (gr μ 6 L (mS μ)).2 (gf (gr μ 6 L (mS μ)).1 (noR (J 73))) (gm μ 6 L (J 74))) 73 c = if c ∈ L ∧ c ≠ 6 then nI (fv μ 6 L (mS μ) c) else -1 := fun c hc => by
    rw [rg_73]
    exact dfines hc
  have h66 := hW.1
  exact ⟨_, g, day, x_dbran hW ((day.2 2 (by decide) (by decide)).trans hn) (fun c hc => h73 c (by omega)), h73, rg_ne (by decide) (by decide) (by decide)⟩
theorem Day.trans {I J K : Nat → Nat → Int32} (h : Day I J) (k : Day J K) : Day I K := ⟨fun a a1 a2 a3 a4 => (k.1 a a1 a2 a3 a4).trans (h.1 a a1 a2 a3 a4), fun j y1 y2 => (k.2 j y1 y2).trans (h.2 j y1 y2)⟩
theorem Stood.day {I J : Nat → Nat → Int32} {L : List Nat} (h : Stood I J L) : Day I J := ⟨fun a a1 a2 _ _ => h.1 a a1 a2, fun j y1 _ => h.2.1 j y1⟩
theorem Day.refl (I : Nat → Nat → Int32) : Day I I := ⟨fun _ _ _ _ _ => rfl, fun _ _ _ => rfl⟩
theorem six_le {n : Nat} (h : n ≤ 6) : 6 ^ n ≤ 46656 := Nat.pow_le_pow_right (n := 6) (by decide) h
theorem there_in {I : Nat → Nat → Int32} (hW : mWF μ) (hS : RS (I 68) μ) (hn : I 63 2 = nI (mN μ)) : f_D_there I = nI (thr (mN μ) (mG μ)) := by
  have h66 := hW.1
  rw [f_D_there, hn, hS.2.2.1, thr_in (mN μ) (by omega) (mG μ) hW.2.2.2.2.2.1]
theorem thr_64 (hW : mWF μ) : thr (mN μ) (mG μ) < 64 := by
  have h66 := hW.1
  have h1 := thr_lt (mN μ) (by omega) (mG μ) hW.2.2.2.2.2.1
  have h2 := pow_64 h66
  omega
def hstep (μ : MS) (B : Nat) (L : List Nat) : Nat := B &&& brn μ 6 L (mS μ)
theorem hstep_lt {B : Nat} {L : List Nat} (h : B < 64) : hstep μ B L < 64 := Nat.lt_of_le_of_lt Nat.and_le_left h
theorem hfold_0 : ∀ V : List (List Nat), V.foldl (hstep μ) 0 = 0
  | [] => rfl
  | L :: V => by
    rw [List.foldl_cons, hstep, Nat.zero_and]
    exact hfold_0 V
theorem l_dhelp (hW : mWF μ) {n : Nat} (hn : n = pc6 (thr (mN μ) (mG μ))) : ∀ (d x fuel : Nat) (I : Nat → Nat → Int32) (B : Nat), x + d = 6 ^ n → d < fuel → RS (I 68) μ → RK (I 65) μ → I 63 2 = nI (mN μ) → ∃ J, l_D_helpless_15 fuel I (nI n) (nI B) (nI x) = some (nI ((fil n (thr (mN μ) (mG μ)) x d).foldl (hstep μ) B), J) ∧ Day I J
  | 0, x, fuel + 1, I, B, hx, _, hS, hK, h2 => by
    have hn6 : n ≤ 6 := by rw [hn]; exact pc6_le _
    have h6 := six_le hn6
    refine ⟨I, ?_, Day.refl I⟩
    rw [l_D_helpless_15, x_codes hn6, Option.bind_some]
    dsimp only
    rw [if_pos ((nle (by omega) (by omega)).mpr (by omega))]
    rfl
  | d + 1, x, fuel + 1, I, B, hx, hf, hS, hK, h2 => by
    have hn6 : n ≤ 6 := by rw [hn]; exact pc6_le _
    have h6 := six_le hn6
    obtain ⟨J, j0, j1⟩ := x_orders (n := n) (x := x) (I := I) hn6 (by omega) (thr_64 hW) (there_in hW hS h2)
    have dJ := j1.day
    rw [l_D_helpless_15, x_codes hn6, Option.bind_some]
    dsimp only
    rw [if_neg (fun z => by have := (nle (by omega) (by omega)).mp z; omega), j0, Option.bind_some, fil_succ, show nI x + 1 = nI (x + 1) from nI_add x 1]
    dsimp only
    by_cases ho : ob (dg n x) = thr (mN μ) (mG μ)
    · obtain ⟨K, k0, k1, k2, k3, k4⟩ := d_ground hW hS hK h2 j1 (ord_of hW (by rw [dg_len, hn]) (dg_six n x) ho)
      obtain ⟨Z, z0, z1⟩ := l_dhelp hW hn d (x + 1) fuel K (hstep μ B (dg n x)) (by omega) (by omega) (by rw [k1.1 68 (by decide) (by decide) (by decide) (by decide)]; exact hS) (by rw [k1.1 65 (by decide) (by decide) (by decide) (by decide)]; exact hK) (by rw [k1.2 2 (by decide) (by decide)]; exact h2)
      rw [if_pos ho, if_pos ho, if_neg (by decide), k0, Option.bind_some]
      dsimp only
      rw [k2, Option.bind_some, fa_and]
      exact ⟨Z, z0, k1.trans z1⟩
    · obtain ⟨Z, z0, z1⟩ := l_dhelp hW hn d (x + 1) fuel J B (by omega) (by omega) (by rw [dJ.1 68 (by decide) (by decide) (by decide) (by decide)]; exact hS) (by rw [dJ.1 65 (by decide) (by decide) (by decide) (by decide)]; exact hK) (by rw [dJ.2 2 (by decide) (by decide)]; exact h2)
      rw [if_neg ho, if_neg ho, if_pos rfl]
      exact ⟨Z, z0, dJ.trans z1⟩
theorem l_chelp (hW : mWF μ) : ∀ (r : List (List Nat)) (L : List Nat) (tried fuel : Nat) (I : Nat → Nat → Int32) (B : Nat), chain (L :: r) = true → (∀ M ∈ L :: r, Ord μ M) → tried + (r.length + 1) ≤ 720 → r.length + 1 < fuel → RC I 4 5 6 7 μ → RA (I 13) 0 L → I 12 2 = nI L.length → I 12 3 = -1 → B < 64 → ∃ J, l_G_helpless_23 fuel I (nI B) 1 (nI tried) = some (nI ((L :: r).foldl (hstep μ) B), J) ∧ ∀ a, a ≠ 12 → a ≠ 13 → a ≠ 14 → J a = I a
  | r, L, tried, fuel + 1, I, B, hch, hO, ht, hf, hR, hr, hs, hg, hB => by
    have hL := hO L List.mem_cons_self
    have hne : ¬ (720 : Int32) ≤ nI tried := fun z => by have := (nle (a := 720) (by omega) (by omega)).mp z; omega
    rw [l_G_helpless_23, if_neg hne, if_neg (by decide)]
    by_cases b0 : B = 0
    · rw [b0, hfold_0, nI_0, if_pos rfl]
      exact ⟨I, rfl, fun _ _ _ _ => rfl⟩
    · rw [if_neg (show ¬ nI B = 0 from fun z => b0 ((neq (b := 0) (by omega) (by omega)).mp z))]
      have g := x_grind0 (s := mS μ) (g := 6) hR hW mo4 hr hs hL.1 hL.2.2.1 hW.2.2.2.2.2.2 (noGuest hg)
      have es : f_M_stoneNow 4 5 6 7 I = nI (mS μ) := hR.2.2.2.2.2.1
      rw [es, g, Option.bind_some]
      dsimp only
      have i13 : (rs I (gr μ 6 L (mS μ)).2 (gf (gr μ 6 L (mS μ)).1 (I 14))) 13 = I 13 := rs_ne (by decide) (by decide)
      have i122 : (rs I (gr μ 6 L (mS μ)).2 (gf (gr μ 6 L (mS μ)).1 (I 14))) 12 2 = I 12 2 := rs_12 (by decide)
      have i123 : (rs I (gr μ 6 L (mS μ)).2 (gf (gr μ 6 L (mS μ)).1 (I 14))) 12 3 = I 12 3 := rs_12 (by decide)
      have fr : ∀ a, a ≠ 12 → a ≠ 13 → a ≠ 14 → (rs I (gr μ 6 L (mS μ)).2 (gf (gr μ 6 L (mS μ)).1 (I 14))) a = I a := fun a a1 _ a3 => rs_ne a1 a3
      have hF : ∀ c, c ∈ L → c ≠ 6 → (rs I (gr μ 6 L (mS μ)).2 (gf (gr μ 6 L (mS μ)).1 (I 14))) 14 c = nI (fv μ 6 L (mS μ) c) := fun c h1 h2 => by
        rw [rs_F]
        exact fv_in μ h1 h2 _
      generalize hE : rs I (gr μ 6 L (mS μ)).2 (gf (gr μ 6 L (mS μ)).1 (I 14)) = E at i13 i122 i123 fr hF ⊢
      have hb := x_cbran (g := 6) (s := mS μ) (l := L) (I := E) hW (noGuest (i123.trans hg)) hF (by rw [i13]; exact hr) (i122.trans hs) hL.1 hL.2.2.1
      rw [hb, Option.bind_some]
      dsimp only
      have nx := x_next (I := E) (L := L) (by rw [i13]; exact hr) (i122.trans hs) hL.1 hL.2.2.2.1
      rw [fa_and, show nI tried + 1 = nI (tried + 1) from nI_add tried 1]
      cases r with
      | nil =>
        have e0 : nxL L = none := of_decide_eq_true hch
        rw [nx.1 e0, Option.bind_some]
        dsimp only
        obtain ⟨f, rfl⟩ : ∃ f, fuel = f + 1 := ⟨fuel - 1, by simp at hf; omega⟩
        refine ⟨E, ?_, fr⟩
        rw [l_G_helpless_23, if_pos rfl, ite_self]
        rfl
      | cons M r =>
        have hch2 : (decide (nxL L = some M) && chain (M :: r)) = true := hch
        rw [Bool.and_eq_true] at hch2
        obtain ⟨J, j0, j1, j2, j3⟩ := nx.2 M (of_decide_eq_true hch2.1)
        rw [j0, Option.bind_some]
        dsimp only
        have hl : (M :: r).length = r.length + 1 := rfl
        rw [hl] at ht hf
        obtain ⟨Z, z0, z1⟩ := l_chelp hW r M (tried + 1) fuel J (hstep μ B L) hch2.2 (fun X hX => hO X (List.mem_cons_of_mem _ hX)) (by omega) (by omega) ((hR.low mo4 (fun a ha => fr a (by omega) (by omega) (by omega))).low mo4 (fun a ha => j1 a (by omega))) j2 (by rw [j1 12 (by decide), i122, hs, j3]) (by rw [j1 12 (by decide), i123, hg]) (hstep_lt hB)
        exact ⟨Z, z0, fun a a1 a2 a3 => (z1 a a1 a2 a3).trans ((j1 a a2).trans (fr a a1 a2 a3))⟩
theorem op_helpless {I : Nat → Nat → Int32} (hI : IM I μ) (hW : mOK μ) : OQ (fun J => x_G_helpless J) (fun J => x_D_helpless J) I := by
  have h66 := hW.1.1
  obtain ⟨r, v1, v2, v3⟩ := vs_head hW.1
  have hT := thr_64 hW.1
  have hp6 := pc6_le (thr (mN μ) (mG μ))
  have h6 := six_le hp6
  obtain ⟨A, a0, a1, a2, a3, a4, a5⟩ := x_number hI.1 hW.1 mo4
  have hV : ∀ M ∈ mNum μ :: r, Ord μ M := by
    rw [← v1]
    exact vs_ord hW.1
  obtain ⟨J, j0, j1⟩ := l_chelp hW.1 r (mNum μ) 0 1000 A (thr (mN μ) (mG μ)) v2 hV (by omega) (by omega) (hI.1.low mo4 (fun a ha => a1 a (by omega) (by omega) (by omega))) a2 a3 a4 hT
  have fJ : ∀ a, a ≠ 12 → a ≠ 13 → a ≠ 14 → J a = I a := fun a y1 y2 y3 => (j1 a y1 y2 y3).trans (a1 a y1 y2 y3)
  have kJ := KP.round fJ
  have hJ := hI.keep kJ
  obtain ⟨K, k0, k1⟩ := l_dhelp hW.1 rfl (6 ^ pc6 (thr (mN μ) (mG μ))) 0 100000 J (thr (mN μ) (mG μ)) (by omega) (by omega) hJ.2.1 hJ.2.2.1 hJ.2.2.2
  rw [fil_vs hW.1, v1] at k0
  rw [nI_0] at j0 k0
  refine ⟨nI ((mNum μ :: r).foldl (hstep μ) (thr (mN μ) (mG μ))), J, K, ?_, ?_, kJ.trans k1.kp⟩
  · show x_G_helpless I = _
    rw [x_G_helpless, a0, Option.bind_some, f_M_presentBits, hI.1.1, hI.1.2.2.2.2.1, thr_in (mN μ) (by omega) (mG μ) hW.1.2.2.2.2.2.1]
    exact j0
  · show x_D_helpless J = _
    rw [x_D_helpless, there_in hW.1 hJ.2.1 hJ.2.2.2, x_ones hT, Option.bind_some]
    dsimp only
    rw [there_in hW.1 hJ.2.1 hJ.2.2.2]
    exact k0
end PHelp
