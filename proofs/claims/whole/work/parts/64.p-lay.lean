/-! THE PURE PART: fault, lay -/
theorem FrM.kp {I J : Nat → Nat → Int32} (h : FrM 8 9 10 11 I J) : KP I J := ⟨fun a a1 a2 a3 _ _ _ _ => h.1 a a1 a2 (by omega) (by omega) (by omega) (by omega), h.2 2 (by decide), fun j _ => by rw [h.1 63 (by decide) (by decide) (by decide) (by decide) (by decide) (by decide)]⟩
theorem FrD.kp {I J : Nat → Nat → Int32} (h : FrD I J) : KP I J := ⟨fun a _ _ _ a4 a5 a6 _ => h.1 a a4 a5 a6, by rw [h.1 1 (by decide) (by decide) (by decide)], fun j hj => h.2 j (by omega) (by omega)⟩
theorem IT.tc {I : Nat → Nat → Int32} {n : Nat} {tx : Nat → Nat} (h : IT I n tx) : TC I n tx := ⟨h.1, h.2.2.1, fun k hk => ⟨(h.2.2.2 k hk).1, (h.2.2.2 k hk).2.2⟩⟩
theorem IT.td {I : Nat → Nat → Int32} {n : Nat} {tx : Nat → Nat} (h : IT I n tx) : TD I n tx := ⟨h.2.1, h.2.2.1, fun k hk => (h.2.2.2 k hk).2⟩
theorem mdi8 : mDi 8 9 10 11 := by
  refine ⟨by decide, by decide⟩
theorem l_lays36 : ∀ (d i fuel : Nat) (I : Nat → Nat → Int32), i + d = 45 → d < fuel → l_D_lays_36 fuel I (nI i) = some (0, zui (zui (zui (cpR I 68 67 0 0 i 45) 63 9 0) 63 11 0) 63 13 0)
  | 0, i, fuel + 1, I, hi, _ => by
    rw [l_D_lays_36, if_pos (show (45 : Int32) ≤ nI i from (nle (a := 45) (by omega) (by omega)).mpr (by omega)), show i = 45 by omega, cpR_end]
  | d + 1, i, fuel + 1, I, hi, hf => by
    have ih := l_lays36 d (i + 1) fuel (zui I 68 (0 + i) (I 67 (0 + i))) (by omega) (by omega)
    rw [cpR_step I (by decide) (by omega), Nat.zero_add] at ih
    rw [l_D_lays_36, if_neg (show ¬ (45 : Int32) ≤ nI i from fun z => by have := (nle (a := 45) (by omega) (by omega)).mp z; omega), if_pos (nzin (k := i) (N := 45) (by omega) (by decide)), if_pos (nzin (k := i) (N := 45) (by omega) (by decide)), ncl (by omega), show nI i + 1 = nI (i + 1) from nI_add i 1]
    exact ih
theorem l_lays10 : ∀ (d i fuel : Nat) (I : Nat → Nat → Int32), i + d = 6 → d < fuel → l_D_lays_10 fuel I (nI i) = l_D_lays_36 1000 (cpR I 65 66 0 0 i 6) 0
  | 0, i, fuel + 1, I, hi, _ => by
    rw [l_D_lays_10, if_pos (show (6 : Int32) ≤ nI i from (nle (a := 6) (by omega) (by omega)).mpr (by omega)), show i = 6 by omega, cpR_end]
  | d + 1, i, fuel + 1, I, hi, hf => by
    have ih := l_lays10 d (i + 1) fuel (zui I 65 (0 + i) (I 66 (0 + i))) (by omega) (by omega)
    rw [cpR_step I (by decide) (by omega), Nat.zero_add] at ih
    rw [l_D_lays_10, if_neg (show ¬ (6 : Int32) ≤ nI i from fun z => by have := (nle (a := 6) (by omega) (by omega)).mp z; omega), if_pos (nzin (k := i) (N := 6) (by omega) (by decide)), if_pos (nzin (k := i) (N := 6) (by omega) (by decide)), ncl (by omega), show nI i + 1 = nI (i + 1) from nI_add i 1]
    exact ih
/-- the reference lays what was read -/
theorem x_lays {I : Nat → Nat → Int32} {δ : MS} (hD : DD I δ) (hw : dWF δ) : ∃ J, x_D_lays I = some (0, J) ∧ RS (J 68) δ ∧ RK (J 65) δ ∧ J 63 2 = nI (mN δ) ∧ J 63 9 = 0 ∧ J 63 11 = 0 ∧ J 63 13 = 0 ∧ (∀ a, a ≠ 63 → a ≠ 65 → a ≠ 68 → J a = I a) ∧ ∀ j, j ≠ 2 → j ≠ 9 → j ≠ 11 → j ≠ 13 → J 63 j = I 63 j := by
  have h6 := hw.1
  have h1 := l_lays10 6 0 1000 (zui I 63 2 (nI (mN δ))) (by omega) (by omega)
  have h2 := l_lays36 45 0 1000 (cpR (zui I 63 2 (nI (mN δ))) 65 66 0 0 0 6) (by omega) (by omega)
  rw [nI_0] at h1 h2
  rw [h2] at h1
  have e65 : ∀ a, a ≠ 63 → a ≠ 65 → (cpR (zui I 63 2 (nI (mN δ))) 65 66 0 0 0 6) a = I a := fun a a1 a2 => (cpR_ne _ a2).trans (zui_ne _ _ _ a1)
  have e66 : ∀ x, x < 6 → (cpR (zui I 63 2 (nI (mN δ))) 65 66 0 0 0 6) 65 x = I 66 x := fun x hx => by
    have := cpR_in (zui I 63 2 (nI (mN δ))) (t := 65) (f := 66) (toff := 0) (foff := 0) (n := 6) hx
    rw [Nat.zero_add] at this
    rw [this, zui_ne _ _ _ (by decide)]
  have e63 : (cpR (zui I 63 2 (nI (mN δ))) 65 66 0 0 0 6) 63 = upd (I 63) 2 (nI (mN δ)) := by rw [cpR_ne _ (by decide), zui_self]
  generalize hX : cpR (zui I 63 2 (nI (mN δ))) 65 66 0 0 0 6 = X at h1 e65 e66 e63
  have k68 : ∀ x, x < 45 → (zui (zui (zui (cpR X 68 67 0 0 0 45) 63 9 0) 63 11 0) 63 13 0) 68 x = I 67 x := fun x hx => by
    have := cpR_in X (t := 68) (f := 67) (toff := 0) (foff := 0) (n := 45) hx
    rw [Nat.zero_add] at this
    rw [zui_ne _ _ _ (by decide), zui_ne _ _ _ (by decide), zui_ne _ _ _ (by decide), this, e65 67 (by decide) (by decide)]
  have kne : ∀ a, a ≠ 63 → a ≠ 68 → (zui (zui (zui (cpR X 68 67 0 0 0 45) 63 9 0) 63 11 0) 63 13 0) a = X a := fun a a1 a2 => by
    rw [zui_ne _ _ _ a1, zui_ne _ _ _ a1, zui_ne _ _ _ a1, cpR_ne _ a2]
  have k63 : (zui (zui (zui (cpR X 68 67 0 0 0 45) 63 9 0) 63 11 0) 63 13 0) 63 = upd (upd (upd (upd (I 63) 2 (nI (mN δ))) 9 0) 11 0) 13 0 := by
    rw [zui_self, zui_self, zui_self, cpR_ne _ (by decide), e63]
  refine ⟨_, by rw [x_D_lays, hD.1]; exact h1, ⟨?_, ?_, ?_, ?_, ?_⟩, ?_, ?_, ?_, ?_, ?_, ?_, ?_⟩
  · intro p hp
    rw [k68 p (by omega), hw.2.2.1]
    exact hD.2.2.1 p (by omega)
  · intro i j hi hj
    rw [k68 _ (by omega)]
    exact hD.2.2.2.1 i j (by omega) (by omega)
  · rw [k68 42 (by decide)]
    exact hD.2.2.2.2.1
  · rw [k68 43 (by decide)]
    exact hD.2.2.2.2.2.1
  · rw [k68 44 (by decide), hw.2.2.2.2.2.2]
    exact hD.2.2.2.2.2.2
  · intro k hk
    rw [kne 65 (by decide) (by decide), e66 k (by omega)]
    exact hD.2.1 k hk
  · rw [k63, pk_un (by decide), pk_un (by decide), pk_un (by decide), pk_us]
  · rw [k63, pk_un (by decide), pk_un (by decide), pk_us]
  · rw [k63, pk_un (by decide), pk_us]
  · rw [k63, pk_us]
  · intro a a1 a2 a3
    rw [kne a a1 a3, e65 a a1 a2]
  · intro j j1 j2 j3 j4
    rw [k63, pk_un j4, pk_un j3, pk_un j2, pk_un j1]
section PLay
variable {I : Nat → Nat → Int32} {μ : MS} {r k : Nat} {pl : Nat → MS} {q : Nat} {kl : Nat → MS} {sl : List (Nat × Nat)} {n : Nat} {tx : Nat → Nat}
theorem op_fault (h : INV I μ r k pl q kl sl n tx) : OZ (fun J => x_G_fault J) (fun J => x_D_fault J) I r := by
  have hT : IT I n tx := h.2.2.2.2.2.2.2.2.2.2
  obtain ⟨J, j0, j1, j2⟩ := x_into mdi8 hT.tc
  have hJ := h.keep j1.kp
  have hTJ : IT J n tx := hJ.2.2.2.2.2.2.2.2.2.2
  obtain ⟨K, k0, k1, k2⟩ := x_reads hTJ.td
  refine ⟨ov (rall tx n 201 ds0 0).1, J, K, ?_, ?_, μ, k, pl, q, kl, sl, n, tx, hJ.keep k1.kp⟩
  · show x_G_fault I = _
    rw [x_G_fault, j0, Option.bind_some]
  · show x_D_fault J = _
    rw [x_D_fault, k0, Option.bind_some]
theorem op_lay (h : INV I μ r k pl q kl sl n tx) : OZ (fun J => x_G_lay J) (fun J => x_D_lay J) I r := by
  have hT : IT I n tx := h.2.2.2.2.2.2.2.2.2.2
  obtain ⟨J, j0, j1, j2⟩ := x_into mdi8 hT.tc
  have hJ := h.keep j1.kp
  have hTJ : IT J n tx := hJ.2.2.2.2.2.2.2.2.2.2
  have hwd := rall_wf (tx := tx) (n := n) 201 ds0 0 ds0_wf
  cases hr : (rall tx n 201 ds0 0).1 with
  | some p =>
    obtain ⟨K, k0, k1, k2⟩ := x_reads hTJ.td
    have hp : ¬ ov (some p) = -4 := by
      -- a fault lies in the text
      have hlt : ∀ (f : Nat) (δ : MS) (s p : Nat), (rall tx n f δ s).1 = some p → p < n := by
        intro f
        induction f with
        | zero => intro δ s p z; cases z
        | succ f ih =>
          intro δ s p z
          rw [rall] at z
          by_cases c : n ≤ s
          · rw [if_pos c] at z
            cases z
          · rw [if_neg c] at z
            cases e : itm tx n δ s with
            | none => rw [e] at z; cases z; omega
            | some w => rw [e] at z; exact ih _ _ _ z
      have h1 := hlt 201 ds0 0 p hr
      have h2 := hT.2.2.1
      intro z
      have h3 := nneg (a := p) (by omega)
      rw [show nI p = -4 from z] at h3
      exact h3 (by decide)
    rw [hr] at j0 k0
    refine ⟨-2, J, K, ?_, ?_, μ, k, pl, q, kl, sl, n, tx, hJ.keep k1.kp⟩
    · show x_G_lay I = _
      rw [x_G_lay, j0, Option.bind_some]
      dsimp only
      rw [if_neg hp]
    · show x_D_lay J = _
      rw [x_D_lay, k0, Option.bind_some]
      dsimp only
      rw [if_neg hp]
  | none =>
    have hDJ := j2 hr
    generalize hδ : (rall tx n 201 ds0 0).2 = δ at hDJ hwd
    have h6 := hwd.1
    by_cases h0 : mN δ = 0
    · obtain ⟨K, k0, k1, k2⟩ := x_reads hTJ.td
      have hDK := k2 hr
      rw [hδ] at hDK
      rw [hr] at j0 k0
      refine ⟨-2, J, K, ?_, ?_, μ, k, pl, q, kl, sl, n, tx, hJ.keep k1.kp⟩
      · show x_G_lay I = _
        rw [x_G_lay, j0, Option.bind_some]
        dsimp only
        rw [if_pos (show ov none = -4 from rfl), f_M_size, if_pos (show J 8 3 = 0 by rw [hDJ.1, h0]; rfl)]
      · show x_D_lay J = _
        rw [x_D_lay, k0, Option.bind_some]
        dsimp only
        rw [if_pos (show ov none = -4 from rfl), if_pos (show K 63 4 = 0 by rw [hDK.1, h0]; rfl)]
    · have hn0 : ¬ nI (mN δ) = 0 := fun y => h0 ((neq (b := 0) (by omega) (by omega)).mp y)
      have hok := hwd.ok (by omega)
      obtain ⟨c1, c2⟩ := copy_RC (m := 4) (mk := 5) (ml := 6) (mt := 7) (hDJ.rc hwd) h6 (by decide)
      have ec : x_M_copy 4 5 6 7 8 9 10 11 J = some (0, g_M_copy 4 5 6 7 8 9 10 11 J) := rfl
      generalize hG : g_M_copy 4 5 6 7 8 9 10 11 J = G at c1 c2 ec
      have fr : ∀ a, ¬ (4 ≤ a ∧ a ≤ 7) → a ≠ 16 → a ≠ 19 → a ≠ 53 → (zui (zui (zui G 16 2 0) 19 1 0) 53 1 0) a = J a := fun a a1 a2 a3 a4 => by rw [zui_ne _ _ _ a4, zui_ne _ _ _ a3, zui_ne _ _ _ a2, c2 a (by omega) (by omega) (by omega) (by omega)]
      have hR : RC (zui (zui (zui G 16 2 0) 19 1 0) 53 1 0) 4 5 6 7 δ := c1.congr (by rw [zui_ne _ _ _ (by decide), zui_ne _ _ _ (by decide), zui_ne _ _ _ (by decide)]) (by rw [zui_ne _ _ _ (by decide), zui_ne _ _ _ (by decide), zui_ne _ _ _ (by decide)]) (by rw [zui_ne _ _ _ (by decide), zui_ne _ _ _ (by decide), zui_ne _ _ _ (by decide)]) (by rw [zui_ne _ _ _ (by decide), zui_ne _ _ _ (by decide), zui_ne _ _ _ (by decide)])
      have s16 : (zui (zui (zui G 16 2 0) 19 1 0) 53 1 0) 16 2 = 0 := by rw [zui_ne _ _ _ (by decide), zui_ne _ _ _ (by decide), zui_self, pk_us]
      have s19 : (zui (zui (zui G 16 2 0) 19 1 0) 53 1 0) 19 1 = 0 := by rw [zui_ne _ _ _ (by decide), zui_self, pk_us]
      have s53 : (zui (zui (zui G 16 2 0) 19 1 0) 53 1 0) 53 1 = 0 := by rw [zui_self, pk_us]
      have cl : g_H2_clear (g_H1_clear (g_V_clear G)) = zui (zui (zui G 16 2 0) 19 1 0) 53 1 0 := rfl
      generalize hL : zui (zui (zui G 16 2 0) 19 1 0) 53 1 0 = L at fr hR s16 s19 s53 cl
      have hTL : TD L n tx := by
        have t := hTJ.td
        exact ⟨by rw [fr 63 (by decide) (by decide) (by decide) (by decide)]; exact t.1, t.2.1, by rw [fr 64 (by decide) (by decide) (by decide) (by decide)]; exact t.2.2⟩
      obtain ⟨K, k0, k1, k2⟩ := x_reads hTL
      have hDK := k2 hr
      rw [hδ] at hDK
      rw [hr] at j0 k0
      obtain ⟨M, m0, m1, m2, m3, m4, m5, m6, m7, m8⟩ := x_lays hDK hwd
      have lo : ∀ a, a < 63 → M a = L a := fun a ha => (m7 a (by omega) (by omega) (by omega)).trans (k1.1 a (by omega) (by omega) (by omega))
      have g1 : M 63 1 = nI n := by
        rw [m8 1 (by decide) (by decide) (by decide) (by decide), k1.2 1 (by decide) (by decide), fr 63 (by decide) (by decide) (by decide) (by decide)]
        exact hTJ.2.1
      refine ⟨nI (mN δ), L, M, ?_, ?_, δ, 0, pl, 0, kl, [], n, tx, hok, ⟨hR.congr (lo 4 (by decide)) (lo 5 (by decide)) (lo 6 (by decide)) (lo 7 (by decide)), m1, m2, m3⟩, ⟨hJ.2.2.1.1, by omega, by omega⟩, ⟨?_, fun j hj => absurd hj (Nat.not_lt_zero j)⟩, ⟨m4, fun j hj => absurd hj (Nat.not_lt_zero j)⟩, ⟨?_, fun j hj => absurd hj (Nat.not_lt_zero j)⟩, ⟨m5, fun j hj => absurd hj (Nat.not_lt_zero j)⟩, fun j hj => absurd hj (Nat.not_lt_zero j), fun j hj => absurd hj (Nat.not_lt_zero j), ⟨trivial, ?_, m6, by decide, fun p hp => by cases hp⟩, ?_, g1, hTJ.2.2.1, ?_⟩
      · show x_G_lay I = _
        rw [x_G_lay, j0, Option.bind_some]
        dsimp only
        rw [if_pos (show ov none = -4 from rfl), f_M_size, hDJ.1, if_neg hn0, ec, Option.bind_some]
        dsimp only
        rw [cl, f_M_size, hR.1]
      · show x_D_lay L = _
        rw [x_D_lay, k0, Option.bind_some]
        dsimp only
        rw [if_pos (show ov none = -4 from rfl), if_neg (show ¬ K 63 4 = 0 by rw [hDK.1]; exact hn0), m0, Option.bind_some]
        dsimp only
        rw [m3]
      · rw [lo 19 (by decide)]
        exact s19
      · rw [lo 53 (by decide)]
        exact s53
      · rw [lo 16 (by decide)]
        exact s16
      · rw [lo 1 (by decide), fr 1 (by decide) (by decide) (by decide) (by decide)]
        exact hTJ.1
      · intro x hx
        rw [lo 2 (by decide), fr 2 (by decide) (by decide) (by decide) (by decide), m7 64 (by decide) (by decide) (by decide), k1.1 64 (by decide) (by decide) (by decide), fr 64 (by decide) (by decide) (by decide) (by decide)]
        exact hTJ.2.2.2 x hx
end PLay
