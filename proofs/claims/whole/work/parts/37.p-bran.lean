/-! THE PURE PART: who gets bran; count -/
/-- how fine i has it in a line; 9 for whom nothing is ground -/
def fv (μ : MS) (g : Nat) (l : List Nat) (s i : Nat) : Nat := (gf (gr μ g l s).1 (fun _ => nI 9) i).toNatClampNeg
theorem fv_in (μ : MS) {g i s : Nat} {l : List Nat} (h : i ∈ l) (hg : i ≠ g) (F : Nat → Int32) : gf (gr μ g l s).1 F i = nI (fv μ g l s i) := by
  obtain ⟨f, hf, h2⟩ := fine_in μ (s := s) h hg
  rw [fv, h2, h2, ncl (by omega)]
theorem fv_le (μ : MS) (g : Nat) (l : List Nat) (s i : Nat) : fv μ g l s i ≤ 9 := by
  unfold fv
  by_cases h : i ∈ l ∧ i ≠ g
  · obtain ⟨f, hf, h2⟩ := fine_in μ (s := s) h.1 h.2
    rw [h2, ncl (by omega)]
    exact hf
  · rw [fine_out μ h, ncl (by omega)]
    omega
theorem fv_out (μ : MS) {g i s : Nat} {l : List Nat} (h : ¬ (i ∈ l ∧ i ≠ g)) : fv μ g l s i = 9 := by
  unfold fv
  rw [fine_out μ h, ncl (by omega)]
def isBran (μ : MS) (g : Nat) (l : List Nat) (s i : Nat) : Bool := decide (fv μ g l s i < 2)
def brn (μ : MS) (g : Nat) (l : List Nat) (s : Nat) : Nat := bs (isBran μ g l s) (mN μ)
theorem brn_lt {μ : MS} (hW : mWF μ) (g : Nat) (l : List Nat) (s : Nat) : brn μ g l s < 64 := bs_lt _ _ 6 hW.1
theorem br_0 (f : Nat) : br f = 0 ↔ f < 2 := by
  unfold br
  split
  · split
    · split <;> constructor <;> intro h <;> omega
    · constructor <;> intro h <;> omega
  · constructor <;> intro h <;> omega
theorem l_cbran {μ : MS} {g s : Nat} {l : List Nat} {I : Nat → Nat → Int32} (hg : ∀ c, c < 6 → (nI c = I 12 3 ↔ c = g)) (hF : ∀ c, c ∈ l → c ≠ g → I 14 c = nI (fv μ g l s c)) : ∀ (r : List Nat) (q B fuel : Nat), RA (I 13) q r → I 12 2 = nI (q + r.length) → q + r.length ≤ 6 → (∀ w ∈ r, w < 6 ∧ w ∈ l) → B < 64 → r.length < fuel → ∃ B', l_R_branBits_4 fuel I (nI B) (nI q) = some (nI B', I) ∧ B' < 64 ∧ ∀ i, B'.testBit i = (B.testBit i || (decide (i ∈ r ∧ i ≠ g) && isBran μ g l s i))
  | [], q, B, fuel + 1, _, hs, h6, _, hB, _ => by
    refine ⟨B, ?_, hB, fun i => by simp⟩
    rw [l_R_branBits_4, hs, if_pos ((nle (by simp at h6 ⊢; omega) (by simp at h6 ⊢; omega)).mpr (by simp))]
  | c :: r, q, B, fuel + 1, hr, hs, h6, hm, hB, hf => by
    have hl : (c :: r).length = r.length + 1 := rfl
    rw [hl] at hs h6 hf
    have hc := hm c List.mem_cons_self
    have hv := fv_le μ g l s c
    have ih := fun B' => l_cbran hg hF r (q + 1) B' fuel hr.2 (by rw [hs]; congr 1; omega) (by omega) (fun w hw => hm w (List.mem_cons_of_mem _ hw))
    rw [l_R_branBits_4, hs, if_neg (fun z => by have := (nle (by omega) (by omega)).mp z; omega), whoIn_in (by omega) hr, show nI q + 1 = nI (q + 1) from nI_add q 1, fineOf_in hc.1, nsh1 c (by omega), fa_or]
    by_cases cg : c = g
    · rw [if_pos ((hg c hc.1).mpr cg)]
      obtain ⟨B', e, h1, h2⟩ := ih B hB (by omega)
      refine ⟨B', e, h1, fun i => ?_⟩
      rw [h2 i]
      congr 2
      rw [decide_eq_decide, List.mem_cons]
      constructor
      · intro z
        exact ⟨Or.inr z.1, z.2⟩
      · intro z
        rcases z.1 with y | y
        · exact absurd (y.trans cg) z.2
        · exact ⟨y, z.2⟩
    · rw [if_neg (fun z => cg ((hg c hc.1).mp z)), hF c hc.2 cg, bread_in hv]
      have k0 : (nI (br (fv μ g l s c)) = 0) ↔ fv μ g l s c < 2 := by
        rw [← br_0]
        exact neq (b := 0) (by have := br_le (fv μ g l s c); omega) (by omega)
      by_cases h : fv μ g l s c < 2
      · rw [if_pos (k0.mpr h)]
        obtain ⟨B', e, h1, h2⟩ := ih (B ||| 2 ^ c) (orlt hB hc.1) (by omega)
        refine ⟨B', e, h1, fun i => ?_⟩
        rw [h2 i, testOr]
        by_cases hi : i = c
        · rw [hi]
          simp [isBran, h, cg]
        · have hi2 : decide (c = i) = false := by simp; omega
          rw [hi2, Bool.or_false]
          congr 2
          rw [decide_eq_decide, List.mem_cons]
          constructor
          · intro z
            exact ⟨Or.inr z.1, z.2⟩
          · intro z
            exact ⟨z.1.resolve_left hi, z.2⟩
      · rw [if_neg (fun z => h (k0.mp z))]
        obtain ⟨B', e, h1, h2⟩ := ih B hB (by omega)
        refine ⟨B', e, h1, fun i => ?_⟩
        rw [h2 i]
        by_cases hi : i = c
        · rw [hi]
          simp [isBran, h]
        · congr 2
          rw [decide_eq_decide, List.mem_cons]
          constructor
          · intro z
            exact ⟨Or.inr z.1, z.2⟩
          · intro z
            exact ⟨z.1.resolve_left hi, z.2⟩
theorem x_cbran {μ : MS} {g s : Nat} {l : List Nat} {I : Nat → Nat → Int32} (hW : mWF μ) (hg : ∀ c, c < 6 → (nI c = I 12 3 ↔ c = g)) (hF : ∀ c, c ∈ l → c ≠ g → I 14 c = nI (fv μ g l s c)) (hr : RA (I 13) 0 l) (hs : I 12 2 = nI l.length) (h6 : l.length ≤ 6) (hm : ∀ w ∈ l, w < mN μ) : x_R_branBits I = some (nI (brn μ g l s), I) := by
  have h66 := hW.1
  obtain ⟨B', e, h1, h2⟩ := l_cbran hg hF l 0 0 1000 hr (by rw [Nat.zero_add]; exact hs) (by omega) (fun w hw => ⟨by have := hm w hw; omega, hw⟩) (by decide) (by omega)
  rw [nI_0] at e
  have eB : B' = brn μ g l s := by
    refine Nat.eq_of_testBit_eq fun i => ?_
    rw [h2 i, brn, bs_bit, Nat.zero_testBit, Bool.false_or]
    by_cases hi : i ∈ l ∧ i ≠ g
    · rw [decide_eq_true hi, decide_eq_true (hm i hi.1)]
    · have : isBran μ g l s i = false := by
        rw [isBran, fv_out μ hi]
        rfl
      rw [this, Bool.and_false, Bool.and_false]
  rw [x_R_branBits, e, eB]
theorem l_dbran {μ : MS} {g s : Nat} {l : List Nat} {I : Nat → Nat → Int32} (hW : mWF μ) (hn : I 63 2 = nI (mN μ)) (hF : ∀ c, c < mN μ → I 73 c = if c ∈ l ∧ c ≠ g then nI (fv μ g l s c) else -1) : ∀ (d i fuel : Nat), i + d = mN μ → d < fuel → l_D_bran_4 fuel I (nI (bs (isBran μ g l s) i)) (nI i) = some (nI (brn μ g l s), I)
  | 0, i, fuel + 1, hi, _ => by
    have h66 := hW.1
    rw [l_D_bran_4, hn, if_pos ((nle (by omega) (by omega)).mpr (by omega)), brn, show i = mN μ by omega]
  | d + 1, i, fuel + 1, hi, hf => by
    have h66 := hW.1
    have ih := l_dbran hW hn hF d (i + 1) fuel (by omega) (by omega)
    have hv := fv_le μ g l s i
    rw [bs] at ih
    rw [l_D_bran_4, hn, if_neg (fun z => by have := (nle (by omega) (by omega)).mp z; omega), if_pos (nzin (k := i) (N := 6) (by omega) (by decide)), if_pos (nzin (k := i) (N := 6) (by omega) (by decide)), ncl (by omega), hF i (by omega), show nI i + 1 = nI (i + 1) from nI_add i 1, nsh1 i (by omega), fa_or, show nI (bs (isBran μ g l s) i) ||| 0 = nI (bs (isBran μ g l s) i) from by rw [show (0 : Int32) = nI 0 from rfl, fa_or, Nat.or_zero]]
    by_cases h : i ∈ l ∧ i ≠ g
    · rw [if_pos h, if_neg (nneg (by omega))]
      have k2 : (2 : Int32) ≤ nI (fv μ g l s i) ↔ 2 ≤ fv μ g l s i := nle (a := 2) (by omega) (by omega)
      by_cases h2 : fv μ g l s i < 2
      · rw [if_neg (fun z => by have := k2.mp z; omega)]
        rw [if_pos (show isBran μ g l s i = true from decide_eq_true h2)] at ih
        exact ih
      · rw [if_pos (k2.mpr (by omega))]
        rw [if_neg (by rw [isBran, decide_eq_true_eq]; exact h2)] at ih
        exact ih
    · rw [if_neg h, if_pos (by decide)]
      have hb : isBran μ g l s i = false := by
        rw [isBran, fv_out μ h]
        rfl
      rw [if_neg (by rw [hb]; decide)] at ih
      exact ih
theorem x_dbran {μ : MS} {g s : Nat} {l : List Nat} {I : Nat → Nat → Int32} (hW : mWF μ) (hn : I 63 2 = nI (mN μ)) (hF : ∀ c, c < mN μ → I 73 c = if c ∈ l ∧ c ≠ g then nI (fv μ g l s c) else -1) : x_D_bran I = some (nI (brn μ g l s), I) := by
  have h66 := hW.1
  have h := l_dbran hW hn hF (mN μ) 0 1000 (by omega) (by omega)
  rw [nI_0] at h
  rw [x_D_bran]
  exact h
/-- the fines' row of the reference -/
theorem dfines {μ : MS} {g s c : Nat} {l : List Nat} {F : Nat → Int32} (hc : c < 6) : gf (gr μ g l s).1 (noR F) c = if c ∈ l ∧ c ≠ g then nI (fv μ g l s c) else -1 := by
  by_cases h : c ∈ l ∧ c ≠ g
  · rw [if_pos h, fv_in μ h.1 h.2]
  · rw [if_neg h, fine_out μ h, noR, if_pos hc]
theorem cfines {μ : MS} {g s c : Nat} {l : List Nat} {F : Nat → Int32} (hc : c < 6) : gf (gr μ g l s).1 (noF F) c = if c ∈ l ∧ c ≠ g then nI (fv μ g l s c) else -4 := by
  by_cases h : c ∈ l ∧ c ≠ g
  · rw [if_pos h, fv_in μ h.1 h.2]
  · rw [if_neg h, fine_out μ h, noF, if_pos hc]
/-- today's bran -/
def todayBran (μ : MS) : Nat := brn μ 6 (mPres μ) (mS μ)
theorem x_branToday {I : Nat → Nat → Int32} {μ : MS} (hR : RC I 4 5 6 7 μ) (hW : mWF μ) : ∃ J, x_G_branToday I = some (nI (pc6 (todayBran μ)), J) ∧ KP I J := by
  have h66 := hW.1
  obtain ⟨J, j0, j1, j2, j3, j4, j5, j6⟩ := x_pass hR hW mo4
  have hl := mPres_len hW
  have hb := x_cbran (g := 6) (s := mS μ) (l := mPres μ) (I := J) hW (noGuest j4) (fun c hc hg => by rw [j6]; exact fv_in μ hc hg _) j2 j3 (by omega) (fun w hw => (mPres_mem hW hw).1)
  refine ⟨J, ?_, KP.round j1⟩
  rw [x_G_branToday, j0, Option.bind_some, hb, Option.bind_some, x_bc, Option.bind_some, nbc_in _ (brn_lt hW _ _ _)]
  rfl
theorem op_count {I : Nat → Nat → Int32} {μ : MS} (hI : IM I μ) (hW : mOK μ) (z1 : I 16 2 = I 63 13) (z2 : I 19 1 = I 63 9) (z3 : I 53 1 = I 63 11) (z4 : I 1 2 = I 63 1) (w : Int32) : OQ (fun J => x_G_count J w) (fun J => x_D_count J w) I := by
  have h66 := hW.1.1
  have z : ¬ (1 : Int32) = 0 := by decide
  rcases two_out w (b := 8) (B := 8) (by omega) rfl with ⟨h3, h4⟩ | ⟨k, hk, e, h3, h4⟩
  · have ne : ∀ v : Int32, f_G_isOutside I v 8 = 0 → ¬ w = v := fun v hv y => by
      have := h3 I
      rw [y, hv] at this
      exact absurd this (by decide)
    refine OQ.same (v := -1) ?_ ?_
    · show x_G_count I w = _
      rw [x_G_count, h3, if_neg z]
    · show x_D_count I w = _
      rw [x_D_count, if_neg (ne 0 (by rw [f_G_isOutside]; decide)), if_neg (ne 1 (by rw [f_G_isOutside]; decide)), if_neg (ne 2 (by rw [f_G_isOutside]; decide)), if_neg (ne 3 (by rw [f_G_isOutside]; decide)), if_neg (ne 4 (by rw [f_G_isOutside]; decide)), if_neg (ne 5 (by rw [f_G_isOutside]; decide)), if_neg (ne 6 (by rw [f_G_isOutside]; decide)), if_neg (ne 7 (by rw [f_G_isOutside]; decide)), if_neg (ne 8 (by rw [f_G_isOutside]; decide))]
  · have hg := hW.1.2.2.2.2.2.1
    have g0 : (w = 0) ↔ k = 0 := by rw [e]; exact neq (b := 0) (by omega) (by omega)
    have g1 : (w = 1) ↔ k = 1 := by rw [e]; exact neq (b := 1) (by omega) (by omega)
    have g2 : (w = 2) ↔ k = 2 := by rw [e]; exact neq (b := 2) (by omega) (by omega)
    have g3 : (w = 3) ↔ k = 3 := by rw [e]; exact neq (b := 3) (by omega) (by omega)
    have g4 : (w = 4) ↔ k = 4 := by rw [e]; exact neq (b := 4) (by omega) (by omega)
    have g5 : (w = 5) ↔ k = 5 := by rw [e]; exact neq (b := 5) (by omega) (by omega)
    have g6 : (w = 6) ↔ k = 6 := by rw [e]; exact neq (b := 6) (by omega) (by omega)
    have g7 : (w = 7) ↔ k = 7 := by rw [e]; exact neq (b := 7) (by omega) (by omega)
    have g8 : (w = 8) ↔ k = 8 := by rw [e]; exact neq (b := 8) (by omega) (by omega)
    have G : x_G_count I w = if k = 0 then some (f_M_size 4 5 6 7 I, I) else if k = 1 then (x_N_bitCount I (f_M_goneBits 4 5 6 7 I)).bind (fun q1 => some (q1.1, q1.2)) else if k = 2 then some (f_M_stoneNow 4 5 6 7 I, I) else if k = 3 then some (f_M_daysGone 4 5 6 7 I, I) else if k = 4 then (x_G_branToday I).bind (fun q2 => some (q2.1, q2.2)) else if k = 5 then some (f_V_size I, I) else if k = 6 then some (f_H1_size I, I) else if k = 7 then some (f_H2_size I, I) else some (f_S_size I, I) := by
      rw [x_G_count, h3, if_pos rfl]
      simp only [g0, g1, g2, g3, g4, g5, g6, g7]
    have D : ∀ J, x_D_count J w = if k = 0 then some (J 63 2, J) else if k = 1 then (x_D_ones J (f_D_there J)).bind (fun q1 => some ((J 63 2) - q1.1, q1.2)) else if k = 2 then some (J 68 43, J) else if k = 3 then some (J 68 44, J) else if k = 4 then (x_D_today J).bind (fun q2 => (x_D_bran q2.2).bind (fun q3 => (x_D_ones q3.2 q3.1).bind (fun q4 => some (q4.1, q4.2)))) else if k = 5 then some (J 63 13, J) else if k = 6 then some (J 63 9, J) else if k = 7 then some (J 63 11, J) else if k = 8 then some (J 63 1, J) else some (-1, J) := by
      intro J
      rw [x_D_count]
      simp only [g0, g1, g2, g3, g4, g5, g6, g7, g8]
    by_cases k0 : k = 0
    · exact OQ.same (v := nI (mN μ)) (by show x_G_count I w = _; rw [G, if_pos k0, f_M_size, hI.1.1]) (by show x_D_count I w = _; rw [D, if_pos k0, hI.2.2.2])
    · rw [if_neg k0] at G
      by_cases k1 : k = 1
      · refine OQ.same (v := nI (pc6 (mG μ))) ?_ ?_
        · show x_G_count I w = _
          rw [G, if_pos k1, f_M_goneBits, hI.1.2.2.2.2.1, x_bc, Option.bind_some, nbc_in _ hW.1.g64]
        · show x_D_count I w = _
          have h1 := thr_lt (mN μ) (by omega) (mG μ) hg
          have h2 := thr_pc (mN μ) (by omega) (mG μ) hg
          have h3 := pow_64 h66
          rw [D, if_neg k0, if_pos k1, f_D_there, hI.2.2.2, hI.2.1.2.2.1, thr_in (mN μ) (by omega) (mG μ) hg, x_ones (by omega), Option.bind_some]
          dsimp only
          rw [pk_sub (by omega), show mN μ - pc6 (thr (mN μ) (mG μ)) = pc6 (mG μ) by omega]
      · rw [if_neg k1] at G
        by_cases k2 : k = 2
        · exact OQ.same (v := nI (mS μ)) (by show x_G_count I w = _; rw [G, if_pos k2, f_M_stoneNow, hI.1.2.2.2.2.2.1]) (by show x_D_count I w = _; rw [D, if_neg k0, if_neg k1, if_pos k2, hI.2.1.2.2.2.1])
        · rw [if_neg k2] at G
          by_cases k3 : k = 3
          · exact OQ.same (v := nI (mD μ)) (by show x_G_count I w = _; rw [G, if_pos k3, f_M_daysGone, hI.1.2.2.2.2.2.2]) (by show x_D_count I w = _; rw [D, if_neg k0, if_neg k1, if_neg k2, if_pos k3, hI.2.1.2.2.2.2])
          · rw [if_neg k3] at G
            by_cases k4 : k = 4
            · obtain ⟨J, j0, j1⟩ := x_branToday hI.1 hW.1
              have hJ := hI.keep j1
              obtain ⟨K, q0, q1, q2, q3, q4, q5, q6⟩ := x_today hW.1 hJ.2.1 hJ.2.2.1 hJ.2.2.2
              have hK := hJ.keep q1.kp
              have hb := x_dbran (g := 6) (s := mS μ) (l := mPres μ) (I := K) hW.1 hK.2.2.2 (fun c hc => by rw [q5]; exact dfines (by omega))
              refine ⟨nI (pc6 (todayBran μ)), J, K, ?_, ?_, j1.trans q1.kp⟩
              · show x_G_count I w = _
                rw [G, if_pos k4, j0, Option.bind_some]
              · show x_D_count J w = _
                rw [D, if_neg k0, if_neg k1, if_neg k2, if_neg k3, if_pos k4, q0, Option.bind_some]
                dsimp only
                rw [hb, Option.bind_some]
                dsimp only
                rw [x_ones (brn_lt hW.1 _ _ _), Option.bind_some]
                rfl
            · rw [if_neg k4] at G
              by_cases k5 : k = 5
              · exact OQ.same (v := I 16 2) (by show x_G_count I w = _; rw [G, if_pos k5, f_V_size]) (by show x_D_count I w = _; rw [D, if_neg k0, if_neg k1, if_neg k2, if_neg k3, if_neg k4, if_pos k5, z1])
              · rw [if_neg k5] at G
                by_cases k6 : k = 6
                · exact OQ.same (v := I 19 1) (by show x_G_count I w = _; rw [G, if_pos k6, f_H1_size]) (by show x_D_count I w = _; rw [D, if_neg k0, if_neg k1, if_neg k2, if_neg k3, if_neg k4, if_neg k5, if_pos k6, z2])
                · rw [if_neg k6] at G
                  by_cases k7 : k = 7
                  · exact OQ.same (v := I 53 1) (by show x_G_count I w = _; rw [G, if_pos k7, f_H2_size]) (by show x_D_count I w = _; rw [D, if_neg k0, if_neg k1, if_neg k2, if_neg k3, if_neg k4, if_neg k5, if_neg k6, if_pos k7, z3])
                  · rw [if_neg k7] at G
                    exact OQ.same (v := I 1 2) (by show x_G_count I w = _; rw [G, f_S_size]) (by show x_D_count I w = _; rw [D, if_neg k0, if_neg k1, if_neg k2, if_neg k3, if_neg k4, if_neg k5, if_neg k6, if_neg k7, if_pos (by omega : k = 8), z4])
