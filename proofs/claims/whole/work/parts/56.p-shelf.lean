/-! THE PURE PART: the shelves -/
theorem RS.congr45 {F G : Nat → Int32} {μ : MS} (h : RS F μ) (h6 : mN μ ≤ 6) (e : ∀ x, x < 45 → G x = F x) : RS G μ := by
  refine ⟨fun p hp => ?_, fun i j hi hj => ?_, ?_, ?_, ?_⟩
  · rw [e p (by omega)]
    exact h.1 p hp
  · rw [e _ (by omega)]
    exact h.2.1 i j hi hj
  · rw [e 42 (by decide)]
    exact h.2.2.1
  · rw [e 43 (by decide)]
    exact h.2.2.2.1
  · rw [e 44 (by decide)]
    exact h.2.2.2.2
theorem copy_RC {I : Nat → Nat → Int32} {m mk ml mt o ok ol ot : Nat} {μ : MS} (h : RC I o ok ol ot μ) (hN : mN μ ≤ 6) (hd : mk ≠ m ∧ ml ≠ m ∧ mt ≠ m ∧ mk ≠ ml ∧ mk ≠ mt ∧ ml ≠ mt) : RC (g_M_copy m mk ml mt o ok ol ot I) m mk ml mt μ ∧ ∀ a, a ≠ m → a ≠ mk → a ≠ ml → a ≠ mt → g_M_copy m mk ml mt o ok ol ot I a = I a := by
  obtain ⟨d1, d2, d3, d4, d5, d6⟩ := hd
  unfold g_M_copy
  refine ⟨⟨?_, ?_, ?_, ?_, ?_, ?_, ?_⟩, ?_⟩
  · rw [zui_self, pk_un (by decide), zui_self, pk_un (by decide), zui_self, pk_un (by decide), zui_self, pk_us]
    exact h.1
  · intro k hk
    rw [zui_ne _ _ _ d1, zui_ne _ _ _ d1, zui_ne _ _ _ d1, zui_ne _ _ _ d1, zrow_ne _ _ d5, zrow_ne _ _ d4, zrow_self, pk_cpy_in (by omega) (by omega)]
    rw [Nat.zero_add, Nat.sub_zero]
    exact h.2.1 k hk
  · intro k hk
    rw [zui_ne _ _ _ d2, zui_ne _ _ _ d2, zui_ne _ _ _ d2, zui_ne _ _ _ d2, zrow_ne _ _ d6, zrow_self, pk_cpy_in (by omega) (by omega)]
    rw [Nat.zero_add, Nat.sub_zero]
    exact h.2.2.1 k hk
  · intro i j hi hj
    rw [zui_ne _ _ _ d3, zui_ne _ _ _ d3, zui_ne _ _ _ d3, zui_ne _ _ _ d3, zrow_self, pk_cpy_in (by omega) (by omega)]
    rw [Nat.zero_add, Nat.sub_zero]
    exact h.2.2.2.1 i j hi hj
  · rw [zui_self, pk_un (by decide), zui_self, pk_un (by decide), zui_self, pk_us]
    exact h.2.2.2.2.1
  · rw [zui_self, pk_un (by decide), zui_self, pk_us]
    exact h.2.2.2.2.2.1
  · rw [zui_self, pk_us]
    exact h.2.2.2.2.2.2
  · intro a a1 a2 a3 a4
    rw [zui_ne _ _ _ a1, zui_ne _ _ _ a1, zui_ne _ _ _ a1, zui_ne _ _ _ a1, zrow_ne _ _ a4, zrow_ne _ _ a3, zrow_ne _ _ a2]
/-- a piece of a row is copied from another row -/
def cpR (I : Nat → Nat → Int32) (t f toff foff i n : Nat) : Nat → Nat → Int32 := zrow I t (fun j => if toff + i ≤ j ∧ j < toff + n then I f (j - toff + foff) else I t j)
theorem cpR_end (I : Nat → Nat → Int32) (t f toff foff n : Nat) : cpR I t f toff foff n n = I := by
  have e : (fun j => if toff + n ≤ j ∧ j < toff + n then I f (j - toff + foff) else I t j) = I t := funext fun j => if_neg (by omega)
  rw [cpR, e]
  funext x
  by_cases h : x = t
  · rw [h, zrow_self]
  · rw [zrow_ne _ _ h]
theorem cpR_step (I : Nat → Nat → Int32) {t f toff foff i n : Nat} (h : f ≠ t) (hi : i < n) : cpR (zui I t (toff + i) (I f (foff + i))) t f toff foff (i + 1) n = cpR I t f toff foff i n := by
  unfold cpR
  rw [zrow_zui]
  congr 1
  funext j
  rw [zui_ne _ _ _ h, zui_self]
  by_cases hj : j = toff + i
  · rw [if_neg (by omega), if_pos (by omega), hj, pk_us, show toff + i - toff + foff = foff + i by omega]
  · rw [pk_un hj]
    by_cases h2 : toff + i ≤ j ∧ j < toff + n
    · rw [if_pos h2, if_pos (by omega)]
    · rw [if_neg h2, if_neg (by omega)]
theorem cpR_ne (I : Nat → Nat → Int32) {t f toff foff i n a : Nat} (h : a ≠ t) : cpR I t f toff foff i n a = I a := zrow_ne _ _ h
theorem cpR_in (I : Nat → Nat → Int32) {t f toff foff n x : Nat} (h : x < n) : cpR I t f toff foff 0 n t (toff + x) = I f (foff + x) := by
  rw [cpR, zrow_self]
  show (if toff + 0 ≤ toff + x ∧ toff + x < toff + n then I f (toff + x - toff + foff) else I t (toff + x)) = _
  rw [if_pos (by omega), show toff + x - toff + foff = foff + x by omega]
theorem cpR_out (I : Nat → Nat → Int32) {t f toff foff n j : Nat} (h : j < toff ∨ toff + n ≤ j) : cpR I t f toff foff 0 n t j = I t j := by
  rw [cpR, zrow_self]
  exact if_neg (by omega)
/-- the reference's past moves down -/
def shR (I : Nat → Nat → Int32) (i : Nat) : Nat → Nat → Int32 := zrow I 69 (fun j => if i ≤ j ∧ j < 315 then I 69 (j + 45) else I 69 j)
theorem shR_end (I : Nat → Nat → Int32) : shR I 315 = I := by
  have e : (fun j => if 315 ≤ j ∧ j < 315 then I 69 (j + 45) else I 69 j) = I 69 := funext fun j => if_neg (by omega)
  rw [shR, e]
  funext x
  by_cases h : x = 69
  · rw [h, zrow_self]
  · rw [zrow_ne _ _ h]
theorem shR_step (I : Nat → Nat → Int32) {i : Nat} (hi : i < 315) : shR (zui I 69 i (I 69 (i + 45))) (i + 1) = shR I i := by
  unfold shR
  rw [zrow_zui]
  congr 1
  funext j
  rw [zui_self]
  by_cases hj : j = i
  · rw [if_neg (by omega), if_pos (by omega), hj, pk_us]
  · rw [pk_un hj]
    by_cases h2 : i ≤ j ∧ j < 315
    · rw [if_pos h2, if_pos (by omega), pk_un (by omega)]
    · rw [if_neg h2, if_neg (by omega)]
theorem shR_in (I : Nat → Nat → Int32) {j : Nat} (h : j < 315) : shR I 0 69 j = I 69 (j + 45) := by
  rw [shR, zrow_self]
  exact if_pos ⟨Nat.zero_le j, h⟩
theorem shR_ne (I : Nat → Nat → Int32) {i a : Nat} (h : a ≠ 69) : shR I i a = I a := zrow_ne _ _ h
theorem l_keeps51 {k : Nat} (hk : k < 8) : ∀ (d i fuel : Nat) (I : Nat → Nat → Int32), i + d = 45 → d < fuel → I 63 9 = nI k → l_D_keeps_51 fuel I (nI i) = some (0, zui (cpR I 69 68 (45 * k) 0 i 45) 63 9 (nI (k + 1)))
  | 0, i, fuel + 1, I, hi, _, h9 => by
    rw [l_D_keeps_51, if_pos (show (45 : Int32) ≤ nI i from (nle (a := 45) (by omega) (by omega)).mpr (by omega)), show i = 45 by omega, cpR_end, h9, show nI k + 1 = nI (k + 1) from nI_add k 1]
  | d + 1, i, fuel + 1, I, hi, hf, h9 => by
    have e : 45 * I 63 9 + nI i = nI (45 * k + i) := by rw [h9, show (45 : Int32) = nI 45 from rfl, pk_mul, nI_add]
    have ih := l_keeps51 hk d (i + 1) fuel (zui I 69 (45 * k + i) (I 68 (0 + i))) (by omega) (by omega) (by rw [zui_ne _ _ _ (by decide)]; exact h9)
    rw [cpR_step I (by decide) (by omega), Nat.zero_add] at ih
    rw [l_D_keeps_51, if_neg (show ¬ (45 : Int32) ≤ nI i from fun z => by have := (nle (a := 45) (by omega) (by omega)).mp z; omega), if_pos (nzin (k := i) (N := 45) (by omega) (by decide)), e, if_pos (nzin (k := 45 * k + i) (N := 360) (by omega) (by decide)), ncl (by omega), ncl (by omega), show nI i + 1 = nI (i + 1) from nI_add i 1]
    exact ih
theorem l_keeps11 : ∀ (d i fuel : Nat) (I : Nat → Nat → Int32), i + d = 315 → d < fuel → I 63 9 = nI 8 → l_D_keeps_11 fuel I (nI i) = some (0, zui (cpR (zui (shR I i) 63 9 (nI 7)) 69 68 (45 * 7) 0 0 45) 63 9 (nI 8))
  | 0, i, fuel + 1, I, hi, _, h9 => by
    have h := l_keeps51 (k := 7) (by decide) 45 0 1000 (zui I 63 9 (nI 7)) (by omega) (by omega) (by rw [zui_self, pk_us])
    rw [nI_0] at h
    rw [l_D_keeps_11, if_pos (show (315 : Int32) ≤ nI i from (nle (a := 315) (by omega) (by omega)).mpr (by omega)), h9, show i = 315 by omega, shR_end, show nI 8 - 1 = nI 7 from rfl, h]
  | d + 1, i, fuel + 1, I, hi, hf, h9 => by
    have e : nI i + 45 = nI (i + 45) := nI_add i 45
    have ih := l_keeps11 d (i + 1) fuel (zui I 69 i (I 69 (i + 45))) (by omega) (by omega) (by rw [zui_ne _ _ _ (by decide)]; exact h9)
    rw [shR_step I (by omega)] at ih
    rw [l_D_keeps_11, if_neg (show ¬ (315 : Int32) ≤ nI i from fun z => by have := (nle (a := 315) (by omega) (by omega)).mp z; omega), e, if_pos (nzin (k := i + 45) (N := 360) (by omega) (by decide)), if_pos (nzin (k := i) (N := 360) (by omega) (by decide)), ncl (by omega), ncl (by omega), show nI i + 1 = nI (i + 1) from nI_add i 1]
    exact ih
/-- what was, the oldest first -/
def IPc (I : Nat → Nat → Int32) (r k : Nat) (pl : Nat → MS) : Prop := I 19 1 = nI k ∧ ∀ j, j < k → RC I (zslot r j) (zslot r j + 1) (zslot r j + 2) (zslot r j + 3) (pl j)
def IPd (I : Nat → Nat → Int32) (k : Nat) (pl : Nat → MS) : Prop := I 63 9 = nI k ∧ ∀ j, j < k → RS (fun x => I 69 (45 * j + x)) (pl j)
def nk (k : Nat) : Nat := if k = 8 then 8 else k + 1
def npl (k : Nat) (pl : Nat → MS) (μ : MS) : Nat → MS := fun j => if k = 8 then (if j = 7 then μ else pl (j + 1)) else if j = k then μ else pl j
theorem nk_le {k : Nat} (h : k ≤ 8) : nk k ≤ 8 := by
  unfold nk
  split <;> omega
theorem zslot_lt (r k : Nat) : 21 ≤ zslot r k ∧ zslot r k ≤ 49 := by
  unfold zslot
  omega
theorem put_c {I : Nat → Nat → Int32} {r k : Nat} {pl : Nat → MS} {μ : MS} (hR : RC I 4 5 6 7 μ) (hN : mN μ ≤ 6) (hr : r < 8) (hk : k ≤ 8) (h : IPc I r k pl) : IPc (zput19 r k I) (zrotn r k) (nk k) (npl k pl μ) ∧ ∀ a, ¬ (19 ≤ a ∧ a ≤ 52) → zput19 r k I a = I a := by
  by_cases h8 : k = 8
  · have e : zput19 r k I = zui (g_M_copy (zslot ((r + 1) % 8) 7) (zslot ((r + 1) % 8) 7 + 1) (zslot ((r + 1) % 8) 7 + 2) (zslot ((r + 1) % 8) 7 + 3) 4 5 6 7 (zui I 19 1 7)) 19 1 (nI 8) := by rw [zput19, if_pos h8, zput]
    have er : zrotn r k = (r + 1) % 8 := by rw [zrotn, if_pos h8]
    have ek : nk k = 8 := by rw [nk, if_pos h8]
    have hb := zslot_lt ((r + 1) % 8) 7
    have hR2 : RC (zui I 19 1 7) 4 5 6 7 μ := hR.congr (zui_ne _ _ _ (by decide)) (zui_ne _ _ _ (by decide)) (zui_ne _ _ _ (by decide)) (zui_ne _ _ _ (by decide))
    obtain ⟨c1, c2⟩ := copy_RC (m := zslot ((r + 1) % 8) 7) (mk := zslot ((r + 1) % 8) 7 + 1) (ml := zslot ((r + 1) % 8) 7 + 2) (mt := zslot ((r + 1) % 8) 7 + 3) hR2 hN (by omega)
    generalize hG : g_M_copy (zslot ((r + 1) % 8) 7) (zslot ((r + 1) % 8) 7 + 1) (zslot ((r + 1) % 8) 7 + 2) (zslot ((r + 1) % 8) 7 + 3) 4 5 6 7 (zui I 19 1 7) = G at e c1 c2
    have fr : ∀ a, a ≠ 19 → ¬ (zslot ((r + 1) % 8) 7 ≤ a ∧ a ≤ zslot ((r + 1) % 8) 7 + 3) → zput19 r k I a = I a := fun a a1 a2 => by
      rw [e, zui_ne _ _ _ a1, c2 a (by omega) (by omega) (by omega) (by omega), zui_ne _ _ _ a1]
    refine ⟨⟨?_, ?_⟩, fun a ha => fr a (by omega) (by omega)⟩
    · rw [e, zui_self, pk_us, ek]
    · intro j hj
      rw [ek] at hj
      rw [er]
      by_cases h7 : j = 7
      · have ep : npl k pl μ j = μ := by rw [npl, if_pos h8, if_pos h7]
        rw [ep, h7, e]
        exact c1.congr (zui_ne _ _ _ (by omega)) (zui_ne _ _ _ (by omega)) (zui_ne _ _ _ (by omega)) (zui_ne _ _ _ (by omega))
      · have ep : npl k pl μ j = pl (j + 1) := by rw [npl, if_pos h8, if_neg h7]
        have es : zslot ((r + 1) % 8) j = zslot r (j + 1) := by
          unfold zslot
          omega
        have hb2 := zslot_lt r (j + 1)
        have hne : zslot r (j + 1) + 4 ≤ zslot ((r + 1) % 8) 7 ∨ zslot ((r + 1) % 8) 7 + 4 ≤ zslot r (j + 1) := by
          unfold zslot
          omega
        rw [ep, es]
        exact (h.2 (j + 1) (by omega)).congr (fr _ (by omega) (by omega)) (fr _ (by omega) (by omega)) (fr _ (by omega) (by omega)) (fr _ (by omega) (by omega))
  · have e : zput19 r k I = zui (g_M_copy (zslot r k) (zslot r k + 1) (zslot r k + 2) (zslot r k + 3) 4 5 6 7 I) 19 1 (nI (k + 1)) := by rw [zput19, if_neg h8, zput]
    have er : zrotn r k = r := by rw [zrotn, if_neg h8]
    have ek : nk k = k + 1 := by rw [nk, if_neg h8]
    have hb := zslot_lt r k
    obtain ⟨c1, c2⟩ := copy_RC (m := zslot r k) (mk := zslot r k + 1) (ml := zslot r k + 2) (mt := zslot r k + 3) hR hN (by omega)
    generalize hG : g_M_copy (zslot r k) (zslot r k + 1) (zslot r k + 2) (zslot r k + 3) 4 5 6 7 I = G at e c1 c2
    have fr : ∀ a, a ≠ 19 → ¬ (zslot r k ≤ a ∧ a ≤ zslot r k + 3) → zput19 r k I a = I a := fun a a1 a2 => by
      rw [e, zui_ne _ _ _ a1, c2 a (by omega) (by omega) (by omega) (by omega)]
    refine ⟨⟨?_, ?_⟩, fun a ha => fr a (by omega) (by omega)⟩
    · rw [e, zui_self, pk_us, ek]
    · intro j hj
      rw [ek] at hj
      rw [er]
      by_cases h7 : j = k
      · have ep : npl k pl μ j = μ := by rw [npl, if_neg h8, if_pos h7]
        rw [ep, h7, e]
        exact c1.congr (zui_ne _ _ _ (by omega)) (zui_ne _ _ _ (by omega)) (zui_ne _ _ _ (by omega)) (zui_ne _ _ _ (by omega))
      · have ep : npl k pl μ j = pl j := by rw [npl, if_neg h8, if_neg h7]
        have hb2 := zslot_lt r j
        have hne : zslot r j + 4 ≤ zslot r k ∨ zslot r k + 4 ≤ zslot r j := by
          unfold zslot
          omega
        rw [ep]
        exact (h.2 j (by omega)).congr (fr _ (by omega) (by omega)) (fr _ (by omega) (by omega)) (fr _ (by omega) (by omega)) (fr _ (by omega) (by omega))
theorem put_d {I : Nat → Nat → Int32} {k : Nat} {pl : Nat → MS} {μ : MS} (hS : RS (I 68) μ) (hN : mN μ ≤ 6) (hk : k ≤ 8) (h : IPd I k pl) (hp : ∀ j, j < k → mN (pl j) ≤ 6) : ∃ K, x_D_keeps I = some (0, K) ∧ IPd K (nk k) (npl k pl μ) ∧ (∀ a, a ≠ 63 → a ≠ 69 → K a = I a) ∧ ∀ j, j ≠ 9 → K 63 j = I 63 j := by
  by_cases h8 : k = 8
  · have h9 : I 63 9 = nI 8 := by rw [h.1, h8]
    have l := l_keeps11 315 0 1000 I (by omega) (by omega) h9
    rw [nI_0] at l
    have ek : nk k = 8 := by rw [nk, if_pos h8]
    have s68 : (zui (shR I 0) 63 9 (nI 7)) 68 = I 68 := by rw [zui_ne _ _ _ (by decide), shR_ne I (by decide)]
    refine ⟨zui (cpR (zui (shR I 0) 63 9 (nI 7)) 69 68 (45 * 7) 0 0 45) 63 9 (nI 8), ?_, ⟨?_, ?_⟩, ?_, ?_⟩
    · rw [x_D_keeps, if_pos (show I 63 9 = 8 from h9), l]
    · rw [zui_self, pk_us, ek]
    · intro j hj
      rw [ek] at hj
      rw [zui_ne _ _ _ (by decide)]
      by_cases h7 : j = 7
      · have ep : npl k pl μ j = μ := by rw [npl, if_pos h8, if_pos h7]
        rw [ep, h7]
        refine hS.congr45 hN (fun x hx => ?_)
        show cpR _ 69 68 (45 * 7) 0 0 45 69 (45 * 7 + x) = _
        rw [cpR_in _ hx, s68, Nat.zero_add]
      · have ep : npl k pl μ j = pl (j + 1) := by rw [npl, if_pos h8, if_neg h7]
        rw [ep]
        refine (h.2 (j + 1) (by omega)).congr45 (hp (j + 1) (by omega)) (fun x hx => ?_)
        show cpR _ 69 68 (45 * 7) 0 0 45 69 (45 * j + x) = I 69 (45 * (j + 1) + x)
        rw [cpR_out _ (by omega), zui_ne _ _ _ (by decide), shR_in I (by omega), show 45 * j + x + 45 = 45 * (j + 1) + x by omega]
    · intro a a1 a2
      rw [zui_ne _ _ _ a1, cpR_ne _ a2, zui_ne _ _ _ a1, shR_ne I a2]
    · intro j hj
      rw [zui_self, pk_un hj, cpR_ne _ (by decide), zui_self, pk_un hj, shR_ne I (by decide)]
  · have l := l_keeps51 (k := k) (by omega) 45 0 1000 I (by omega) (by omega) h.1
    rw [nI_0] at l
    have ek : nk k = k + 1 := by rw [nk, if_neg h8]
    have n8 : ¬ I 63 9 = 8 := by
      rw [h.1]
      exact fun z => h8 ((neq (b := 8) (by omega) (by omega)).mp z)
    refine ⟨_, by rw [x_D_keeps, if_neg n8, l], ⟨?_, ?_⟩, ?_, ?_⟩
    · rw [zui_self, pk_us, ek]
    · intro j hj
      rw [ek] at hj
      rw [zui_ne _ _ _ (by decide)]
      by_cases h7 : j = k
      · have ep : npl k pl μ j = μ := by rw [npl, if_neg h8, if_pos h7]
        rw [ep, h7]
        refine hS.congr45 hN (fun x hx => ?_)
        show cpR _ 69 68 (45 * k) 0 0 45 69 (45 * k + x) = _
        rw [cpR_in _ hx, Nat.zero_add]
      · have ep : npl k pl μ j = pl j := by rw [npl, if_neg h8, if_neg h7]
        rw [ep]
        refine (h.2 j (by omega)).congr45 (hp j (by omega)) (fun x hx => ?_)
        show cpR _ 69 68 (45 * k) 0 0 45 69 (45 * j + x) = I 69 (45 * j + x)
        rw [cpR_out _ (by omega)]
    · intro a a1 a2
      rw [zui_ne _ _ _ a1, cpR_ne _ a2]
    · intro j hj
      rw [zui_self, pk_un hj, cpR_ne _ (by decide)]
