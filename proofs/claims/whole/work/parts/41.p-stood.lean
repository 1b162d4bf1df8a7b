/-! THE PURE PART: one stands in the line without corn -/
theorem RA.app {F : Nat → Int32} {b : List Nat} : ∀ {a : List Nat} {p : Nat}, RA F p a → RA F (p + a.length) b → RA F p (a ++ b)
  | [], _, _, h => h
  | _ :: a, p, h, h2 => ⟨h.1, RA.app h.2 (by rw [List.length_cons, show p + (a.length + 1) = p + 1 + a.length by omega] at h2; exact h2)⟩
theorem l_squeeze {s : List Nat} {c a : Nat} (hs : s.length = a) : ∀ (k : Nat) (t1 t2 : List Nat) (fuel : Nat) (I : Nat → Nat → Int32), t1.length = k → k < fuel → RA (I 13) 0 (s ++ t1) → RA (I 13) (a + k + 1) t2 → a + k + t2.length ≤ 5 → ∃ J, l_R_squeezeIn_30 fuel I (nI c) (nI a) (nI (a + k)) = some (0, J) ∧ (∀ x, x ≠ 12 → x ≠ 13 → J x = I x) ∧ (∀ j, j ≠ 2 → j ≠ 3 → J 12 j = I 12 j) ∧ RA (J 13) 0 (s ++ c :: (t1 ++ t2)) ∧ J 12 2 = I 12 2 + 1 ∧ J 12 3 = nI c
  | 0, t1, t2, fuel + 1, I, ht, _, h1, h2, h5 => by
    have e : t1 = [] := List.length_eq_zero_iff.mp ht
    rw [e, List.append_nil] at h1
    refine ⟨zui (zui (zui I 13 a (nI c)) 12 2 (I 12 2 + 1)) 12 3 (nI c), ?_, ?_, ?_, ?_, ?_, ?_⟩
    · rw [l_R_squeezeIn_30, if_pos ((nle (by omega) (by omega)).mpr (by omega)), if_pos (nzin (k := a) (N := 6) (by omega) (by decide)), ncl (by omega)]
    · intro x x1 x2
      rw [zui_ne _ _ _ x1, zui_ne _ _ _ x1, zui_ne _ _ _ x2]
    · intro j j1 j2
      rw [zui_self, pk_un j2, zui_self, pk_un j1, zui_ne _ _ _ (by decide)]
    · rw [zui_ne _ _ _ (by decide), zui_ne _ _ _ (by decide), zui_self, e, List.nil_append]
      refine RA.app (RA.congr (fun k _ hk => pk_un (by omega)) h1) ?_
      rw [Nat.zero_add, hs]
      exact ⟨pk_us, RA.congr (fun k hk _ => pk_un (by omega)) h2⟩
    · rw [zui_self, pk_un (by decide), zui_self, pk_us]
    · rw [zui_self, pk_us]
  | k + 1, t1, t2, fuel + 1, I, ht, hf, h1, h2, h5 => by
    rcases List.eq_nil_or_concat t1 with e | ⟨t', w, e⟩
    · rw [e] at ht
      cases ht
    · rw [List.concat_eq_append] at e
      have ht' : t'.length = k := by rw [e] at ht; simpa using ht
      rw [e, ← List.append_assoc] at h1
      have hw : I 13 (a + k) = nI w := by
        have := (RA.right h1).1
        rw [List.length_append, hs, ht', Nat.zero_add] at this
        exact this
      obtain ⟨J, j0, j1, j2, j3, j4, j5⟩ := l_squeeze (c := c) hs k t' (w :: t2) fuel (zui I 13 (a + (k + 1)) (nI w)) ht' (by omega) (by
        rw [zui_self]
        exact RA.congr (fun x _ hx => pk_un (by simp at hx; omega)) (RA.left h1)) (by
        rw [zui_self]
        refine ⟨by rw [show a + k + 1 = a + (k + 1) by omega, pk_us], RA.congr (fun x hx _ => pk_un (by omega)) ?_⟩
        rw [show a + k + 1 + 1 = a + (k + 1) + 1 by omega]
        exact h2) (by simp; omega)
      refine ⟨J, ?_, fun x x1 x2 => (j1 x x1 x2).trans (zui_ne _ _ _ x2), fun j y1 y2 => (j2 j y1 y2).trans (by rw [zui_ne _ _ _ (by decide)]), ?_, ?_, j5⟩
      · rw [l_R_squeezeIn_30, if_neg (fun z => by have := (nle (by omega) (by omega)).mp z; omega), show nI (a + (k + 1)) - 1 = nI (a + k) from pk_sub (b := 1) (by omega), show nI (a + (k + 1)) + (-1) = nI (a + k) from pk_m1 (a + k), if_pos (nzin (k := a + k) (N := 6) (by omega) (by decide)), if_pos (nzin (k := a + (k + 1)) (N := 6) (by omega) (by decide)), ncl (by omega), ncl (by omega), hw]
        exact j0
      · rw [e, List.append_assoc]
        exact j3
      · rw [j4, zui_ne _ _ _ (by decide)]
theorem l_dshift {s : List Nat} {a : Nat} {x1 x2 x3 x4 : Int32} (hs : s.length = a) : ∀ (k : Nat) (t1 t2 : List Nat) (fuel : Nat) (I : Nat → Nat → Int32), t1.length = k → RA (I 72) 0 (s ++ t1) → RA (I 72) (a + k + 1) t2 → a + k + t2.length ≤ 5 → ∃ J, l_D_stood (fuel + k) 2 I x1 x2 x3 x4 (nI a) (nI (a + k)) = l_D_stood fuel 2 J x1 x2 x3 x4 (nI a) (nI a) ∧ (∀ x, x ≠ 72 → J x = I x) ∧ RA (J 72) 0 s ∧ RA (J 72) (a + 1) (t1 ++ t2)
  | 0, t1, t2, fuel, I, ht, h1, h2, h5 => by
    have e : t1 = [] := List.length_eq_zero_iff.mp ht
    rw [e, List.append_nil] at h1
    refine ⟨I, rfl, fun _ _ => rfl, h1, ?_⟩
    rw [e, List.nil_append]
    exact h2
  | k + 1, t1, t2, fuel, I, ht, h1, h2, h5 => by
    rcases List.eq_nil_or_concat t1 with e | ⟨t', w, e⟩
    · rw [e] at ht
      cases ht
    · rw [List.concat_eq_append] at e
      have ht' : t'.length = k := by rw [e] at ht; simpa using ht
      rw [e, ← List.append_assoc] at h1
      have hw : I 72 (a + k) = nI w := by
        have := (RA.right h1).1
        rw [List.length_append, hs, ht', Nat.zero_add] at this
        exact this
      obtain ⟨J, j0, j1, j2, j3⟩ := l_dshift (x1 := x1) (x2 := x2) (x3 := x3) (x4 := x4) hs k t' (w :: t2) fuel (zui I 72 (a + (k + 1)) (nI w)) ht' (by
        rw [zui_self]
        exact RA.congr (fun x _ hx => pk_un (by simp at hx; omega)) (RA.left h1)) (by
        rw [zui_self]
        refine ⟨by rw [show a + k + 1 = a + (k + 1) by omega, pk_us], RA.congr (fun x hx _ => pk_un (by omega)) ?_⟩
        rw [show a + k + 1 + 1 = a + (k + 1) + 1 by omega]
        exact h2) (by simp; omega)
      refine ⟨J, ?_, fun x hx => (j1 x hx).trans (zui_ne _ _ _ hx), j2, ?_⟩
      · rw [← Nat.add_assoc, l_D_stood, if_neg (by decide), if_neg (by decide), if_pos rfl, if_neg (fun z => by have := (nle (by omega) (by omega)).mp z; omega), show nI (a + (k + 1)) - 1 = nI (a + k) from pk_sub (b := 1) (by omega), show nI (a + (k + 1)) + (-1) = nI (a + k) from pk_m1 (a + k), if_pos (nzin (k := a + k) (N := 6) (by omega) (by decide)), if_pos (nzin (k := a + (k + 1)) (N := 6) (by omega) (by decide)), ncl (by omega), ncl (by omega), hw]
        exact j0
      · rw [e, List.append_assoc]
        exact j3
/-! how many there are -/
def ob : List Nat → Nat
  | [] => 0
  | c :: l => ob l ||| 2 ^ c
theorem ob_bit (i : Nat) : ∀ l, (ob l).testBit i = decide (i ∈ l)
  | [] => by simp [ob]
  | c :: l => by
    rw [ob, testOr, ob_bit i l]
    by_cases h : c = i
    · simp [h]
    · have h2 : ¬ i = c := fun z => h z.symm
      simp [h, h2]
theorem ob_lt : ∀ l, (∀ c ∈ l, c < 6) → ob l < 2 ^ 6
  | [], _ => by decide
  | c :: l, h => orlt (ob_lt l (fun x hx => h x (List.mem_cons_of_mem _ hx))) (h c List.mem_cons_self)
theorem pc_or : ∀ B, B < 64 → ∀ c, c < 6 → B.testBit c = false → pc6 (B ||| 2 ^ c) = pc6 B + 1 := by decide +kernel
theorem pc_pos : ∀ B, B < 64 → ∀ c, c < 6 → B.testBit c = true → 1 ≤ pc6 B := by decide +kernel
theorem ob_pc : ∀ l, (∀ c ∈ l, c < 6) → l.Nodup → pc6 (ob l) = l.length
  | [], _, _ => by decide
  | c :: l, h, hd => by
    have hd2 := List.nodup_cons.mp hd
    have h2 : ∀ x ∈ l, x < 6 := fun x hx => h x (List.mem_cons_of_mem _ hx)
    rw [ob, pc_or (ob l) (ob_lt l h2) c (h c List.mem_cons_self) (by rw [ob_bit, decide_eq_false hd2.1]), ob_pc l h2 hd2.2]
    rfl
theorem pres_count {μ : MS} (hW : mOK μ) : pc6 (thr (mN μ) (mG μ)) = (mPres μ).length := by
  have h66 := hW.1.1
  have hm : ∀ c ∈ mPres μ, c < 6 := fun c hc => by have := (mPres_mem hW.1 hc).1; omega
  rw [← ob_pc (mPres μ) hm (pres_nodup hW.1)]
  congr 1
  have h1 := thr_lt (mN μ) (by omega) (mG μ) hW.1.2.2.2.2.2.1
  have h2 := pow_64 h66
  refine Nat.eq_of_testBit_eq fun i => ?_
  by_cases hi : i < 6
  · rw [thr_bit (mN μ) (by omega) (mG μ) hW.1.2.2.2.2.2.1 i hi, ob_bit]
    by_cases hp : i ∈ mPres μ
    · have h3 := mPres_mem hW.1 hp
      rw [decide_eq_true hp, decide_eq_true h3.1, h3.2]
      rfl
    · rw [decide_eq_false hp]
      by_cases h4 : i < mN μ
      · have h5 : (mG μ).testBit i = true := by
          by_cases h6 : (mG μ).testBit i = true
          · exact h6
          · exact absurd (pres_in hW h4 (bitf h6)) hp
        rw [h5]
        simp
      · rw [decide_eq_false h4]
        rfl
  · have h6 : (2 : Nat) ^ 6 ≤ 2 ^ i := Nat.pow_le_pow_right (by decide) (by omega)
    rw [Nat.testBit_lt_two_pow (by omega), Nat.testBit_lt_two_pow (Nat.lt_of_lt_of_le (ob_lt _ hm) h6)]
