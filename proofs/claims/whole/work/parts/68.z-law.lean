/-! THE LAW: from its entry to its end -/
theorem lchk_at {o : Option ZS} (q : lchk o = true) : ∃ h, o = some (18, [some (.retAddr 2), some (.ref 0), some (.ref 63), some (.int 0)], [], h) ∧ ctst h = true := by
  unfold lchk at q
  split at q
  · next pc a b v h =>
    simp only [Bool.and_eq_true] at q
    obtain ⟨⟨⟨⟨q1, q2⟩, q3⟩, q4⟩, q5⟩ := q
    have e1 := zbeq q1
    have e2 := zbeq q2
    have e3 := zbeq q3
    have e4 : v = 0 := of_decide_eq_true q4
    subst e1 e2 e3 e4
    exact ⟨h, rfl, q5⟩
  · cases q
theorem zPC_big {o : Nat} (h : 2432 ≤ o) : zPC o = none := by
  have h1 : ∀ k, k < 2432 → Nat.ble o k = false := fun k hk => Bool.eq_false_iff.mpr (fun q => by have := zble q; omega)
  have h2 : ∀ k, k < 2432 → Nat.beq o k = false := fun k hk => Bool.eq_false_iff.mpr (fun q => by have := zbeq q; omega)
  unfold zPC
  simp (discharger := decide) only [h1, h2, cond_false]
theorem zPP_low : ∀ a, a < 76 → ∀ j, j < 32 → (zS a).2 ≤ j → zPP (zPr 0) a j = none := by decide +kernel
theorem zPP_out {a j : Nat} (ha : a < 76) (hj : (zS a).2 ≤ j) : zPP (zPr 0) a j = none := by
  by_cases h : j < 32
  · exact zPP_low a ha j h hj
  · have b32 : Nat.blt j 32 = false := Bool.eq_false_iff.mpr (fun q => h (zblt q))
    have b8 : Nat.blt j 8 = false := Bool.eq_false_iff.mpr (fun q => by have := zblt q; omega)
    have b2 : Nat.blt j 2 = false := Bool.eq_false_iff.mpr (fun q => by have := zblt q; omega)
    simp only [zPP, zPr, b32, b8, b2, cond_false, Bool.cond_eq_ite, ite_self, Bool.false_eq_true, if_false]
theorem zPP_far {a j : Nat} (ha : 76 ≤ a) : zPP (zPr 0) a j = none := by
  have a20 : Nat.beq a 20 = false := Bool.eq_false_iff.mpr (fun q => by have := zbeq q; omega)
  have a54 : Nat.beq a 54 = false := Bool.eq_false_iff.mpr (fun q => by have := zbeq q; omega)
  simp only [zPP, a20, a54, Bool.or_self, cond_false, zPC_big (show 2432 ≤ a * 32 + j by omega), Bool.cond_eq_ite, ite_self, Bool.false_eq_true, if_false]
theorem zS_far {a : Nat} (ha : 76 ≤ a) : zS a = (0, 0) := by
  have : Nat.ble 76 a = true := Nat.ble_eq.mpr ha
  unfold zS
  rw [this]
  rfl
theorem all_at {n : Nat} {p : Nat → Bool} (h : (List.range n).all p = true) : ∀ k, k < n → p k = true := fun k hk => List.all_eq_true.mp h k (List.mem_range.mpr hk)
theorem zH_of {h : ZH} (hi : HI h) (t : ctst h = true) : h = zH h.2.2.1 (zPr 0) := by
  obtain ⟨⟨m1, m2⟩, S, I, P⟩ := h
  simp only [ctst, Bool.and_eq_true] at t
  obtain ⟨⟨⟨⟨⟨⟨⟨⟨⟨⟨⟨⟨⟨⟨⟨⟨⟨⟨⟨⟨⟨⟨⟨n1, n2⟩, sh⟩, pp⟩, a43⟩, ku⟩, to⟩, a44⟩, a45⟩, a46⟩, n63⟩, kd⟩, td⟩, d42⟩, d43⟩, d44⟩, p19⟩, p9⟩, k53⟩, k11⟩, s16⟩, s13⟩, t12⟩, t1⟩ := t
  have e1 : m1 = 76 := zbeq n1
  have e2 : m2 = 1769 := zbeq n2
  subst e1 e2
  have eS : S = zS := by
    funext a
    by_cases ha : a < 76
    · exact of_decide_eq_true (all_at sh a ha)
    · rw [zS_far (by omega)]
      exact (hi.1 a (show 76 ≤ a by omega)).1
  have eP : P = zPP (zPr 0) := by
    funext a j
    by_cases ha : a < 76
    · by_cases hj : j < (zS a).2
      · exact of_decide_eq_true (all_at (all_at pp a ha) j hj)
      · rw [zPP_out ha (by omega)]
        exact hi.2.2 a j ha (show (S a).2 ≤ j by rw [eS]; omega)
    · rw [zPP_far (by omega)]
      exact congrFun (hi.1 a (show 76 ≤ a by omega)).2.2 j
  show ((76, 1769), S, I, P) = ((76, 1769), zS, I, zPP (zPr 0))
  rw [eS, eP]
/-- the first mill -/
def mu0 : MS := (6, fun k => kinds0.getD k 0, fun k => k, fun i j => told0.getD (i * 6 + j) 0, 0, 4, 0)
theorem mu0_k : ∀ k, k < 6 → kinds0.getD k 0 ≤ 4 := by decide
theorem mu0_t : ∀ i, i < 6 → ∀ j, j < 6 → told0.getD (i * 6 + j) 0 ≤ 6 := by decide
theorem mu0_ok : mOK mu0 := ⟨⟨by decide, mu0_k, fun k hk => hk, fun a b _ _ e => e, fun i j hi hj => mu0_t i hi j hj, by decide, by decide⟩, fun c hc => ⟨c, hc, rfl⟩, by decide⟩
theorem start_ZA {h : ZH} (t : ctst h = true) : ZA h.2.2.1 0 := by
  obtain ⟨⟨m1, m2⟩, S, I, P⟩ := h
  simp only [ctst, Bool.and_eq_true] at t
  obtain ⟨⟨⟨⟨⟨⟨⟨⟨⟨⟨⟨⟨⟨⟨⟨⟨⟨⟨⟨⟨⟨⟨⟨n1, n2⟩, sh⟩, pp⟩, a43⟩, ku⟩, to⟩, a44⟩, a45⟩, a46⟩, n63⟩, kd⟩, td⟩, d42⟩, d43⟩, d44⟩, p19⟩, p9⟩, k53⟩, k11⟩, s16⟩, s13⟩, t12⟩, t1⟩ := t
  have d : ∀ {u v : Int32}, decide (u = v) = true → u = v := fun q => of_decide_eq_true q
  have ku2 : ∀ k, k < 6 → I 5 k = nI (kinds0.getD k 0) ∧ I 6 k = nI k := fun k hk => by
    have := all_at ku k hk
    rw [Bool.and_eq_true] at this
    exact ⟨d this.1, d this.2⟩
  have kd2 : ∀ k, k < 6 → I 65 k = nI (kinds0.getD k 0) ∧ I 68 k = nI k := fun k hk => by
    have := all_at kd k hk
    rw [Bool.and_eq_true] at this
    exact ⟨d this.1, d this.2⟩
  have to2 : ∀ k, k < 36 → I 7 k = nI (told0.getD k 0) := fun k hk => d (all_at to k hk)
  have td2 : ∀ k, k < 36 → I 68 (6 + k) = nI (told0.getD k 0) := fun k hk => d (all_at td k hk)
  refine ⟨mu0, 0, fun _ => mu0, 0, fun _ => mu0, [], 0, fun _ => 0, mu0_ok, ⟨⟨d a43, fun k hk => (ku2 k hk).1, fun k hk => (ku2 k hk).2, fun i j hi hj => ?_, d a44, d a45, d a46⟩, ⟨fun p hp => (kd2 p hp).2, fun i j hi hj => ?_, d d42, d d43, d d44⟩, fun k hk => (kd2 k hk).1, d n63⟩, ⟨by decide, by decide, by decide⟩, ⟨d p19, fun j hj => absurd hj (Nat.not_lt_zero j)⟩, ⟨d p9, fun j hj => absurd hj (Nat.not_lt_zero j)⟩, ⟨d k53, fun j hj => absurd hj (Nat.not_lt_zero j)⟩, ⟨d k11, fun j hj => absurd hj (Nat.not_lt_zero j)⟩, fun j hj => absurd hj (Nat.not_lt_zero j), fun j hj => absurd hj (Nat.not_lt_zero j), ⟨trivial, d s16, d s13, by decide, fun p hp => by cases hp⟩, d t12, d t1, by decide, fun k hk => absurd hk (Nat.not_lt_zero k)⟩
  · have hi2 : i < 6 := hi
    have hj2 : j < 6 := hj
    exact to2 (i * 6 + j) (by omega)
  · have hi2 : i < 6 := hi
    have hj2 : j < 6 := hj
    have := td2 (i * 6 + j) (by omega)
    rw [show 6 + (i * 6 + j) = 6 + 6 * i + j by omega] at this
    exact this
theorem and31 (s : Int32) : ∃ k, k < 32 ∧ s &&& 31 = nI k := by
  refine ⟨s.toBitVec.toNat % 32, Nat.mod_lt _ (by decide), ?_⟩
  apply Int32.toBitVec_inj.1
  apply BitVec.eq_of_toNat_eq
  show (s.toBitVec &&& 31#32).toNat = (BitVec.ofNat 32 (s.toBitVec.toNat % 32)).toNat
  rw [BitVec.toNat_and, BitVec.toNat_ofNat, BitVec.toNat_ofNat]
  have e : 31 % 2 ^ 32 = 2 ^ 5 - 1 := by decide
  rw [e, Nat.and_two_pow_sub_one_eq_mod, Nat.mod_eq_of_lt (a := s.toBitVec.toNat % 32) (Nat.lt_of_lt_of_le (Nat.mod_lt _ (by decide)) (by decide))]
def lawQ (r : Option Value) (h : ZH) : Prop := r = some (.int 1) ∧ h.1.1 ≤ 600000 ∧ h.1.2 ≤ 7302250
set_option maxRecDepth 100000 in
theorem law_loop {N : Nat} {xs : Nat → Int32} (hN : N ≤ 320) : ∀ (d t : Nat) (I : Nat → Nat → Int32) (r : Nat), 66 ≤ t + d → t ≤ 66 → ZA I r → Wp (N, xs) 174 18 [some (.retAddr 2), some (.ref 0), some (.ref 63), some (.int (nI (5 * t)))] [] (zH I (zPr r)) lawQ := by
  intro d
  induction d with
  | zero =>
    intro t I r hd ht hz
    refine wp_blk (pc' := 23) (L' := [some (.retAddr 2), some (.ref 0), some (.ref 63), some (.int (nI (5 * t)))]) (st' := [.int (Int32.ofNat N - 5), .int (nI (5 * t))]) (h' := zH I (zPr r)) 5 rfl ?_
    refine wp_gt (a := nI (5 * t)) (b := Int32.ofNat N - 5) (s1 := (826, [some (.retAddr 2), some (.ref 0), some (.ref 63), some (.int (nI (5 * t)))], [], zH I (zPr r))) (s2 := (26, [some (.retAddr 2), some (.ref 0), some (.ref 63), some (.int (nI (5 * t)))], [], zH I (zPr r))) rfl (fun c => ?_) (fun c => ?_)
    · refine wp_blk (pc' := 827) (L' := [some (.retAddr 2), some (.ref 0), some (.ref 63), some (.int (nI (5 * t)))]) (st' := [.int 1]) (h' := zH I (zPr r)) 1 rfl ?_
      exact wp_endb rfl rfl (Or.inl rfl) ⟨rfl, by show 76 ≤ 600000; decide, by show 1769 ≤ 7302250; decide⟩
    · exfalso
      refine c ?_
      by_cases h5 : N < 5
      · have h0 : Int32.ofNat N - 5 < 0 := by
          rcases (by omega : N = 0 ∨ N = 1 ∨ N = 2 ∨ N = 3 ∨ N = 4) with e | e | e | e | e <;> rw [e] <;> decide
        exact fa_trans h0 (nI_pos' (n := 5 * t) (by omega))
      · rw [show Int32.ofNat N - 5 = nI (N - 5) from pk_sub (a := N) (b := 5) (by omega)]
        exact (nlt (by omega) (by omega)).mpr (by omega)
  | succ d ih =>
    intro t I r hd ht hz
    refine wp_blk (pc' := 23) (L' := [some (.retAddr 2), some (.ref 0), some (.ref 63), some (.int (nI (5 * t)))]) (st' := [.int (Int32.ofNat N - 5), .int (nI (5 * t))]) (h' := zH I (zPr r)) 5 rfl ?_
    refine wp_gt (a := nI (5 * t)) (b := Int32.ofNat N - 5) (s1 := (826, [some (.retAddr 2), some (.ref 0), some (.ref 63), some (.int (nI (5 * t)))], [], zH I (zPr r))) (s2 := (26, [some (.retAddr 2), some (.ref 0), some (.ref 63), some (.int (nI (5 * t)))], [], zH I (zPr r))) rfl (fun c => ?_) (fun c => ?_)
    · refine wp_blk (pc' := 827) (L' := [some (.retAddr 2), some (.ref 0), some (.ref 63), some (.int (nI (5 * t)))]) (st' := [.int 1]) (h' := zH I (zPr r)) 1 rfl ?_
      exact wp_endb rfl rfl (Or.inl rfl) ⟨rfl, by show 76 ≤ 600000; decide, by show 1769 ≤ 7302250; decide⟩
    · have hin : 5 * t + 5 ≤ N := by
        by_cases h5 : N < 5
        · exfalso
          have h0 : Int32.ofNat N - 5 < 0 := by
            rcases (by omega : N = 0 ∨ N = 1 ∨ N = 2 ∨ N = 3 ∨ N = 4) with e | e | e | e | e <;> rw [e] <;> decide
          exact c (fa_trans h0 (nI_pos' (n := 5 * t) (by omega)))
        · rw [show Int32.ofNat N - 5 = nI (N - 5) from pk_sub (a := N) (b := 5) (by omega)] at c
          refine Classical.byContradiction fun z => c ((nlt (by omega) (by omega)).mpr (by omega))
      have hx : ∀ j : Nat, 1 ≤ j → j < 5 → zinb (nI (5 * t) + nI j) N = true := fun j _ h5 => by
        rw [nI_add]
        exact nzin (by omega) (by omega)
      have next : ∀ K r2, ZA K r2 → Wp (N, xs) 174 820 [some (.retAddr 2), some (.ref 0), some (.ref 63), some (.int (nI (5 * t)))] [] (zH K (zPr r2)) lawQ := by
        intro K r2 hK
        refine wp_blk (pc' := 18) (L' := [some (.retAddr 2), some (.ref 0), some (.ref 63), some (.int (nI (5 * t) + 5))]) (st' := []) (h' := zH K (zPr r2)) 2 rfl ?_
        have e : nI (5 * t) + 5 = nI (5 * (t + 1)) := nI_add (5 * t) 5
        rw [e]
        exact ih (t + 1) K r2 (by omega) (by omega) hK
      refine wp_blk (pc' := 28) (L' := [some (.retAddr 2), some (.ref 0), some (.ref 63), some (.int (nI (5 * t)))]) (st' := [.int (nI (5 * t)), .retAddr 2]) (h' := zH I (zPr r)) 2 rfl ?_
      refine wp_chk (P := zinb (nI (5 * t)) N = true) (pc' := 29) (L' := [some (.retAddr 2), some (.ref 0), some (.ref 63), some (.int (nI (5 * t)))]) (st' := [.int (xs (nI (5 * t)).toNatClampNeg)]) (h' := zH I (zPr r)) rfl (nzin (by omega) (by omega)) ?_
      refine wp_blk (pc' := 32) (L' := [some (.retAddr 2), some (.ref 0), some (.ref 63), some (.int (nI (5 * t)))]) (st' := [.int (xs (nI (5 * t)).toNatClampNeg &&& 31)]) (h' := zH I (zPr r)) 2 rfl ?_
      obtain ⟨k, hk, ek⟩ := and31 (xs (nI (5 * t)).toNatClampNeg)
      rw [ek]
      rcases (by omega : k = 0 ∨ k = 1 ∨ k = 2 ∨ k = 3 ∨ k = 4 ∨ k = 5 ∨ k = 6 ∨ k = 7 ∨ k = 8 ∨ k = 9 ∨ k = 10 ∨ k = 11 ∨ k = 12 ∨ k = 13 ∨ k = 14 ∨ k = 15 ∨ k = 16 ∨ k = 17 ∨ k = 18 ∨ k = 19 ∨ k = 20 ∨ k = 21 ∨ k = 22 ∨ k = 23 ∨ k = 24 ∨ k = 25 ∨ k = 26 ∨ k = 27 ∨ k = 28 ∨ k = 29 ∨ k = 30 ∨ k = 31) with rfl | rfl | rfl | rfl | rfl | rfl | rfl | rfl | rfl | rfl | rfl | rfl | rfl | rfl | rfl | rfl | rfl | rfl | rfl | rfl | rfl | rfl | rfl | rfl | rfl | rfl | rfl | rfl | rfl | rfl | rfl | rfl
      · exact wp_blk (pc' := 152) (L' := [some (.retAddr 2), some (.ref 0), some (.ref 63), some (.int (nI (5 * t)))]) (st' := []) (h' := zH I (zPr r)) 1 rfl (law_write hz hx next)
      · exact wp_blk (pc' := 175) (L' := [some (.retAddr 2), some (.ref 0), some (.ref 63), some (.int (nI (5 * t)))]) (st' := []) (h' := zH I (zPr r)) 1 rfl (law_wipe hz hx next)
      · exact wp_blk (pc' := 188) (L' := [some (.retAddr 2), some (.ref 0), some (.ref 63), some (.int (nI (5 * t)))]) (st' := []) (h' := zH I (zPr r)) 1 rfl (law_fault hz hx next)
      · exact wp_blk (pc' := 201) (L' := [some (.retAddr 2), some (.ref 0), some (.ref 63), some (.int (nI (5 * t)))]) (st' := []) (h' := zH I (zPr r)) 1 rfl (law_lay hz hx next)
      · exact wp_blk (pc' := 214) (L' := [some (.retAddr 2), some (.ref 0), some (.ref 63), some (.int (nI (5 * t)))]) (st' := []) (h' := zH I (zPr r)) 1 rfl (law_customer hz hx next)
      · exact wp_blk (pc' := 247) (L' := [some (.retAddr 2), some (.ref 0), some (.ref 63), some (.int (nI (5 * t)))]) (st' := []) (h' := zH I (zPr r)) 1 rfl (law_says hz hx next)
      · exact wp_blk (pc' := 280) (L' := [some (.retAddr 2), some (.ref 0), some (.ref 63), some (.int (nI (5 * t)))]) (st' := []) (h' := zH I (zPr r)) 1 rfl (law_fine hz hx next)
      · exact wp_blk (pc' := 313) (L' := [some (.retAddr 2), some (.ref 0), some (.ref 63), some (.int (nI (5 * t)))]) (st' := []) (h' := zH I (zPr r)) 1 rfl (law_change hz hx next)
      · exact wp_blk (pc' := 346) (L' := [some (.retAddr 2), some (.ref 0), some (.ref 63), some (.int (nI (5 * t)))]) (st' := []) (h' := zH I (zPr r)) 1 rfl (law_away hz hx next)
      · exact wp_blk (pc' := 369) (L' := [some (.retAddr 2), some (.ref 0), some (.ref 63), some (.int (nI (5 * t)))]) (st' := []) (h' := zH I (zPr r)) 1 rfl (law_say hz hx next)
      · exact wp_blk (pc' := 412) (L' := [some (.retAddr 2), some (.ref 0), some (.ref 63), some (.int (nI (5 * t)))]) (st' := []) (h' := zH I (zPr r)) 1 rfl (law_day hz hx next)
      · exact wp_blk (pc' := 425) (L' := [some (.retAddr 2), some (.ref 0), some (.ref 63), some (.int (nI (5 * t)))]) (st' := []) (h' := zH I (zPr r)) 1 rfl (law_undo hz hx next)
      · exact wp_blk (pc' := 438) (L' := [some (.retAddr 2), some (.ref 0), some (.ref 63), some (.int (nI (5 * t)))]) (st' := []) (h' := zH I (zPr r)) 1 rfl (law_behind hz hx next)
      · exact wp_blk (pc' := 471) (L' := [some (.retAddr 2), some (.ref 0), some (.ref 63), some (.int (nI (5 * t)))]) (st' := []) (h' := zH I (zPr r)) 1 rfl (law_order hz hx next)
      · exact wp_blk (pc' := 504) (L' := [some (.retAddr 2), some (.ref 0), some (.ref 63), some (.int (nI (5 * t)))]) (st' := []) (h' := zH I (zPr r)) 1 rfl (law_helpless hz hx next)
      · exact wp_blk (pc' := 517) (L' := [some (.retAddr 2), some (.ref 0), some (.ref 63), some (.int (nI (5 * t)))]) (st' := []) (h' := zH I (zPr r)) 1 rfl (law_words hz hx next)
      · exact wp_blk (pc' := 550) (L' := [some (.retAddr 2), some (.ref 0), some (.ref 63), some (.int (nI (5 * t)))]) (st' := []) (h' := zH I (zPr r)) 1 rfl (law_see hz hx next)
      · exact wp_blk (pc' := 583) (L' := [some (.retAddr 2), some (.ref 0), some (.ref 63), some (.int (nI (5 * t)))]) (st' := []) (h' := zH I (zPr r)) 1 rfl (law_forget hz hx next)
      · exact wp_blk (pc' := 596) (L' := [some (.retAddr 2), some (.ref 0), some (.ref 63), some (.int (nI (5 * t)))]) (st' := []) (h' := zH I (zPr r)) 1 rfl (law_stood hz hx next)
      · exact wp_blk (pc' := 619) (L' := [some (.retAddr 2), some (.ref 0), some (.ref 63), some (.int (nI (5 * t)))]) (st' := []) (h' := zH I (zPr r)) 1 rfl (law_said hz hx next)
      · exact wp_blk (pc' := 652) (L' := [some (.retAddr 2), some (.ref 0), some (.ref 63), some (.int (nI (5 * t)))]) (st' := []) (h' := zH I (zPr r)) 1 rfl (law_mouths hz hx next)
      · exact wp_blk (pc' := 675) (L' := [some (.retAddr 2), some (.ref 0), some (.ref 63), some (.int (nI (5 * t)))]) (st' := []) (h' := zH I (zPr r)) 1 rfl (law_chance hz hx next)
      · exact wp_blk (pc' := 728) (L' := [some (.retAddr 2), some (.ref 0), some (.ref 63), some (.int (nI (5 * t)))]) (st' := []) (h' := zH I (zPr r)) 1 rfl (law_year hz hx next)
      · exact wp_blk (pc' := 771) (L' := [some (.retAddr 2), some (.ref 0), some (.ref 63), some (.int (nI (5 * t)))]) (st' := []) (h' := zH I (zPr r)) 1 rfl (law_keep hz hx next)
      · exact wp_blk (pc' := 784) (L' := [some (.retAddr 2), some (.ref 0), some (.ref 63), some (.int (nI (5 * t)))]) (st' := []) (h' := zH I (zPr r)) 1 rfl (law_back hz hx next)
      · exact wp_blk (pc' := 797) (L' := [some (.retAddr 2), some (.ref 0), some (.ref 63), some (.int (nI (5 * t)))]) (st' := []) (h' := zH I (zPr r)) 1 rfl (law_count hz hx next)
      · exact wp_blk (pc' := 820) (L' := [some (.retAddr 2), some (.ref 0), some (.ref 63), some (.int (nI (5 * t)))]) (st' := []) (h' := zH I (zPr r)) 1 rfl (next I r hz)
      · exact wp_blk (pc' := 820) (L' := [some (.retAddr 2), some (.ref 0), some (.ref 63), some (.int (nI (5 * t)))]) (st' := []) (h' := zH I (zPr r)) 1 rfl (next I r hz)
      · exact wp_blk (pc' := 820) (L' := [some (.retAddr 2), some (.ref 0), some (.ref 63), some (.int (nI (5 * t)))]) (st' := []) (h' := zH I (zPr r)) 1 rfl (next I r hz)
      · exact wp_blk (pc' := 820) (L' := [some (.retAddr 2), some (.ref 0), some (.ref 63), some (.int (nI (5 * t)))]) (st' := []) (h' := zH I (zPr r)) 1 rfl (next I r hz)
      · exact wp_blk (pc' := 820) (L' := [some (.retAddr 2), some (.ref 0), some (.ref 63), some (.int (nI (5 * t)))]) (st' := []) (h' := zH I (zPr r)) 1 rfl (next I r hz)
      · exact wp_blk (pc' := 820) (L' := [some (.retAddr 2), some (.ref 0), some (.ref 63), some (.int (nI (5 * t)))]) (st' := []) (h' := zH I (zPr r)) 1 rfl (next I r hz)
theorem zhold_all {N : Nat} (xs : Nat → Int32) (hN : N ≤ 320) : zhold N xs := by
  obtain ⟨h, e, t⟩ := lchk_at lC_ok
  unfold lC at e
  have p := wp_part (X := (N, xs)) (Q := lawQ) 5000 10 e
  have hi := p.1 HI.zero
  have hz := start_ZA t
  have eh := zH_of hi t
  have run := law_loop (xs := xs) hN 66 0 h.2.2.1 0 (by omega) (by omega) hz
  rw [← eh] at run
  obtain ⟨n, r, h', a, b, c⟩ := p.2 run
  exact ⟨n, h', by rw [a, b], c⟩
theorem whole_start {p : Program} {e : Env} {s : State} {m : MethodId} {below : List Frame} {meth : Method} {c : Code} (l : Launch) (hflags : l.flags = flags0) {b L : Nat} {xs : Nat → Int32} (hL : L ≤ 320) (C0 : lw_At p s m meth c b L xs) : W p l e room_1 s m #[Value.ref b] below meth c s.heap [] 0 0 (lw_Z below #[Value.ref b] s) (entryFrame m ([Value.ref b] : List Value).toArray 4) := z_start l (zhold_all xs hL) C0
