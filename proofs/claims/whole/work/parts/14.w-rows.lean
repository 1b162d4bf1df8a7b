/-! RUNS AS PRE- AND POSTCONDITIONS: a run from here ends, and its end is so -/
section WRows
variable {X : Nat × (Nat → Int32)} {y pc pc' pc1 pc2 w : Nat} {L L' L1 L2 : List (Option Value)} {st st' st1 st2 : List Value} {h h' h1 h2 : ZH} {Q Q' : Option Value → ZH → Prop} {i : Instr}
theorem zrun_more : ∀ (n y pc : Nat) (L : List (Option Value)) (st : List Value) (h : ZH) (x : Option Value × ZH), zrun X n y pc L st h = some x → ∀ m, n ≤ m → zrun X m y pc L st h = some x := by
  intro n
  induction n with
  | zero => intro y pc L st h x q; cases q
  | succ n ih =>
    intro y pc L st h x q m hm
    obtain ⟨m, rfl⟩ : ∃ k, m = k + 1 := ⟨m - 1, by omega⟩
    have hm' : n ≤ m := by omega
    rw [zrun] at q
    rw [zrun]
    cases hi : zins y pc with
    | none => rw [hi] at q; cases q
    | some iw =>
      obtain ⟨i, w⟩ := iw
      rw [hi] at q
      simp only at q ⊢
      cases hz : zend y i st with
      | some r => rw [hz] at q; exact q
      | none =>
        rw [hz] at q
        simp only at q ⊢
        cases hd : zcal y i with
        | some d =>
          rw [hd] at q
          simp only at q ⊢
          obtain ⟨hk, q⟩ := zbif q
          rw [hk]
          cases q1 : zrun X n d 0 (zloc (zq d).2.2.2.1 (st.take (zq d).2.1).reverse) [] h with
          | none => rw [q1] at q; cases q
          | some rh =>
            rw [q1] at q
            rw [ih _ _ _ _ _ _ q1 m hm']
            exact ih _ _ _ _ _ _ q m hm'
        | none =>
          rw [hd] at q
          simp only at q ⊢
          cases hs : zstep X y i pc L st h with
          | none => rw [hs] at q; cases q
          | some s1 =>
            rw [hs] at q
            exact ih _ _ _ _ _ _ q m hm'
def Wp (X : Nat × (Nat → Int32)) (y pc : Nat) (L : List (Option Value)) (st : List Value) (h : ZH) (Q : Option Value → ZH → Prop) : Prop := ∃ (n : Nat) (r : Option Value) (h' : ZH), zrun X n y pc L st h = some (r, h') ∧ Q r h'
theorem Wp.mono (k : Wp X y pc L st h Q) (hq : ∀ r h', Q r h' → Q' r h') : Wp X y pc L st h Q' := by
  obtain ⟨n, r, h', a, b⟩ := k
  exact ⟨n, r, h', a, hq r h' b⟩
theorem wp_end {r : Option Value} (hi : zins y pc = some (i, w)) (he : zend y i st = some r) (q : Q r h) : Wp X y pc L st h Q := ⟨1, r, h, by simp only [zrun, hi, he], q⟩
theorem wp_one (hi : zins y pc = some (i, w)) (he : zend y i st = none) (hc : zcal y i = none) (hs : zstep X y i pc L st h = some (pc', L', st', h')) (k : Wp X y pc' L' st' h' Q) : Wp X y pc L st h Q := by
  obtain ⟨n, r, h', a, b⟩ := k
  exact ⟨n + 1, r, h', by simp only [zrun, hi, he, hc, hs]; exact a, b⟩
/-- a block of plain steps -/
def zblk (X : Nat × (Nat → Int32)) (y : Nat) : Nat → Nat → List (Option Value) → List Value → ZH → Option ZS
  | 0, pc, L, st, h => some (pc, L, st, h)
  | k + 1, pc, L, st, h => (match zins y pc with
    | none => none
    | some (i, _) => (match zend y i st with
      | some _ => none
      | none => (match zcal y i with
        | some _ => none
        | none => (match zstep X y i pc L st h with
          | some (pc', L', st', h') => zblk X y k pc' L' st' h'
          | none => none))))
theorem wp_blk : ∀ (k : Nat) {pc : Nat} {L : List (Option Value)} {st : List Value} {h : ZH}, zblk X y k pc L st h = some (pc', L', st', h') → Wp X y pc' L' st' h' Q → Wp X y pc L st h Q := by
  intro k
  induction k with
  | zero => intro pc L st h q kk; cases q; exact kk
  | succ k ih =>
    intro pc L st h q kk
    simp only [zblk] at q
    split at q
    · cases q
    · next i w hi =>
      split at q
      · cases q
      · next he =>
        split at q
        · cases q
        · next hc =>
          split at q
          · next hs => exact wp_one hi he hc hs (ih q kk)
          · cases q
/-- one step that asks -/
def zone1 (X : Nat × (Nat → Int32)) (y pc : Nat) (L : List (Option Value)) (st : List Value) (h : ZH) : Option ZS := match zins y pc with
  | none => none
  | some (i, _) => (match zend y i st with
    | some _ => none
    | none => (match zcal y i with
      | some _ => none
      | none => zstep X y i pc L st h))
theorem wp_1 (hs : zone1 X y pc L st h = some (pc', L', st', h')) (k : Wp X y pc' L' st' h' Q) : Wp X y pc L st h Q := by
  unfold zone1 at hs
  split at hs
  · cases hs
  · next hi =>
    split at hs
    · cases hs
    · next he =>
      split at hs
      · cases hs
      · next hc => exact wp_one hi he hc hs k
theorem wp_if {P : Prop} [Decidable P] {s1 s2 : ZS} (hs : zone1 X y pc L st h = if P then some s1 else some s2) (k1 : P → Wp X y s1.1 s1.2.1 s1.2.2.1 s1.2.2.2 Q) (k2 : ¬ P → Wp X y s2.1 s2.2.1 s2.2.2.1 s2.2.2.2 Q) : Wp X y pc L st h Q := by
  by_cases q : P
  · rw [if_pos q] at hs
    exact wp_1 hs (k1 q)
  · rw [if_neg q] at hs
    exact wp_1 hs (k2 q)
theorem wp_eq {a b : Int32} {s1 s2 : ZS} (hs : zone1 X y pc L st h = if zcmp .eq a b = true then some s1 else some s2) (k1 : a = b → Wp X y s1.1 s1.2.1 s1.2.2.1 s1.2.2.2 Q) (k2 : ¬ a = b → Wp X y s2.1 s2.2.1 s2.2.2.1 s2.2.2.2 Q) : Wp X y pc L st h Q := wp_if hs (fun q => k1 (of_decide_eq_true q)) (fun q => k2 (fun z => q (decide_eq_true z)))
theorem wp_ne {a b : Int32} {s1 s2 : ZS} (hs : zone1 X y pc L st h = if zcmp .ne a b = true then some s1 else some s2) (k1 : ¬ a = b → Wp X y s1.1 s1.2.1 s1.2.2.1 s1.2.2.2 Q) (k2 : a = b → Wp X y s2.1 s2.2.1 s2.2.2.1 s2.2.2.2 Q) : Wp X y pc L st h Q := wp_if hs (fun q => k1 (of_decide_eq_true (p := ¬ a = b) q)) (fun q => k2 (Decidable.byContradiction fun z => q (decide_eq_true z)))
theorem wp_lt {a b : Int32} {s1 s2 : ZS} (hs : zone1 X y pc L st h = if zcmp .lt a b = true then some s1 else some s2) (k1 : a < b → Wp X y s1.1 s1.2.1 s1.2.2.1 s1.2.2.2 Q) (k2 : ¬ a < b → Wp X y s2.1 s2.2.1 s2.2.2.1 s2.2.2.2 Q) : Wp X y pc L st h Q := wp_if hs (fun q => k1 (of_decide_eq_true q)) (fun q => k2 (fun z => q (decide_eq_true z)))
theorem wp_ge {a b : Int32} {s1 s2 : ZS} (hs : zone1 X y pc L st h = if zcmp .ge a b = true then some s1 else some s2) (k1 : b ≤ a → Wp X y s1.1 s1.2.1 s1.2.2.1 s1.2.2.2 Q) (k2 : ¬ b ≤ a → Wp X y s2.1 s2.2.1 s2.2.2.1 s2.2.2.2 Q) : Wp X y pc L st h Q := wp_if hs (fun q => k1 (of_decide_eq_true q)) (fun q => k2 (fun z => q (decide_eq_true z)))
theorem wp_gt {a b : Int32} {s1 s2 : ZS} (hs : zone1 X y pc L st h = if zcmp .gt a b = true then some s1 else some s2) (k1 : b < a → Wp X y s1.1 s1.2.1 s1.2.2.1 s1.2.2.2 Q) (k2 : ¬ b < a → Wp X y s2.1 s2.2.1 s2.2.2.1 s2.2.2.2 Q) : Wp X y pc L st h Q := wp_if hs (fun q => k1 (of_decide_eq_true q)) (fun q => k2 (fun z => q (decide_eq_true z)))
theorem wp_le {a b : Int32} {s1 s2 : ZS} (hs : zone1 X y pc L st h = if zcmp .le a b = true then some s1 else some s2) (k1 : a ≤ b → Wp X y s1.1 s1.2.1 s1.2.2.1 s1.2.2.2 Q) (k2 : ¬ a ≤ b → Wp X y s2.1 s2.2.1 s2.2.2.1 s2.2.2.2 Q) : Wp X y pc L st h Q := wp_if hs (fun q => k1 (of_decide_eq_true q)) (fun q => k2 (fun z => q (decide_eq_true z)))
/-- an index is asked -/
theorem wp_chk {P : Prop} [Decidable P] (hs : zone1 X y pc L st h = if P then some (pc', L', st', h') else none) (hp : P) (k : Wp X y pc' L' st' h' Q) : Wp X y pc L st h Q := by
  rw [if_pos hp] at hs
  exact wp_1 hs k
theorem wp_nchk {P : Prop} [Decidable P] (hs : zone1 X y pc L st h = if P then none else some (pc', L', st', h')) (hp : ¬ P) (k : Wp X y pc' L' st' h' Q) : Wp X y pc L st h Q := by
  rw [if_neg hp] at hs
  exact wp_1 hs k
/-- a call -/
theorem wp_call {d : Nat} {as rest : List Value} {Ld : List (Option Value)} (hi : zins y pc = some (i, w)) (he : zend y i st = none) (hc : zcal y i = some d) (ha : (st.take (zq d).2.1).reverse = as) (hr : st.drop (zq d).2.1 = rest) (hk : zcok y d h as rest = true) (hL : zloc (zq d).2.2.2.1 as = Ld) (hp : pc + 3 = pc')
    (hw : Wp X d 0 Ld [] h Q') (k : ∀ r h', Q' r h' → Wp X y pc' L (r.toList ++ rest) h' Q) : Wp X y pc L st h Q := by
  subst ha; subst hr; subst hL; subst hp
  obtain ⟨n, r, h1, a, b⟩ := hw
  obtain ⟨n2, r2, h2, a2, b2⟩ := k r h1 b
  refine ⟨max n n2 + 1, r2, h2, ?_, b2⟩
  simp only [zrun, hi, he, hc, hk, cond_true, zrun_more _ _ _ _ _ _ _ a (max n n2) (Nat.le_max_left _ _)]
  exact zrun_more _ _ _ _ _ _ _ a2 _ (Nat.le_max_right _ _)
/-- a call whose answer and heap are known -/
def Wf (X : Nat × (Nat → Int32)) (y : Nat) (L : List (Option Value)) (h : ZH) (r : Option Value) (h' : ZH) : Prop := Wp X y 0 L [] h (fun r2 h2 => r2 = r ∧ h2 = h')
theorem wp_callf {d : Nat} {as rest : List Value} {Ld : List (Option Value)} {r : Option Value} (hi : zins y pc = some (i, w)) (he : zend y i st = none) (hc : zcal y i = some d) (ha : (st.take (zq d).2.1).reverse = as) (hr : st.drop (zq d).2.1 = rest) (hk : zcok y d h as rest = true) (hL : zloc (zq d).2.2.2.1 as = Ld) (hp : pc + 3 = pc') (hst : r.toList ++ rest = st')
    (hw : Wf X d Ld h r h1) (k : Wp X y pc' L st' h1 Q) : Wp X y pc L st h Q := by
  refine wp_call hi he hc ha hr hk hL hp hw fun r2 h2 q => ?_
  obtain ⟨rfl, rfl⟩ := q
  subst hst
  exact k
/-- the end of a method that answers true or false -/
theorem wp_endb {v : Int32} (hi : zins y pc = some (.ireturn, w)) (hr : zret y = some .boolean) (hv : v = 1 ∨ v = 0) (q : Q (some (.int v)) h) : Wp X y pc L [.int v] h Q := by
  refine wp_end (r := some (.int v)) hi ?_ q
  simp only [zend, hr]
  rw [if_pos hv]
end WRows
