/-! THE PURE PART: how a text is read, in the class -/
def lt0 (tx : Nat → Nat) (n p : Nat) : Nat := if p < n then tx p else 0
def fgr (c : Nat) : Option Nat := if 48 ≤ c ∧ c ≤ 57 then some (c - 48) else none
def rdn (tx : Nat → Nat) (n p : Nat) : Option (Nat × Nat) := match fgr (lt0 tx n p) with
  | none => none
  | some a => match fgr (lt0 tx n (p + 1)) with
    | none => some (a, p + 1)
    | some b => some (10 * a + b, p + 1 + 1)
/-- a number and the letter behind it -/
def num (tx : Nat → Nat) (n p e : Nat) : Option (Nat × Nat) := match rdn tx n p with
  | none => none
  | some q => if lt0 tx n q.2 = e then some (q.1, q.2 + 1) else none
theorem fgr_le {c a : Nat} (h : fgr c = some a) : a ≤ 9 ∧ c = a + 48 := by
  unfold fgr at h
  split at h
  · cases h
    omega
  · cases h
theorem rdn_le {tx : Nat → Nat} {n p : Nat} {q : Nat × Nat} (h : rdn tx n p = some q) : q.1 ≤ 99 ∧ p < q.2 ∧ q.2 ≤ p + 2 := by
  unfold rdn at h
  cases h1 : fgr (lt0 tx n p) with
  | none => rw [h1] at h; cases h
  | some a =>
    rw [h1] at h
    have ha := fgr_le h1
    cases h2 : fgr (lt0 tx n (p + 1)) with
    | none =>
      rw [h2] at h
      cases h
      exact ⟨by show a ≤ 99; omega, by show p < p + 1; omega, by show p + 1 ≤ p + 2; omega⟩
    | some b =>
      rw [h2] at h
      have hb := fgr_le h2
      cases h
      exact ⟨by show 10 * a + b ≤ 99; omega, by show p < p + 1 + 1; omega, by show p + 1 + 1 ≤ p + 2; omega⟩
theorem num_le {tx : Nat → Nat} {n p e : Nat} {q : Nat × Nat} (h : num tx n p e = some q) (he : e ≠ 0) : q.1 ≤ 99 ∧ p < q.2 ∧ q.2 ≤ n := by
  unfold num at h
  cases h1 : rdn tx n p with
  | none => rw [h1] at h; cases h
  | some w =>
    rw [h1] at h
    have hw := rdn_le h1
    by_cases h2 : lt0 tx n w.2 = e
    · have h3 : some (w.1, w.2 + 1) = some q := by rw [← h]; exact (if_pos h2).symm
      cases h3
      have h4 : w.2 < n := by
        refine Classical.byContradiction fun z => ?_
        rw [lt0, if_neg z] at h2
        exact he h2.symm
      exact ⟨hw.1, by show p < w.2 + 1; omega, by show w.2 + 1 ≤ n; omega⟩
    · have h3 : none = some q := by rw [← h]; exact (if_neg h2).symm
      cases h3
/-- the class's text -/
def TC (I : Nat → Nat → Int32) (n : Nat) (tx : Nat → Nat) : Prop := I 1 2 = nI n ∧ n ≤ 200 ∧ ∀ k, k < n → I 2 k = nI (tx k) ∧ 32 ≤ tx k ∧ tx k ≤ 126
section PText
variable {I : Nat → Nat → Int32} {n : Nat} {tx : Nat → Nat}
theorem lt0_le (h : TC I n tx) (p : Nat) : lt0 tx n p ≤ 126 := by
  unfold lt0
  split
  · next hp => exact (h.2.2 p hp).2.2
  · omega
theorem letter_c (h : TC I n tx) {p : Nat} (hp : p < 1000) : f_S_letterAt I (nI p) = nI (lt0 tx n p) := by
  have h2 := h.2.1
  rw [f_S_letterAt, if_neg (nneg (by omega)), h.1, lt0]
  by_cases c : p < n
  · rw [if_neg (fun z => by have := (nle (by omega) (by omega)).mp z; omega), if_neg (show ¬ Int32.ofNat 200 ≤ nI p from fun z => by have := (nle (a := 200) (by omega) (by omega)).mp z; omega), ncl (by omega), if_pos c]
    exact (h.2.2 p c).1
  · rw [if_pos ((nle (by omega) (by omega)).mpr (by omega)), if_neg c]
    rfl
def fgv (o : Option Nat) : Int32 := match o with
  | none => -1
  | some a => nI a
theorem fig_c (h : TC I n tx) {p : Nat} (hp : p < 1000) : f_S_figureAt I (nI p) = fgv (fgr (lt0 tx n p)) := by
  have hl := lt0_le h p
  rw [f_S_figureAt, letter_c h hp]
  generalize lt0 tx n p = c at hl
  unfold fgr
  by_cases c1 : c < 48
  · rw [if_pos (show nI c < 48 from (nlt (b := 48) (by omega) (by omega)).mpr c1), if_neg (by omega)]
    rfl
  · rw [if_neg (show ¬ nI c < 48 from fun z => c1 ((nlt (b := 48) (by omega) (by omega)).mp z))]
    by_cases c2 : 57 < c
    · rw [if_pos (show (57 : Int32) < nI c from (nlt (a := 57) (by omega) (by omega)).mpr c2), if_neg (by omega)]
      rfl
    · rw [if_neg (show ¬ (57 : Int32) < nI c from fun z => c2 ((nlt (a := 57) (by omega) (by omega)).mp z)), if_pos (by omega)]
      exact pk_sub (b := 48) (by omega)
/-- the reader's state: where it stands, the numbers -/
def WR (I : Nat → Nat → Int32) (p : Nat) (F : Nat → Int32) : Nat → Nat → Int32 := zrow (zui I 1 3 (nI p)) 3 F
theorem WR_13 {p : Nat} {F : Nat → Int32} : WR I p F 1 3 = nI p := by rw [WR, zrow_ne _ _ (by decide), zui_self, pk_us]
theorem WR_1 {p j : Nat} {F : Nat → Int32} (h : j ≠ 3) : WR I p F 1 j = I 1 j := by rw [WR, zrow_ne _ _ (by decide), zui_self, pk_un h]
theorem WR_3 {p : Nat} {F : Nat → Int32} : WR I p F 3 = F := zrow_self _ _ _
theorem WR_ne {p a : Nat} {F : Nat → Int32} (h1 : a ≠ 1) (h3 : a ≠ 3) : WR I p F a = I a := by rw [WR, zrow_ne _ _ h3, zui_ne _ _ _ h1]
theorem WR_at {p s : Nat} {F : Nat → Int32} : zui (WR I p F) 1 3 (nI s) = WR I s F := by
  funext a
  by_cases h1 : a = 1
  · rw [h1, zui_self]
    funext j
    by_cases hj : j = 3
    · rw [hj, pk_us, WR_13]
    · rw [pk_un hj, WR_1 hj, WR_1 hj]
  · rw [zui_ne _ _ _ h1]
    by_cases h3 : a = 3
    · rw [h3, WR_3, WR_3]
    · rw [WR_ne h1 h3, WR_ne h1 h3]
theorem WR_num {p i : Nat} {F : Nat → Int32} {v : Int32} : zui (WR I p F) 3 i v = WR I p (upd F i v) := by
  funext a
  by_cases h3 : a = 3
  · rw [h3, zui_self, WR_3, WR_3]
  · rw [zui_ne _ _ _ h3]
    by_cases h1 : a = 1
    · rw [h1]
      funext j
      by_cases hj : j = 3
      · rw [hj, WR_13, WR_13]
      · rw [WR_1 hj, WR_1 hj]
    · rw [WR_ne h1 h3, WR_ne h1 h3]
theorem WR_TC (h : TC I n tx) (p : Nat) (F : Nat → Int32) : TC (WR I p F) n tx := ⟨(WR_1 (by decide)).trans h.1, h.2.1, by rw [WR_ne (by decide) (by decide)]; exact h.2.2⟩
def rdv (o : Option (Nat × Nat)) (I : Nat → Nat → Int32) (p : Nat) (F : Nat → Int32) : Int32 × (Nat → Nat → Int32) := match o with
  | none => (-1, WR I p F)
  | some q => (nI q.1, WR I q.2 F)
theorem read_c (h : TC I n tx) {p : Nat} (hp : p < 900) (F : Nat → Int32) : x_S_readNumber (WR I p F) = some (rdv (rdn tx n p) I p F) := by
  have e1 : nI p + 1 = nI (p + 1) := nI_add p 1
  have e2 : nI (p + 1) + 1 = nI (p + 1 + 1) := nI_add (p + 1) 1
  have n1 : ¬ (0 : Int32) ≤ -1 := by decide
  rw [x_S_readNumber, WR_13, e1, WR_at, e2, WR_at, fig_c (WR_TC h p F) (by omega), fig_c (WR_TC h (p + 1) F) (by omega)]
  unfold rdn
  cases h1 : fgr (lt0 tx n p) with
  | none =>
    rw [if_neg (show ¬ 0 ≤ fgv none from n1)]
    rfl
  | some a =>
    have ha := fgr_le h1
    rw [if_pos (show 0 ≤ fgv (some a) from (nle (a := 0) (by omega) (by omega)).mpr (by omega))]
    cases h2 : fgr (lt0 tx n (p + 1)) with
    | none =>
      rw [if_neg (show ¬ 0 ≤ fgv none from n1)]
      rfl
    | some b =>
      have hb := fgr_le h2
      rw [if_pos (show 0 ≤ fgv (some b) from (nle (a := 0) (by omega) (by omega)).mpr (by omega))]
      show some (10 * nI a + nI b, _) = some (nI (10 * a + b), _)
      rw [show (10 : Int32) = nI 10 from rfl, pk_mul, nI_add]
/-- only the reader is other -/
def Fr (I J : Nat → Nat → Int32) : Prop := (∀ a, a ≠ 1 → a ≠ 3 → J a = I a) ∧ ∀ j, j ≠ 3 → J 1 j = I 1 j
theorem WR_fr (p : Nat) (F : Nat → Int32) : Fr I (WR I p F) := ⟨fun _ h1 h3 => WR_ne h1 h3, fun _ h => WR_1 h⟩
theorem rn_step (h : TC I n tx) {p i k e fuel : Nat} {F : Nat → Int32} (hp : p < 900) (hi : i < k) (hk : k ≤ 3) (he : e = if i + 1 = k then 59 else 44) : (num tx n p e = none → ∃ J, l_S_readNumbers_2 (fuel + 1) (WR I p F) (nI k) (nI i) = some (0, J) ∧ Fr I J) ∧ ∀ q, num tx n p e = some q → l_S_readNumbers_2 (fuel + 1) (WR I p F) (nI k) (nI i) = l_S_readNumbers_2 fuel (WR I q.2 (upd F i (nI q.1))) (nI k) (nI (i + 1)) := by
  have hk1 : nI i = nI k - 1 ↔ i + 1 = k := by
    rw [show nI k - 1 = nI (k - 1) from pk_sub (b := 1) (by omega), neq (by omega) (by omega)]
    omega
  have zi : zinb (nI i) 3 = true := nzin (by omega) (by decide)
  have step : l_S_readNumbers_2 (fuel + 1) (WR I p F) (nI k) (nI i) = (match rdn tx n p with
    | none => some (0, WR I p (upd F i (-1)))
    | some q => if lt0 tx n q.2 = e then l_S_readNumbers_2 fuel (WR I (q.2 + 1) (upd F i (nI q.1))) (nI k) (nI (i + 1)) else some (0, WR I q.2 (upd F i (nI q.1)))) := by
    rw [l_S_readNumbers_2, if_neg (fun z => by have := (nle (by omega) (by omega)).mp z; omega), if_neg (show ¬ Int32.ofNat 3 ≤ nI i from fun z => by have := (nle (a := 3) (by omega) (by omega)).mp z; omega), read_c h hp F, Option.bind_some]
    simp only [zi, if_true, show nI i + 1 = nI (i + 1) from nI_add i 1]
    rw [ncl (by omega)]
    cases hr : rdn tx n p with
    | none =>
      have ev : rdv none I p F = (-1, WR I p F) := rfl
      rw [ev]
      dsimp only
      rw [WR_num, WR_3, pk_us, if_pos (show (-1 : Int32) < 0 by decide), if_pos (show (-1 : Int32) < 0 by decide), ite_self]
    | some q =>
      have hq := rdn_le hr
      have ev : rdv (some q) I p F = (nI q.1, WR I q.2 F) := rfl
      rw [ev]
      dsimp only
      have hl := lt0_le h q.2
      rw [WR_num, WR_3, pk_us]
      simp only [WR_13, letter_c (WR_TC h q.2 (upd F i (nI q.1))) (show q.2 < 1000 by omega), show nI q.2 + 1 = nI (q.2 + 1) from nI_add _ 1, WR_at]
      rw [if_neg (nneg (by omega)), if_neg (nneg (by omega))]
      by_cases c1 : i + 1 = k
      · rw [if_pos (hk1.mpr c1), he, if_pos c1]
        by_cases c2 : lt0 tx n q.2 = 59
        · rw [if_pos (show nI (lt0 tx n q.2) = 59 from (neq (b := 59) (by omega) (by omega)).mpr c2), if_pos c2]
        · rw [if_neg (show ¬ nI (lt0 tx n q.2) = 59 from fun z => c2 ((neq (b := 59) (by omega) (by omega)).mp z)), if_neg c2]
      · rw [if_neg (fun z => c1 (hk1.mp z)), he, if_neg c1]
        by_cases c2 : lt0 tx n q.2 = 44
        · rw [if_pos (show nI (lt0 tx n q.2) = 44 from (neq (b := 44) (by omega) (by omega)).mpr c2), if_pos c2]
        · rw [if_neg (show ¬ nI (lt0 tx n q.2) = 44 from fun z => c2 ((neq (b := 44) (by omega) (by omega)).mp z)), if_neg c2]
  rw [step]
  unfold num
  cases hr : rdn tx n p with
  | none => exact ⟨fun _ => ⟨_, rfl, WR_fr _ _⟩, fun q y => (by cases y)⟩
  | some w =>
    dsimp only
    by_cases c2 : lt0 tx n w.2 = e
    · rw [if_pos c2, if_pos c2]
      exact ⟨fun y => (by cases y), fun q y => (by cases y; rfl)⟩
    · rw [if_neg c2, if_neg c2]
      exact ⟨fun _ => ⟨_, rfl, WR_fr _ _⟩, fun q y => (by cases y)⟩
theorem rn_end {p k fuel : Nat} {F : Nat → Int32} (hk : k ≤ 3) : l_S_readNumbers_2 (fuel + 1) (WR I p F) (nI k) (nI k) = some (1, WR I p F) := by
  rw [l_S_readNumbers_2, if_pos ((nle (by omega) (by omega)).mpr (Nat.le_refl k))]
theorem nums1 (h : TC I n tx) {p : Nat} {F : Nat → Int32} (hp : p < 300) : (num tx n p 59 = none → ∃ J, x_S_readNumbers (WR I p F) 1 = some (0, J) ∧ Fr I J) ∧ ∀ q, num tx n p 59 = some q → x_S_readNumbers (WR I p F) 1 = some (1, WR I q.2 (upd F 0 (nI q.1))) := by
  obtain ⟨a, b⟩ := rn_step (I := I) (F := F) (k := 1) (i := 0) (e := 59) (fuel := 999) h (p := p) (by omega) (by decide) (by decide) rfl
  exact ⟨fun z => a z, fun q z => (b q z).trans (rn_end (k := 1) (fuel := 998) (by decide))⟩
theorem nums3 (h : TC I n tx) {p : Nat} {F : Nat → Int32} (hp : p < 300) : ((num tx n p 44 = none ∨ (∃ q1, num tx n p 44 = some q1 ∧ (num tx n q1.2 44 = none ∨ ∃ q2, num tx n q1.2 44 = some q2 ∧ num tx n q2.2 59 = none))) → ∃ J, x_S_readNumbers (WR I p F) 3 = some (0, J) ∧ Fr I J) ∧ ∀ q1 q2 q3, num tx n p 44 = some q1 → num tx n q1.2 44 = some q2 → num tx n q2.2 59 = some q3 → x_S_readNumbers (WR I p F) 3 = some (1, WR I q3.2 (upd (upd (upd F 0 (nI q1.1)) 1 (nI q2.1)) 2 (nI q3.1))) := by
  have h200 := h.2.1
  obtain ⟨a1, b1⟩ := rn_step (I := I) (F := F) (k := 3) (i := 0) (e := 44) (fuel := 999) h (p := p) (by omega) (by decide) (by decide) rfl
  have s2 := fun (q1 : Nat × Nat) (z : num tx n p 44 = some q1) => rn_step (I := I) (F := upd F 0 (nI q1.1)) (k := 3) (i := 1) (e := 44) (fuel := 998) h (p := q1.2) (by have := num_le z (by decide); omega) (by decide) (by decide) rfl
  have s3 := fun (q1 q2 : Nat × Nat) (z : num tx n q1.2 44 = some q2) => rn_step (I := I) (F := upd (upd F 0 (nI q1.1)) 1 (nI q2.1)) (k := 3) (i := 2) (e := 59) (fuel := 997) h (p := q2.2) (by have := num_le z (by decide); omega) (by decide) (by decide) rfl
  constructor
  · intro z
    rcases z with z | ⟨q1, z1, z⟩
    · exact a1 z
    · have e1 := b1 q1 z1
      rcases z with z | ⟨q2, z2, z3⟩
      · obtain ⟨J, j0, j1⟩ := (s2 q1 z1).1 z
        exact ⟨J, e1.trans j0, j1⟩
      · have e2 := (s2 q1 z1).2 q2 z2
        obtain ⟨J, j0, j1⟩ := (s3 q1 q2 z2).1 z3
        exact ⟨J, e1.trans (e2.trans j0), j1⟩
  · intro q1 q2 q3 z1 z2 z3
    exact (b1 q1 z1).trans (((s2 q1 z1).2 q2 z2).trans (((s3 q1 q2 z2).2 q3 z3).trans (rn_end (k := 3) (fuel := 996) (by decide))))
end PText
