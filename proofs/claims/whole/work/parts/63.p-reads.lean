/-! THE PURE PART: the items of a text, in the reference -/
def DD (I : Nat → Nat → Int32) (δ : MS) : Prop := I 63 4 = nI (mN δ) ∧ (∀ k, k < mN δ → I 66 k = nI (mK δ k)) ∧ (∀ p, p < 6 → I 67 p = nI p) ∧ (∀ i j, i < 6 → j < 6 → I 67 (6 + 6 * i + j) = nI (mT δ i j)) ∧ I 67 42 = nI (mG δ) ∧ I 67 43 = nI (mS δ) ∧ I 67 44 = 0
def FrD (I J : Nat → Nat → Int32) : Prop := (∀ a, a ≠ 63 → a ≠ 66 → a ≠ 67 → J a = I a) ∧ ∀ j, j ≠ 4 → j ≠ 14 → J 63 j = I 63 j
theorem FrD.trans {I J K : Nat → Nat → Int32} (h : FrD I J) (k : FrD J K) : FrD I K := ⟨fun a h1 h2 h3 => (k.1 a h1 h2 h3).trans (h.1 a h1 h2 h3), fun j h1 h2 => (k.2 j h1 h2).trans (h.2 j h1 h2)⟩
def toldD (I : Nat → Nat → Int32) (o : Option (MS × Nat)) (x : Option (Int32 × (Nat → Nat → Int32))) : Prop := match o with
  | none => ∃ J, x = some (0, J) ∧ FrD I J
  | some w => ∃ J, x = some (1, J) ∧ FrD I J ∧ DD J w.1 ∧ J 63 14 = nI w.2
theorem nv_cases (H : Nat) (o : Option (Nat × Nat)) : (nv H o = -1 ∧ ∀ q, o = some q → ¬ q.1 < H) ∨ ∃ q, o = some q ∧ q.1 < H ∧ nv H o = nI q.1 := by
  cases o with
  | none => exact Or.inl ⟨rfl, fun q y => by cases y⟩
  | some q =>
    by_cases c : q.1 < H
    · exact Or.inr ⟨q, rfl, c, if_pos c⟩
    · exact Or.inl ⟨if_neg c, fun w y => by cases y; exact c⟩
theorem hi_N {k : Nat} (hk : k ≤ 6) : ∀ v, v ≤ 99 → (nI k - 1 < nI v ↔ ¬ v < k) := by
  intro v hv
  by_cases h0 : k = 0
  · rw [h0]
    have e : nI 0 - 1 = -1 := rfl
    rw [e]
    constructor
    · intro _
      omega
    · intro _
      exact fa_trans (b := 0) (by decide) (nI_pos' (n := v) (by omega))
  · rw [show nI k - 1 = nI (k - 1) from pk_sub (b := 1) (by omega), nlt (by omega) (by omega)]
    omega
theorem hi_L {b : Nat} (hb : b ≤ 99) : ∀ v, v ≤ 99 → (nI b < nI v ↔ ¬ v < b + 1) := by
  intro v hv
  rw [nlt (by omega) (by omega)]
  omega
section PReads
variable {I : Nat → Nat → Int32} {n : Nat} {tx : Nat → Nat} {δ : MS}
theorem WQ_fr (s : Nat) : FrD I (WQ I s) := ⟨fun _ h1 _ _ => WQ_ne h1, fun _ _ h => WQ_63 h⟩
theorem WQ_DD (hD : DD I δ) (s : Nat) : DD (WQ I s) δ := by
  unfold DD
  rw [WQ_63 (show 4 ≠ 14 by decide), WQ_ne (show 66 ≠ 63 by decide), WQ_ne (show 67 ≠ 63 by decide)]
  exact hD
theorem put67 {s x : Nat} {v : Int32} : FrD I (zui (WQ I s) 67 x v) ∧ (zui (WQ I s) 67 x v) 63 14 = nI s ∧ (zui (WQ I s) 67 x v) 63 4 = I 63 4 ∧ (zui (WQ I s) 67 x v) 66 = I 66 ∧ (zui (WQ I s) 67 x v) 67 = upd (I 67) x v := by
  refine ⟨⟨fun a h1 _ h3 => (zui_ne _ _ _ h3).trans (WQ_ne h1), fun j _ h2 => by rw [zui_ne _ _ _ (by decide), WQ_63 h2]⟩, by rw [zui_ne _ _ _ (by decide), WQ_14], by rw [zui_ne _ _ _ (by decide), WQ_63 (by decide)], by rw [zui_ne _ _ _ (by decide), WQ_ne (by decide)], by rw [zui_self, WQ_ne (by decide)]⟩
theorem itm_o {p : Nat} (h : lt0 tx n p = 111) : itm tx n δ p = (match num tx n (p + 1) 44 with
    | none => none
    | some q1 => if q1.1 < mN δ then (match num tx n q1.2 44 with
      | none => none
      | some q2 => if q2.1 < mN δ then (match num tx n q2.2 59 with
        | none => none
        | some q3 => if q3.1 < 7 then (if q1.1 = q2.1 then none else some (setT δ q1.1 q2.1 q3.1, q3.2)) else none) else none) else none) := by
  unfold itm
  rw [if_pos h]
  cases num tx n (p + 1) 44 with
  | none => rfl
  | some q1 =>
    dsimp only
    cases num tx n q1.2 44 with
    | none => dsimp only; rw [ite_self]
    | some q2 =>
      dsimp only
      cases num tx n q2.2 59 with
      | none => dsimp only; rw [ite_self, ite_self]
      | some q3 =>
        dsimp only
        by_cases c1 : q1.1 < mN δ
        · rw [if_pos c1]
          by_cases c2 : q2.1 < mN δ
          · rw [if_pos c2]
            by_cases c3 : q3.1 < 7
            · rw [if_pos c3]
              by_cases c4 : q1.1 = q2.1
              · rw [if_pos c4, if_neg (fun z => z.2.2.1 c4)]
              · rw [if_neg c4, if_pos ⟨c1, c2, c4, by omega⟩]
            · rw [if_neg c3, if_neg (fun z => by omega)]
          · rw [if_neg c2, if_neg (fun z => c2 z.2.1)]
        · rw [if_neg c1, if_neg (fun z => c1 z.1)]
theorem x_item_d (h : TD I n tx) {p : Nat} (hp : p < n) (hat : I 63 14 = nI (p + 1)) (hD : DD I δ) (hw : dWF δ) : toldD I (itm tx n δ p) (x_D_readsItem I (nI (tx p))) := by
  have h200 := h.2.1
  have h6 := hw.1
  have ht := (h.2.2 p hp).2
  have el : lt0 tx n p = tx p := if_pos hp
  have ek : ∀ v : Nat, v ≤ 126 → (nI (tx p) = nI v ↔ tx p = v) := fun v hv => neq (by omega) (by omega)
  have k111 : (nI (tx p) = 111) ↔ tx p = 111 := ek 111 (by decide)
  have k97 : (nI (tx p) = 97) ↔ tx p = 97 := ek 97 (by decide)
  have k99 : (nI (tx p) = 99) ↔ tx p = 99 := ek 99 (by decide)
  have k115 : (nI (tx p) = 115) ↔ tx p = 115 := ek 115 (by decide)
  have n1 : ¬ (0 : Int32) ≤ -1 := by decide
  have n2 : (-1 : Int32) < 0 := by decide
  have p1 : ∀ v : Nat, v ≤ 99 → (0 : Int32) ≤ nI v := fun v hv => nI_pos' (by omega)
  have p2 : ∀ v : Nat, v ≤ 99 → ¬ nI v < 0 := fun v hv => nneg (by omega)
  rw [x_D_readsItem]
  simp only [k111, k97, k99, k115]
  by_cases c97 : tx p = 97
  · have ei : itm tx n δ p = (match num tx n (p + 1) 59 with
      | none => none
      | some q => if q.1 < mN δ then some (setG δ (mG δ ||| 2 ^ q.1), q.2) else none) := by
      rw [itm, el, if_neg (by omega)]
      simp only [if_pos c97]
      cases num tx n (p + 1) 59 <;> rfl
    rw [ei, if_pos c97]
    obtain ⟨s, s0, s1⟩ := d_num (a := I 63 4 - 1) (e := 59) (H := mN δ) h (p := p + 1) (by omega) hat (by decide) (by decide) (by rw [hD.1]; exact hi_N h6)
    have s0' : x_D_number I (I 63 4 - 1) 59 = some (nv (mN δ) (num tx n (p + 1) 59), WQ I s) := s0
    rw [s0', Option.bind_some]
    dsimp only
    rcases nv_cases (mN δ) (num tx n (p + 1) 59) with ⟨e1, e2⟩ | ⟨q, e1, e2, e3⟩
    · rw [e1, if_neg n1, if_pos n2]
      have : (match num tx n (p + 1) 59 with
        | none => none
        | some q => if q.1 < mN δ then some (setG δ (mG δ ||| 2 ^ q.1), q.2) else none) = none := by
        cases e : num tx n (p + 1) 59 with
        | none => rfl
        | some q => exact if_neg (e2 q e)
      rw [this]
      exact ⟨_, rfl, put67.1⟩
    · have hq := num_le e1 (by decide)
      rw [e3, if_pos (p1 _ hq.1), if_neg (p2 _ hq.1), e1, s1 q e1]
      dsimp only
      rw [if_pos e2, WQ_ne (show 67 ≠ 63 by decide), hD.2.2.2.2.1, nsh1 q.1 (by omega), fa_or]
      obtain ⟨f1, f2, f3, f4, f5⟩ := put67 (I := I) (s := q.2) (x := 42) (v := nI (mG δ ||| 2 ^ q.1))
      refine ⟨_, rfl, f1, ⟨?_, ?_, ?_, ?_, ?_, ?_, ?_⟩, f2⟩
      · rw [f3]
        exact hD.1
      · rw [f4]
        exact hD.2.1
      · intro x hx
        rw [f5, pk_un (by omega)]
        exact hD.2.2.1 x hx
      · intro i j hi hj
        rw [f5, pk_un (by omega)]
        exact hD.2.2.2.1 i j hi hj
      · rw [f5, pk_us]
        rfl
      · rw [f5, pk_un (by decide)]
        exact hD.2.2.2.2.2.1
      · rw [f5, pk_un (by decide)]
        exact hD.2.2.2.2.2.2
  · rw [if_neg c97]
    by_cases c99 : tx p = 99
    · have ei : itm tx n δ p = (match num tx n (p + 1) 59 with
        | none => none
        | some q => if mN δ < 6 ∧ q.1 ≤ 4 then some (addC δ q.1, q.2) else none) := by
        rw [itm, el, if_neg (by omega)]
        simp only [if_neg c97, if_pos c99]
        cases num tx n (p + 1) 59 <;> rfl
      rw [ei, if_pos c99]
      obtain ⟨s, s0, s1⟩ := d_num (a := 4) (e := 59) (H := 5) h (p := p + 1) (by omega) hat (by decide) (by decide) (hi_L (b := 4) (by decide))
      have s0' : x_D_number I 4 59 = some (nv 5 (num tx n (p + 1) 59), WQ I s) := s0
      rw [s0', Option.bind_some]
      dsimp only
      rcases nv_cases 5 (num tx n (p + 1) 59) with ⟨e1, e2⟩ | ⟨q, e1, e2, e3⟩
      · rw [e1, if_pos n2]
        have : (match num tx n (p + 1) 59 with
          | none => none
          | some q => if mN δ < 6 ∧ q.1 ≤ 4 then some (addC δ q.1, q.2) else none) = none := by
          cases e : num tx n (p + 1) 59 with
          | none => rfl
          | some q => exact if_neg (fun z => by have := e2 q e; omega)
        rw [this]
        exact ⟨_, rfl, WQ_fr s⟩
      · have hq := num_le e1 (by decide)
        rw [e3, if_neg (p2 _ hq.1), e1, s1 q e1]
        dsimp only
        have e4 : WQ I q.2 63 4 = nI (mN δ) := (WQ_63 (by decide)).trans hD.1
        simp only [e4]
        by_cases c6 : mN δ < 6
        · rw [if_pos ⟨c6, by omega⟩, if_neg (show ¬ nI (mN δ) = 6 from fun z => by have := (neq (b := 6) (by omega) (by omega)).mp z; omega)]
          have ec : x_D_customerOf (WQ I q.2) (nI q.1) = some (0, zui (zui (WQ I q.2) 66 (mN δ) (nI q.1)) 63 4 (nI (mN δ + 1))) := by
            rw [x_D_customerOf, e4, if_pos (nzin (k := mN δ) (N := 6) (by omega) (by decide)), ncl (by omega), show nI (mN δ) + 1 = nI (mN δ + 1) from nI_add _ 1]
          rw [ec, Option.bind_some]
          refine ⟨zui (zui (WQ I q.2) 66 (mN δ) (nI q.1)) 63 4 (nI (mN δ + 1)), rfl, ⟨fun a a1 a2 _ => ?_, fun j j1 j2 => ?_⟩, ⟨?_, ?_, ?_, ?_, ?_, ?_, ?_⟩, ?_⟩
          · rw [zui_ne _ _ _ a1, zui_ne _ _ _ a2, WQ_ne a1]
          · rw [zui_self, pk_un j1, zui_ne _ _ _ (by decide), WQ_63 j2]
          · rw [zui_self, pk_us]
            rfl
          · intro x hx
            have hx2 : x < mN δ + 1 := hx
            rw [zui_ne _ _ _ (by decide), zui_self]
            show upd (WQ I q.2 66) (mN δ) (nI q.1) x = nI (if x = mN δ then q.1 else mK δ x)
            by_cases c : x = mN δ
            · rw [c, pk_us, if_pos rfl]
            · rw [pk_un c, if_neg c, WQ_ne (by decide)]
              exact hD.2.1 x (by omega)
          · rw [zui_ne _ _ _ (by decide), zui_ne _ _ _ (by decide), WQ_ne (by decide)]
            exact hD.2.2.1
          · rw [zui_ne _ _ _ (by decide), zui_ne _ _ _ (by decide), WQ_ne (by decide)]
            exact hD.2.2.2.1
          · rw [zui_ne _ _ _ (by decide), zui_ne _ _ _ (by decide), WQ_ne (by decide)]
            exact hD.2.2.2.2.1
          · rw [zui_ne _ _ _ (by decide), zui_ne _ _ _ (by decide), WQ_ne (by decide)]
            exact hD.2.2.2.2.2.1
          · rw [zui_ne _ _ _ (by decide), zui_ne _ _ _ (by decide), WQ_ne (by decide)]
            exact hD.2.2.2.2.2.2
          · rw [zui_self, pk_un (by decide), zui_ne _ _ _ (by decide), WQ_14]
        · rw [if_neg (fun z => c6 z.1), if_pos (show nI (mN δ) = 6 by rw [show mN δ = 6 by omega]; rfl)]
          exact ⟨_, rfl, WQ_fr _⟩
    · rw [if_neg c99]
      by_cases c111 : tx p = 111
      · rw [itm_o (by rw [el]; exact c111), if_pos c111]
        obtain ⟨s, s0, s1⟩ := d_num (a := I 63 4 - 1) (e := 44) (H := mN δ) h (p := p + 1) (by omega) hat (by decide) (by decide) (by rw [hD.1]; exact hi_N h6)
        have s0' : x_D_number I (I 63 4 - 1) 44 = some (nv (mN δ) (num tx n (p + 1) 44), WQ I s) := s0
        rw [s0', Option.bind_some]
        dsimp only
        rcases nv_cases (mN δ) (num tx n (p + 1) 44) with ⟨e1, e2⟩ | ⟨q1, e1, e2, e3⟩
        · rw [e1, if_neg n1]
          cases e : num tx n (p + 1) 44 with
          | none => exact ⟨_, rfl, WQ_fr s⟩
          | some q =>
            dsimp only
            rw [if_neg (e2 q e)]
            exact ⟨_, rfl, WQ_fr s⟩
        · have hq1 := num_le e1 (by decide)
          rw [e3, if_pos (p1 _ hq1.1), e1, s1 q1 e1]
          dsimp only
          rw [if_pos e2]
          have a4 : WQ I q1.2 63 4 = nI (mN δ) := (WQ_63 (by decide)).trans hD.1
          obtain ⟨t, t0, t1⟩ := d_num (a := WQ I q1.2 63 4 - 1) (e := 44) (H := mN δ) (WQ_TD h q1.2) (p := q1.2) (by omega) WQ_14 (by decide) (by decide) (by rw [a4]; exact hi_N h6)
          have t0' : x_D_number (WQ I q1.2) (WQ I q1.2 63 4 - 1) 44 = some (nv (mN δ) (num tx n q1.2 44), WQ (WQ I q1.2) t) := t0
          have ww : ∀ a b, WQ (WQ I a) b = WQ I b := fun a b => WQ_at
          rw [t0', Option.bind_some, ww]
          dsimp only
          rcases nv_cases (mN δ) (num tx n q1.2 44) with ⟨g1, g2⟩ | ⟨q2, g1, g2, g3⟩
          · rw [g1, if_neg n1]
            cases e : num tx n q1.2 44 with
            | none => exact ⟨_, rfl, WQ_fr t⟩
            | some q =>
              dsimp only
              rw [if_neg (g2 q e)]
              exact ⟨_, rfl, WQ_fr t⟩
          · have hq2 := num_le g1 (by decide)
            rw [g3, if_pos (p1 _ hq2.1), g1, t1 q2 g1]
            dsimp only
            rw [if_pos g2]
            obtain ⟨u, u0, u1⟩ := d_num (a := 6) (e := 59) (H := 7) (WQ_TD h q2.2) (p := q2.2) (by omega) WQ_14 (by decide) (by decide) (hi_L (b := 6) (by decide))
            have u0' : x_D_number (WQ I q2.2) 6 59 = some (nv 7 (num tx n q2.2 59), WQ (WQ I q2.2) u) := u0
            rw [u0', Option.bind_some, ww]
            dsimp only
            rcases nv_cases 7 (num tx n q2.2 59) with ⟨m1, m2⟩ | ⟨q3, m1, m2, m3⟩
            · rw [m1, if_pos n2]
              cases e : num tx n q2.2 59 with
              | none => exact ⟨_, rfl, WQ_fr u⟩
              | some q =>
                dsimp only
                rw [if_neg (m2 q e)]
                exact ⟨_, rfl, WQ_fr u⟩
            · have hq3 := num_le m1 (by decide)
              rw [m3, if_neg (p2 _ hq3.1), m1, u1 q3 m1]
              dsimp only
              rw [if_pos m2]
              by_cases c4 : q1.1 = q2.1
              · rw [if_pos c4, if_pos (by rw [c4])]
                exact ⟨_, rfl, WQ_fr _⟩
              · rw [if_neg c4, if_neg (fun z => c4 ((neq (by omega) (by omega)).mp z))]
                have ec : (6 : Int32) + 6 * nI q1.1 + nI q2.1 = nI (6 + 6 * q1.1 + q2.1) := by rw [show (6 : Int32) = nI 6 from rfl, pk_mul, nI_add, nI_add]
                rw [x_D_wordOf, ec, if_pos (nzin (k := 6 + 6 * q1.1 + q2.1) (N := 45) (by omega) (by decide)), ncl (by omega), Option.bind_some]
                obtain ⟨f1, f2, f3, f4, f5⟩ := put67 (I := I) (s := q3.2) (x := 6 + 6 * q1.1 + q2.1) (v := nI q3.1)
                refine ⟨zui (WQ I q3.2) 67 (6 + 6 * q1.1 + q2.1) (nI q3.1), rfl, f1, ⟨?_, ?_, ?_, ?_, ?_, ?_, ?_⟩, f2⟩
                · rw [f3]
                  exact hD.1
                · rw [f4]
                  exact hD.2.1
                · intro x hx
                  rw [f5, pk_un (by omega)]
                  exact hD.2.2.1 x hx
                · intro i j hi hj
                  rw [f5]
                  show upd (I 67) (6 + 6 * q1.1 + q2.1) (nI q3.1) (6 + 6 * i + j) = nI (if i = q1.1 ∧ j = q2.1 then q3.1 else mT δ i j)
                  by_cases c : i = q1.1 ∧ j = q2.1
                  · rw [if_pos c, c.1, c.2, pk_us]
                  · rw [if_neg c, pk_un (by omega)]
                    exact hD.2.2.2.1 i j hi hj
                · rw [f5, pk_un (by omega)]
                  exact hD.2.2.2.2.1
                · rw [f5, pk_un (by omega)]
                  exact hD.2.2.2.2.2.1
                · rw [f5, pk_un (by omega)]
                  exact hD.2.2.2.2.2.2
      · rw [if_neg c111]
        by_cases c115 : tx p = 115
        · have ei : itm tx n δ p = (match num tx n (p + 1) 59 with
            | none => none
            | some q => if q.1 ≤ 9 then some (setS δ q.1, q.2) else none) := by
            rw [itm, el, if_neg c111]
            simp only [if_neg c97, if_neg c99, if_pos c115]
            cases num tx n (p + 1) 59 <;> rfl
          rw [ei, if_pos c115]
          obtain ⟨s, s0, s1⟩ := d_num (a := 9) (e := 59) (H := 10) h (p := p + 1) (by omega) hat (by decide) (by decide) (hi_L (b := 9) (by decide))
          have s0' : x_D_number I 9 59 = some (nv 10 (num tx n (p + 1) 59), WQ I s) := s0
          rw [s0', Option.bind_some]
          dsimp only
          rcases nv_cases 10 (num tx n (p + 1) 59) with ⟨e1, e2⟩ | ⟨q, e1, e2, e3⟩
          · rw [e1, if_pos n2]
            have : (match num tx n (p + 1) 59 with
              | none => none
              | some q => if q.1 ≤ 9 then some (setS δ q.1, q.2) else none) = none := by
              cases e : num tx n (p + 1) 59 with
              | none => rfl
              | some q => exact if_neg (fun z => by have := e2 q e; omega)
            rw [this]
            exact ⟨_, rfl, put67.1⟩
          · have hq := num_le e1 (by decide)
            rw [e3, if_neg (p2 _ hq.1), e1, s1 q e1]
            dsimp only
            rw [if_pos (by omega)]
            obtain ⟨f1, f2, f3, f4, f5⟩ := put67 (I := I) (s := q.2) (x := 43) (v := nI q.1)
            refine ⟨_, rfl, f1, ⟨?_, ?_, ?_, ?_, ?_, ?_, ?_⟩, f2⟩
            · rw [f3]
              exact hD.1
            · rw [f4]
              exact hD.2.1
            · intro x hx
              rw [f5, pk_un (by omega)]
              exact hD.2.2.1 x hx
            · intro i j hi hj
              rw [f5, pk_un (by omega)]
              exact hD.2.2.2.1 i j hi hj
            · rw [f5, pk_un (by decide)]
              exact hD.2.2.2.2.1
            · rw [f5, pk_us]
              rfl
            · rw [f5, pk_un (by decide)]
              exact hD.2.2.2.2.2.2
        · rw [if_neg c115]
          have ei : itm tx n δ p = none := by
            rw [itm, el, if_neg c111]
            simp only [if_neg c97, if_neg c99, if_neg c115]
            cases num tx n (p + 1) 59 <;> rfl
          rw [ei]
          exact ⟨I, rfl, ⟨fun _ _ _ _ => rfl, fun _ _ _ => rfl⟩⟩
theorem l_reads : ∀ (f fuel p : Nat) (δ : MS) (I : Nat → Nat → Int32), f ≤ fuel → n < p + f → p ≤ n → TD I n tx → I 63 14 = nI p → DD I δ → dWF δ → ∃ J, l_D_readsAll_9 fuel I = some (ov (rall tx n f δ p).1, J) ∧ FrD I J ∧ ((rall tx n f δ p).1 = none → DD J (rall tx n f δ p).2)
  | 0, fuel, p, δ, I, _, h1, h2, _, _, _, _ => by omega
  | f + 1, fuel + 1, p, δ, I, hf, h1, h2, hT, hat, hD, hw => by
    have h200 := hT.2.1
    rw [l_D_readsAll_9, hT.1, hat, rall]
    by_cases c : n ≤ p
    · rw [if_pos c, if_pos ((nle (by omega) (by omega)).mpr c)]
      exact ⟨I, rfl, ⟨fun _ _ _ _ => rfl, fun _ _ _ => rfl⟩, fun _ => hD⟩
    · have hp : p < n := by omega
      rw [if_neg c, if_neg (fun z => c ((nle (by omega) (by omega)).mp z)), if_pos (nzin (k := p) (N := 200) (by omega) (by decide)), ncl (by omega), (hT.2.2 p hp).1, show nI p + 1 = nI (p + 1) from nI_add p 1]
      have t := x_item_d (WQ_TD hT (p + 1)) hp WQ_14 (WQ_DD hD (p + 1)) hw
      have eW : zui I 63 14 (nI (p + 1)) = WQ I (p + 1) := rfl
      rw [eW]
      cases e : itm tx n δ p with
      | none =>
        rw [e] at t
        obtain ⟨J, j0, j1⟩ := t
        rw [j0, Option.bind_some]
        dsimp only
        rw [if_pos rfl]
        exact ⟨J, rfl, (WQ_fr (p + 1)).trans j1, fun z => by cases z⟩
      | some w =>
        rw [e] at t
        obtain ⟨J, j0, j1, j2, j3⟩ := t
        obtain ⟨w1, w2, w3⟩ := itm_wf hw e
        have fJ := (WQ_fr (I := I) (p + 1)).trans j1
        have hTJ : TD J n tx := ⟨(fJ.2 1 (by decide) (by decide)).trans hT.1, hT.2.1, by rw [fJ.1 64 (by decide) (by decide) (by decide)]; exact hT.2.2⟩
        obtain ⟨K, k0, k1, k2⟩ := l_reads f fuel w.2 w.1 J (by omega) (by omega) w3 hTJ j3 j2 w1
        rw [j0, Option.bind_some]
        dsimp only
        rw [if_neg (by decide)]
        exact ⟨K, k0, fJ.trans k1, k2⟩
def bgn (j : Nat) : Int32 := if j < 6 then nI j else if j < 42 then 3 else 0
theorem l_begins : ∀ (d i fuel : Nat) (I : Nat → Nat → Int32), i + d = 45 → d < fuel → l_D_begins_7 fuel I (nI i) = some (0, zui (zrow I 67 (fun j => if i ≤ j ∧ j < 45 then bgn j else I 67 j)) 67 43 4)
  | 0, i, fuel + 1, I, hi, _ => by
    have e : (fun j => if i ≤ j ∧ j < 45 then bgn j else I 67 j) = I 67 := funext fun j => if_neg (by omega)
    have e2 : zrow I 67 (I 67) = I := by
      funext x
      by_cases h : x = 67
      · rw [h, zrow_self]
      · rw [zrow_ne _ _ h]
    rw [l_D_begins_7, if_pos (show (45 : Int32) ≤ nI i from (nle (a := 45) (by omega) (by omega)).mpr (by omega)), e, e2]
  | d + 1, i, fuel + 1, I, hi, hf => by
    have zi : zinb (nI i) 45 = true := nzin (by omega) (by decide)
    have ih := fun v => l_begins d (i + 1) fuel (zui I 67 i v) (by omega) (by omega)
    have st : l_D_begins_7 (fuel + 1) I (nI i) = l_D_begins_7 fuel (zui I 67 i (bgn i)) (nI (i + 1)) := by
      rw [l_D_begins_7, if_neg (show ¬ (45 : Int32) ≤ nI i from fun z => by have := (nle (a := 45) (by omega) (by omega)).mp z; omega), if_pos zi, if_pos zi, if_pos zi, ncl (by omega), show nI i + 1 = nI (i + 1) from nI_add i 1, bgn]
      by_cases c6 : i < 6
      · rw [if_neg (show ¬ (6 : Int32) ≤ nI i from fun z => by have := (nle (a := 6) (by omega) (by omega)).mp z; omega), if_pos c6]
      · rw [if_pos (show (6 : Int32) ≤ nI i from (nle (a := 6) (by omega) (by omega)).mpr (by omega)), if_neg c6]
        by_cases c42 : i < 42
        · rw [if_neg (show ¬ (42 : Int32) ≤ nI i from fun z => by have := (nle (a := 42) (by omega) (by omega)).mp z; omega), if_pos c42]
        · rw [if_pos (show (42 : Int32) ≤ nI i from (nle (a := 42) (by omega) (by omega)).mpr (by omega)), if_neg c42]
    rw [st, ih, zrow_zui, zui_self]
    have e : (fun j => if i + 1 ≤ j ∧ j < 45 then bgn j else upd (I 67) i (bgn i) j) = fun j => if i ≤ j ∧ j < 45 then bgn j else I 67 j := by
      funext j
      by_cases hj : j = i
      · rw [hj, if_neg (by omega), if_pos (by omega), pk_us]
      · rw [pk_un hj]
        by_cases hj2 : i ≤ j ∧ j < 45
        · rw [if_pos hj2, if_pos (by omega)]
        · rw [if_neg hj2, if_neg (by omega)]
    rw [e]
theorem x_begins (I : Nat → Nat → Int32) : ∃ J, x_D_begins I = some (0, J) ∧ (∀ a, a ≠ 63 → a ≠ 67 → J a = I a) ∧ (∀ j, j ≠ 4 → J 63 j = I 63 j) ∧ DD J ds0 := by
  have h := l_begins 45 0 1000 (zui I 63 4 0) (by omega) (by omega)
  rw [nI_0] at h
  have e67 : ∀ j, j < 45 → j ≠ 43 → (zui (zrow (zui I 63 4 0) 67 (fun j => if 0 ≤ j ∧ j < 45 then bgn j else (zui I 63 4 0) 67 j)) 67 43 4) 67 j = bgn j := fun j h1 h2 => by
    rw [zui_self, pk_un h2, zrow_self]
    exact if_pos ⟨Nat.zero_le j, h1⟩
  refine ⟨_, by rw [x_D_begins, h], fun a a1 a2 => ?_, fun j hj => ?_, ⟨?_, fun k hk => absurd hk (Nat.not_lt_zero k), ?_, ?_, ?_, ?_, ?_⟩⟩
  · rw [zui_ne _ _ _ a2, zrow_ne _ _ a2, zui_ne _ _ _ a1]
  · rw [zui_ne _ _ _ (by decide), zrow_ne _ _ (by decide), zui_self, pk_un hj]
  · rw [zui_ne _ _ _ (by decide), zrow_ne _ _ (by decide), zui_self, pk_us]
    rfl
  · intro p hp
    rw [e67 p (by omega) (by omega), bgn, if_pos hp]
  · intro i j hi hj
    rw [e67 _ (by omega) (by omega), bgn, if_neg (by omega), if_pos (by omega)]
    rfl
  · rw [e67 42 (by decide) (by decide)]
    rfl
  · rw [zui_self, pk_us]
    rfl
  · rw [e67 44 (by decide) (by decide)]
    rfl
theorem x_reads (h : TD I n tx) : ∃ J, x_D_readsAll I = some (ov (rall tx n 201 ds0 0).1, J) ∧ FrD I J ∧ ((rall tx n 201 ds0 0).1 = none → DD J (rall tx n 201 ds0 0).2) := by
  have h200 := h.2.1
  obtain ⟨B, b0, b1, b2, b3⟩ := x_begins I
  have hTB : TD (WQ B 0) n tx := WQ_TD ⟨(b2 1 (by decide)).trans h.1, h.2.1, by rw [b1 64 (by decide) (by decide)]; exact h.2.2⟩ 0
  obtain ⟨J, j0, j1, j2⟩ := l_reads 201 1000 0 ds0 (WQ B 0) (by omega) (by omega) (Nat.zero_le n) hTB WQ_14 (WQ_DD b3 0) ds0_wf
  have fB : FrD I (WQ B 0) := ⟨fun a a1 _ a3 => (WQ_ne a1).trans (b1 a a1 a3), fun j y1 y2 => (WQ_63 y2).trans (b2 j y1)⟩
  refine ⟨J, ?_, fB.trans j1, j2⟩
  rw [x_D_readsAll, b0, Option.bind_some]
  exact j0
end PReads
