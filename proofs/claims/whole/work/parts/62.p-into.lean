/-! THE PURE PART: a text is read, in the class and in the reference -/
def rall (tx : Nat → Nat) (n : Nat) : Nat → MS → Nat → Option Nat × MS
  | 0, δ, _ => (none, δ)
  | f + 1, δ, p => if n ≤ p then (none, δ) else (match itm tx n δ p with
    | none => (some p, δ)
    | some w => rall tx n f w.1 w.2)
def ds0 : MS := (0, fun _ => 0, fun k => k, fun _ _ => 3, 0, 4, 0)
theorem ds0_wf : dWF ds0 := ⟨by decide, fun k hk => absurd hk (Nat.not_lt_zero k), fun _ => rfl, fun _ _ _ _ => by show 3 ≤ 6; decide, by decide, by decide, rfl⟩
theorem rall_wf {tx : Nat → Nat} {n : Nat} : ∀ (f : Nat) (δ : MS) (p : Nat), dWF δ → dWF (rall tx n f δ p).2
  | 0, _, _, h => h
  | f + 1, δ, p, h => by
    rw [rall]
    split
    · exact h
    · cases e : itm tx n δ p with
      | none => exact h
      | some w => exact rall_wf f w.1 w.2 (itm_wf h e).1
section PInto
variable {n : Nat} {tx : Nat → Nat} {m mk ml mt : Nat}
theorem l_into (hm : mDi m mk ml mt) : ∀ (f items fuel p : Nat) (δ : MS) (I : Nat → Nat → Int32), items + f = 201 → items ≤ p → p ≤ n → f ≤ fuel → TC I n tx → I 1 3 = nI p → DC I m mk ml mt δ → dWF δ → ∃ J, l_S_readInto_11 m mk ml mt fuel I (nI items) = some (ov (rall tx n f δ p).1, J) ∧ FrM m mk ml mt I J ∧ ((rall tx n f δ p).1 = none → DC J m mk ml mt (rall tx n f δ p).2)
  | 0, items, fuel, p, δ, I, h1, h2, h3, _, hT, _, _, _ => by
    have := hT.2.1
    omega
  | f + 1, items, fuel + 1, p, δ, I, h1, h2, h3, h4, hT, hat, hD, hw => by
    have h200 := hT.2.1
    rw [l_S_readInto_11, hT.1, hat, rall]
    by_cases c : n ≤ p
    · rw [if_pos c, if_pos ((nle (by omega) (by omega)).mpr c), ite_self]
      exact ⟨I, rfl, ⟨fun _ _ _ _ _ _ _ => rfl, fun _ _ => rfl⟩, fun _ => hD⟩
    · rw [if_neg c, if_neg (show ¬ (200 : Int32) ≤ nI items from fun z => by have := (nle (a := 200) (by omega) (by omega)).mp z; omega), if_neg (fun z => c ((nle (by omega) (by omega)).mp z))]
      have t := x_item_c hm hT (p := p) (by omega) hat hD hw
      cases e : itm tx n δ p with
      | none =>
        rw [e] at t
        obtain ⟨J, j0, j1⟩ := t
        rw [j0, Option.bind_some]
        dsimp only
        rw [if_pos rfl]
        exact ⟨J, rfl, j1, fun z => by cases z⟩
      | some w =>
        rw [e] at t
        obtain ⟨J, j0, j1, j2, j3⟩ := t
        obtain ⟨w1, w2, w3⟩ := itm_wf hw e
        have m1 := hm.1
        have hTJ : TC J n tx := ⟨(j1.2 2 (by decide)).trans hT.1, hT.2.1, by rw [j1.1 2 (by decide) (by decide) (by omega) (by omega) (by omega) (by omega)]; exact hT.2.2⟩
        obtain ⟨K, k0, k1, k2⟩ := l_into hm f (items + 1) fuel w.2 w.1 J (by omega) (by omega) w3 (by omega) hTJ j3 j2 w1
        rw [j0, Option.bind_some]
        dsimp only
        rw [if_neg (by decide), show nI items + 1 = nI (items + 1) from nI_add items 1]
        exact ⟨K, k0, j1.trans k1, k2⟩
theorem l_fill36 (a : Nat) (v : Int32) : ∀ (d i fuel : Nat) (I : Nat → Nat → Int32), i + d = 36 → d < fuel → l_A_fill36_5 a fuel I v (nI i) (Int32.ofNat 36) = some (0, zrow I a (fun j => if i ≤ j ∧ j < 36 then v else I a j))
  | 0, i, fuel + 1, I, hi, _ => by
    have e : (fun j => if i ≤ j ∧ j < 36 then v else I a j) = I a := funext fun j => if_neg (by omega)
    have e2 : zrow I a (I a) = I := by
      funext x
      by_cases h : x = a
      · rw [h, zrow_self]
      · rw [zrow_ne _ _ h]
    rw [l_A_fill36_5, if_pos (show Int32.ofNat 36 ≤ nI i from (nle (a := 36) (by omega) (by omega)).mpr (by omega)), e, e2]
  | d + 1, i, fuel + 1, I, hi, hf => by
    rw [l_A_fill36_5, if_neg (show ¬ Int32.ofNat 36 ≤ nI i from fun z => by have := (nle (a := 36) (by omega) (by omega)).mp z; omega), if_pos (nzin (by omega) (by decide)), ncl (by omega), show nI i + 1 = nI (i + 1) from nI_add i 1, l_fill36 a v d (i + 1) fuel (zui I a i v) (by omega) (by omega), zrow_zui, zui_self]
    have e : (fun j => if i + 1 ≤ j ∧ j < 36 then v else upd (I a) i v j) = fun j => if i ≤ j ∧ j < 36 then v else I a j := by
      funext j
      by_cases hj : j = i
      · rw [hj, if_neg (by omega), if_pos (by omega), pk_us]
      · rw [pk_un hj]
        by_cases hj2 : i ≤ j ∧ j < 36
        · rw [if_pos hj2, if_pos (by omega)]
        · rw [if_neg hj2, if_neg (by omega)]
    rw [e]
theorem x_into {I : Nat → Nat → Int32} (hm : mDi m mk ml mt) (hT : TC I n tx) : ∃ J, x_S_readInto m mk ml mt I = some (ov (rall tx n 201 ds0 0).1, J) ∧ FrM m mk ml mt I J ∧ ((rall tx n 201 ds0 0).1 = none → DC J m mk ml mt (rall tx n 201 ds0 0).2) := by
  obtain ⟨m1, m2⟩ := hm
  have h := l_fill36 mt 3 36 0 1000 (zui (zui (zui (zui I m 3 0) m 4 0) m 5 4) m 6 0) (by omega) (by omega)
  rw [nI_0] at h
  have fX : ∀ a, a ≠ m → (zui (zui (zui (zui I m 3 0) m 4 0) m 5 4) m 6 0) a = I a := fun a ha => by rw [zui_ne _ _ _ ha, zui_ne _ _ _ ha, zui_ne _ _ _ ha, zui_ne _ _ _ ha]
  have e3 : (zui (zui (zui (zui I m 3 0) m 4 0) m 5 4) m 6 0) m 3 = 0 := by rw [zui_self, pk_un (by decide), zui_self, pk_un (by decide), zui_self, pk_un (by decide), zui_self, pk_us]
  have e4 : (zui (zui (zui (zui I m 3 0) m 4 0) m 5 4) m 6 0) m 4 = 0 := by rw [zui_self, pk_un (by decide), zui_self, pk_un (by decide), zui_self, pk_us]
  have e5 : (zui (zui (zui (zui I m 3 0) m 4 0) m 5 4) m 6 0) m 5 = 4 := by rw [zui_self, pk_un (by decide), zui_self, pk_us]
  have e6 : (zui (zui (zui (zui I m 3 0) m 4 0) m 5 4) m 6 0) m 6 = 0 := by rw [zui_self, pk_us]
  generalize hX : zui (zui (zui (zui I m 3 0) m 4 0) m 5 4) m 6 0 = X at h fX e3 e4 e5 e6
  generalize hY : zrow X mt (fun j => if 0 ≤ j ∧ j < 36 then 3 else X mt j) = Y at h
  have fY : ∀ a, a ≠ mt → Y a = X a := fun a ha => by rw [← hY, zrow_ne _ _ ha]
  have yt : ∀ j, j < 36 → Y mt j = 3 := fun j hj => by
    rw [← hY, zrow_self]
    exact if_pos ⟨Nat.zero_le j, hj⟩
  have hc : x_M_clear m mk ml mt I = some (0, Y) := by
    rw [x_M_clear, hX, x_A_fill36, h, Option.bind_some]
  have fZ : ∀ a, a ≠ 1 → (zui Y 1 3 0) a = Y a := fun a ha => zui_ne _ _ _ ha
  have hTZ : TC (zui Y 1 3 0) n tx := ⟨by rw [zui_self, pk_un (by decide), fY 1 (by omega), fX 1 (by omega)]; exact hT.1, hT.2.1, by rw [fZ 2 (by decide), fY 2 (by omega), fX 2 (by omega)]; exact hT.2.2⟩
  have hDZ : DC (zui Y 1 3 0) m mk ml mt ds0 := by
    refine ⟨?_, fun k hk => absurd hk (Nat.not_lt_zero k), fun k hk => absurd hk (Nat.not_lt_zero k), ?_, ?_, ?_, ?_⟩
    · rw [fZ m (by omega), fY m m2.2.2.1.symm, e3]
      rfl
    · intro i j hi hj
      rw [fZ mt (by omega), yt _ (by omega)]
      rfl
    · rw [fZ m (by omega), fY m m2.2.2.1.symm, e4]
      rfl
    · rw [fZ m (by omega), fY m m2.2.2.1.symm, e5]
      rfl
    · rw [fZ m (by omega), fY m m2.2.2.1.symm, e6]
  obtain ⟨J, j0, j1, j2⟩ := l_into ⟨m1, m2⟩ 201 0 1000 0 ds0 (zui Y 1 3 0) (by omega) (by omega) (Nat.zero_le n) (by omega) hTZ (by rw [zui_self, pk_us]; rfl) hDZ ds0_wf
  rw [nI_0] at j0
  refine ⟨J, ?_, ⟨fun a a1 a2 a3 a4 a5 a6 => ?_, fun j hj => ?_⟩, j2⟩
  · rw [x_S_readInto, hc, Option.bind_some]
    exact j0
  · rw [j1.1 a a1 a2 a3 a4 a5 a6, fZ a a1, fY a a6, fX a a3]
  · rw [j1.2 j hj, zui_self, pk_un hj, fY 1 (by omega), fX 1 (by omega)]
end PInto
/-! the reference -/
def TD (I : Nat → Nat → Int32) (n : Nat) (tx : Nat → Nat) : Prop := I 63 1 = nI n ∧ n ≤ 200 ∧ ∀ k, k < n → I 64 k = nI (tx k) ∧ 32 ≤ tx k ∧ tx k ≤ 126
def lvd (tx : Nat → Nat) (n p : Nat) : Int32 := if p < n then nI (tx p) else -1
section PNum
variable {I : Nat → Nat → Int32} {n : Nat} {tx : Nat → Nat}
theorem letter_d (h : TD I n tx) {p : Nat} (hp : p < 1000) : x_D_letterAt I (nI p) = some (lvd tx n p, I) := by
  have h2 := h.2.1
  rw [x_D_letterAt, h.1, lvd]
  by_cases c : p < n
  · rw [if_neg (fun z => by have := (nle (by omega) (by omega)).mp z; omega), if_pos (nzin (k := p) (N := 200) (by omega) (by decide)), ncl (by omega), if_pos c, (h.2.2 p c).1]
  · rw [if_pos ((nle (by omega) (by omega)).mpr (by omega)), if_neg c]
theorem fig_d (h : TD I n tx) (J : Nat → Nat → Int32) (p : Nat) : (fgr (lt0 tx n p) = none ∧ f_D_isFigure J (lvd tx n p) = 0) ∨ ∃ a, fgr (lt0 tx n p) = some a ∧ f_D_isFigure J (lvd tx n p) = 1 ∧ lvd tx n p = nI (a + 48) := by
  rw [f_D_isFigure, f_D_in, lvd, lt0]
  by_cases c : p < n
  · have ht := (h.2.2 p c).2
    rw [if_pos c, if_pos c]
    generalize tx p = t at ht
    unfold fgr
    by_cases c1 : t < 48
    · rw [if_pos (show nI t < 48 from (nlt (b := 48) (by omega) (by omega)).mpr c1), if_neg (by omega)]
      exact Or.inl ⟨rfl, rfl⟩
    · rw [if_neg (show ¬ nI t < 48 from fun z => c1 ((nlt (b := 48) (by omega) (by omega)).mp z))]
      by_cases c2 : 57 < t
      · rw [if_pos (show (57 : Int32) < nI t from (nlt (a := 57) (by omega) (by omega)).mpr c2), if_neg (by omega)]
        exact Or.inl ⟨rfl, rfl⟩
      · rw [if_neg (show ¬ (57 : Int32) < nI t from fun z => c2 ((nlt (a := 57) (by omega) (by omega)).mp z)), if_pos (by omega)]
        exact Or.inr ⟨t - 48, rfl, rfl, by rw [show t - 48 + 48 = t by omega]⟩
  · rw [if_neg c, if_neg c, if_pos (by decide)]
    exact Or.inl ⟨rfl, rfl⟩
theorem end_d (h : TD I n tx) {p e : Nat} (he : e ≠ 0) (he2 : e ≤ 126) : lvd tx n p = nI e ↔ lt0 tx n p = e := by
  rw [lvd, lt0]
  by_cases c : p < n
  · have ht := (h.2.2 p c).2
    rw [if_pos c, if_pos c]
    exact neq (by omega) (by omega)
  · rw [if_neg c, if_neg c]
    constructor
    · intro z
      have h3 := nneg (a := e) (by omega)
      rw [← z] at h3
      exact absurd (by decide) h3
    · intro z
      exact absurd z.symm he
def WQ (I : Nat → Nat → Int32) (p : Nat) : Nat → Nat → Int32 := zui I 63 14 (nI p)
theorem WQ_14 {p : Nat} : WQ I p 63 14 = nI p := by rw [WQ, zui_self, pk_us]
theorem WQ_63 {p j : Nat} (h : j ≠ 14) : WQ I p 63 j = I 63 j := by rw [WQ, zui_self, pk_un h]
theorem WQ_ne {p a : Nat} (h : a ≠ 63) : WQ I p a = I a := zui_ne _ _ _ h
theorem WQ_at {p s : Nat} : zui (WQ I p) 63 14 (nI s) = WQ I s := zui_zui _ _ _ _ _
theorem WQ_TD (h : TD I n tx) (p : Nat) : TD (WQ I p) n tx := ⟨(WQ_63 (by decide)).trans h.1, h.2.1, by rw [WQ_ne (by decide)]; exact h.2.2⟩
theorem WQ_self {p : Nat} (h : I 63 14 = nI p) : WQ I p = I := zui_same h
def nv (H : Nat) (o : Option (Nat × Nat)) : Int32 := match o with
  | none => -1
  | some q => if q.1 < H then nI q.1 else -1
theorem d_num (h : TD I n tx) {p e H : Nat} {a : Int32} (hp : p < 300) (hat : I 63 14 = nI p) (he : e ≠ 0) (he2 : e ≤ 126) (ha : ∀ v, v ≤ 99 → (a < nI v ↔ ¬ v < H)) : ∃ s, x_D_number I a (nI e) = some (nv H (num tx n p e), WQ I s) ∧ ∀ q, num tx n p e = some q → s = q.2 := by
  have z1 : ¬ (1 : Int32) = 0 := by decide
  have e1 : nI p + 1 = nI (p + 1) := nI_add p 1
  have l0 := letter_d h (p := p) (by omega)
  have l1 := letter_d (WQ_TD h (p + 1)) (p := p + 1) (by omega)
  have l2 := letter_d (WQ_TD h (p + 1 + 1)) (p := p + 1 + 1) (by omega)
  have eW : zui I 63 14 (nI (p + 1)) = WQ I (p + 1) := rfl
  have i0 := hat
  rw [x_D_number, hat, l0, Option.bind_some]
  dsimp only
  unfold num rdn
  rcases fig_d h I p with ⟨f1, f2⟩ | ⟨x, f1, f2, f3⟩
  · rw [f2, if_pos rfl, f1]
    exact ⟨p, by rw [WQ_self hat]; rfl, fun q y => by cases y⟩
  · have hx := fgr_le f1
    have ex : nI (x + 48) - 48 = nI x := by
      have := pk_sub (a := x + 48) (b := 48) (by omega)
      rw [show x + 48 - 48 = x by omega] at this
      exact this
    rw [f2, if_neg z1, hat, l0, Option.bind_some]
    dsimp only
    rw [hat, e1, eW, l1, Option.bind_some, f1, f3, ex]
    dsimp only
    rcases fig_d h (WQ I (p + 1)) (p + 1) with ⟨g1, g2⟩ | ⟨y, g1, g2, g3⟩
    · rw [g2, if_pos rfl, WQ_14, l1, Option.bind_some, g1]
      dsimp only
      rw [WQ_14, show nI (p + 1) + 1 = nI (p + 1 + 1) from nI_add (p + 1) 1, WQ_at]
      by_cases c : lt0 tx n (p + 1) = e
      · rw [if_pos ((end_d h he he2).mpr c), if_pos c]
        refine ⟨p + 1 + 1, ?_, fun q y => by cases y; rfl⟩
        by_cases d : x < H
        · rw [if_neg (fun y => ((ha x (by omega)).mp y) d)]
          show _ = some ((if x < H then nI x else -1), _)
          rw [if_pos d]
        · rw [if_pos ((ha x (by omega)).mpr d)]
          show _ = some ((if x < H then nI x else -1), _)
          rw [if_neg d]
      · rw [if_neg (fun y => c ((end_d h he he2).mp y)), if_neg c]
        exact ⟨p + 1 + 1, rfl, fun q y => by cases y⟩
    · have hy := fgr_le g1
      have ey : 10 * nI x + nI (y + 48) - 48 = nI (10 * x + y) := by
        have := pk_sub (a := 10 * x + (y + 48)) (b := 48) (by omega)
        rw [show 10 * x + (y + 48) - 48 = 10 * x + y by omega] at this
        rw [show (10 : Int32) = nI 10 from rfl, pk_mul, nI_add]
        exact this
      rw [g2, if_neg z1, WQ_14, l1, Option.bind_some, g1]
      dsimp only
      rw [WQ_14, show nI (p + 1) + 1 = nI (p + 1 + 1) from nI_add (p + 1) 1, WQ_at, l2, Option.bind_some, g3, ey]
      dsimp only
      rw [WQ_14, show nI (p + 1 + 1) + 1 = nI (p + 1 + 1 + 1) from nI_add (p + 1 + 1) 1, WQ_at]
      by_cases c : lt0 tx n (p + 1 + 1) = e
      · rw [if_pos ((end_d h he he2).mpr c), if_pos c]
        refine ⟨p + 1 + 1 + 1, ?_, fun q y => by cases y; rfl⟩
        by_cases d : 10 * x + y < H
        · rw [if_neg (fun y => ((ha _ (by omega)).mp y) d)]
          show _ = some ((if 10 * x + y < H then nI (10 * x + y) else -1), _)
          rw [if_pos d]
        · rw [if_pos ((ha _ (by omega)).mpr d)]
          show _ = some ((if 10 * x + y < H then nI (10 * x + y) else -1), _)
          rw [if_neg d]
      · rw [if_neg (fun y => c ((end_d h he he2).mp y)), if_neg c]
        exact ⟨p + 1 + 1 + 1, rfl, fun q y => by cases y⟩
end PNum
