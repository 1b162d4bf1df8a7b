/-! THE PURE PART: order -/
theorem gr_fst (μ : MS) : ∀ (l : List Nat) (s : Nat), (∀ w ∈ l, w < 6) → (gr μ 6 l s).1.map Prod.fst = l
  | [], _, _ => rfl
  | c :: l, s, h => by
    have hc := h c List.mem_cons_self
    rw [gr, if_neg (show ¬ c = 6 by omega), List.map_cons, gr_fst μ l _ (fun w hw => h w (List.mem_cons_of_mem _ hw))]
theorem gf_mem {c f : Nat} : ∀ (l : List (Nat × Nat)) (F : Nat → Int32), (l.map Prod.fst).Nodup → (c, f) ∈ l → gf l F c = nI f
  | [], _, _, h => by cases h
  | q :: l, F, hd, h => by
    rw [List.map_cons] at hd
    have hd2 := List.nodup_cons.mp hd
    rw [gf]
    rcases List.mem_cons.mp h with z | z
    · rw [← z] at hd2 ⊢
      rw [gf_out l _ hd2.1, pk_us]
    · exact gf_mem l _ hd2.2 z
theorem brn_0 {μ : MS} {L : List Nat} {s : Nat} (hL : Ord μ L) : brn μ 6 L s = 0 ↔ ∀ q ∈ (gr μ 6 L s).1, 2 ≤ q.2 := by
  have hk := gr_fst μ L s hL.2.2.2.1
  have hv : ∀ c f, (c, f) ∈ (gr μ 6 L s).1 → fv μ 6 L s c = f := by
    intro c f h
    have h9 := gr_le μ 6 L s (c, f) h
    have h9' : f ≤ 9 := h9
    have := gf_mem (gr μ 6 L s).1 (fun _ => nI 9) (by rw [hk]; exact hL.2.1) h
    rw [fv, this, ncl (by omega)]
  constructor
  · intro h q hq
    have hm : q.1 ∈ L := by
      rw [← hk]
      exact List.mem_map.mpr ⟨q, hq, rfl⟩
    have hb : (brn μ 6 L s).testBit q.1 = false := by rw [h, Nat.zero_testBit]
    rw [brn, bs_bit, decide_eq_true (hL.2.2.1 q.1 hm), Bool.true_and, isBran, decide_eq_false_iff_not, hv q.1 q.2 hq] at hb
    omega
  · intro h
    refine Nat.eq_of_testBit_eq fun i => ?_
    rw [brn, bs_bit, Nat.zero_testBit]
    have hi : isBran μ 6 L s i = false := by
      by_cases hm : i ∈ L
      · have hm2 : i ∈ (gr μ 6 L s).1.map Prod.fst := by rw [hk]; exact hm
        obtain ⟨q, hq, e⟩ := List.mem_map.mp hm2
        have h2 := h q hq
        have h3 := hv q.1 q.2 hq
        rw [e] at h3
        rw [isBran, h3]
        exact decide_eq_false (by omega)
      · rw [isBran, fv_out μ (fun z => hm z.1)]
        rfl
    rw [hi, Bool.and_false]
/-- the best order so far, and how fine it is by it -/
abbrev OB : Type := Option (Nat × List Nat)
def btr (o : OB) (f : Nat) : Bool := match o with
  | none => true
  | some q => decide (q.1 < f)
def ostep (μ : MS) (c : Nat) (o : OB) (L : List Nat) : OB := if (decide (brn μ 6 L (mS μ) = 0) && btr o (fv μ 6 L (mS μ) c)) = true then some (fv μ 6 L (mS μ) c, L) else o
def o9 (o : OB) : Prop := ∀ q, o = some q → q.1 ≤ 9
theorem ostep_9 {μ : MS} {c : Nat} {o : OB} {L : List Nat} (h : o9 o) : o9 (ostep μ c o L) := by
  unfold ostep
  split
  · intro q hq
    cases hq
    exact fv_le _ _ _ _ _
  · exact h
theorem ofold_9 {μ : MS} {c : Nat} {q : Nat × List Nat} (h : 9 ≤ q.1) : ∀ V : List (List Nat), V.foldl (ostep μ c) (some q) = some q
  | [] => rfl
  | L :: V => by
    have hf := fv_le μ 6 L (mS μ) c
    have e : ostep μ c (some q) L = some q := by
      rw [ostep, if_neg]
      intro z
      rw [Bool.and_eq_true] at z
      have := of_decide_eq_true z.2
      omega
    rw [List.foldl_cons, e]
    exact ofold_9 h V
def cv (o : OB) : Int32 := match o with
  | none => -4
  | some q => nI q.1
def dv (o : OB) : Int32 := match o with
  | none => -1
  | some q => nI q.1
/-- what the row holds -/
def orow (F : Nat → Int32) (n : Nat) (o : OB) : Prop := ∀ q, o = some q → RA F 0 q.2 ∧ q.2.length = n
theorem cv_le {o : OB} {f : Nat} (h : o9 o) (hf : f ≤ 9) : nI f ≤ cv o ↔ btr o f = false := by
  cases o with
  | none =>
    constructor
    · intro z
      exfalso
      have h3 := Int32.le_trans (nI_pos' (n := f) (by omega)) z
      exact absurd (show (0 : Int32) ≤ -4 from h3) (by decide)
    · intro z
      cases z
  | some q =>
    have h2 := h q rfl
    show nI f ≤ nI q.1 ↔ decide (q.1 < f) = false
    rw [nle (by omega) (by omega), decide_eq_false_iff_not]
    omega
theorem dv_le {o : OB} {f : Nat} (h : o9 o) (hf : f ≤ 9) : nI f ≤ dv o ↔ btr o f = false := by
  cases o with
  | none =>
    constructor
    · intro z
      exfalso
      have h3 := Int32.le_trans (nI_pos' (n := f) (by omega)) z
      exact absurd (show (0 : Int32) ≤ -1 from h3) (by decide)
    · intro z
      cases z
  | some q =>
    have h2 := h q rfl
    show nI f ≤ nI q.1 ↔ decide (q.1 < f) = false
    rw [nle (by omega) (by omega), decide_eq_false_iff_not]
    omega
theorem ostep_no {μ : MS} {c : Nat} {o : OB} {L : List Nat} (h : ¬ brn μ 6 L (mS μ) = 0 ∨ btr o (fv μ 6 L (mS μ) c) = false) : ostep μ c o L = o := by
  rw [ostep, if_neg]
  intro z
  rw [Bool.and_eq_true] at z
  rcases h with h | h
  · exact h (of_decide_eq_true z.1)
  · rw [h] at z
    cases z.2
theorem ostep_yes {μ : MS} {c : Nat} {o : OB} {L : List Nat} (h1 : brn μ 6 L (mS μ) = 0) (h2 : btr o (fv μ 6 L (mS μ) c) = true) : ostep μ c o L = some (fv μ 6 L (mS μ) c, L) := by
  rw [ostep, if_pos]
  rw [decide_eq_true h1, h2]
  rfl
theorem l_rowcopy {L : List Nat} : ∀ (d i fuel : Nat) (I : Nat → Nat → Int32), i + d = L.length → L.length ≤ 6 → d < fuel → RA (I 13) 0 L → I 12 2 = nI L.length → ∃ J, l_R_copyRow_2 fuel I (nI i) = some (0, J) ∧ (∀ a, a ≠ 15 → J a = I a) ∧ (∀ k, k < i → J 15 k = I 15 k) ∧ ∀ k, i ≤ k → k < L.length → J 15 k = nI (L.getD k 0)
  | 0, i, fuel + 1, I, hi, h6, _, hr, hs => by
    refine ⟨I, ?_, fun _ _ => rfl, fun _ _ => rfl, fun k h1 h2 => by omega⟩
    rw [l_R_copyRow_2, hs, if_pos ((nle (by omega) (by omega)).mpr (by omega))]
  | d + 1, i, fuel + 1, I, hi, h6, hf, hr, hs => by
    have hw : f_R_whoIn I (nI i) = nI (L.getD i 0) := by
      rw [f_R_whoIn, guard_in (g := fun j => I 13 j) (N := 6) (by omega) (by decide)]
      have := RA.getD i hr (by omega)
      rw [Nat.zero_add] at this
      exact this
    obtain ⟨J, j0, j1, j2, j3⟩ := l_rowcopy d (i + 1) fuel (zui I 15 i (nI (L.getD i 0))) (by omega) h6 (by omega) (by rw [zui_ne _ _ _ (by decide)]; exact hr) (by rw [zui_ne _ _ _ (by decide)]; exact hs)
    refine ⟨J, ?_, fun a ha => (j1 a ha).trans (zui_ne _ _ _ ha), fun k hk => ?_, fun k h1 h2 => ?_⟩
    · rw [l_R_copyRow_2, hs, if_neg (fun z => by have := (nle (by omega) (by omega)).mp z; omega), if_neg (show ¬ Int32.ofNat 6 ≤ nI i from fun z => by have := (nle (a := 6) (by omega) (by omega)).mp z; omega), if_pos (nzin (k := i) (N := 6) (by omega) (by decide)), ncl (by omega), hw, show nI i + 1 = nI (i + 1) from nI_add i 1]
      exact j0
    · rw [j2 k (by omega), zui_self, pk_un (by omega)]
    · by_cases hk : k = i
      · rw [hk, j2 i (by omega), zui_self, pk_us]
      · exact j3 k (by omega) h2
theorem x_rowcopy {L : List Nat} {I : Nat → Nat → Int32} (h6 : L.length ≤ 6) (hr : RA (I 13) 0 L) (hs : I 12 2 = nI L.length) : ∃ J, x_R_copyRow I = some (0, J) ∧ (∀ a, a ≠ 15 → J a = I a) ∧ RA (J 15) 0 L := by
  obtain ⟨J, j0, j1, j2, j3⟩ := l_rowcopy L.length 0 1000 I (by omega) h6 (by omega) hr hs
  rw [nI_0] at j0
  exact ⟨J, by rw [x_R_copyRow]; exact j0, j1, RA_of _ 0 (fun k hk => by rw [Nat.zero_add]; exact j3 k (Nat.zero_le k) hk)⟩
section POrder
variable {μ : MS} {c : Nat}
theorem l_corder (hW : mWF μ) (hc : c < mN μ) (hg : (mG μ).testBit c = false) {n : Nat} : ∀ (fuel : Nat) (r : List (List Nat)) (L : List Nat) (tried : Nat) (I : Nat → Nat → Int32) (o : OB), chain (L :: r) = true → (∀ M ∈ L :: r, Ord μ M) → L.length = n → tried + (r.length + 1) ≤ 720 → r.length + 1 < fuel → RC I 4 5 6 7 μ → RA (I 13) 0 L → I 12 2 = nI n → I 12 3 = -1 → o9 o → orow (I 15) n o → ∃ J, l_G_findFinestRow_19 fuel I (nI c) (cv o) 1 (nI tried) = some (cv ((L :: r).foldl (ostep μ c) o), J) ∧ (∀ a, ¬ (12 ≤ a ∧ a ≤ 15) → J a = I a) ∧ J 12 2 = nI n ∧ orow (J 15) n ((L :: r).foldl (ostep μ c) o)
  | fuel + 1, r, L, tried, I, o, hch, hO, hl, ht, hf, hR, hr, hs, h3, h9, hrow => by
    have h66 := hW.1
    have hL := hO L List.mem_cons_self
    have hn6 : n ≤ 6 := by rw [← hl]; exact hL.1
    have hne : ¬ (720 : Int32) ≤ nI tried := fun z => by have := (nle (a := 720) (by omega) (by omega)).mp z; omega
    rw [l_G_findFinestRow_19, if_neg hne, if_neg (by decide)]
    by_cases b9 : 9 ≤ cv o
    · rw [if_pos b9]
      have e9 : (L :: r).foldl (ostep μ c) o = o := by
        cases o with
        | none => exact absurd b9 (by decide)
        | some q =>
          have h91 := h9 q rfl
          exact ofold_9 ((nle (a := 9) (b := q.1) (by omega) (by omega)).mp b9) _
      rw [e9]
      exact ⟨I, rfl, fun _ _ => rfl, hs, hrow⟩
    · rw [if_neg b9]
      have es : f_M_stoneNow 4 5 6 7 I = nI (mS μ) := hR.2.2.2.2.2.1
      have hcL : c ∈ L := hL.2.2.2.2.1 c hc hg
      have g := x_grind1 (s := mS μ) (g := 6) hR hW mo4 hr (by rw [hl]; exact hs) hL.1 hL.2.2.1 hW.2.2.2.2.2.2 (noGuest h3)
      rw [← brn_0 hL] at g
      -- what follows a grinding
      have next : ∀ (E : Nat → Nat → Int32) (o' : OB), (∀ a, ¬ (12 ≤ a ∧ a ≤ 15) → E a = I a) → E 13 = I 13 → E 12 2 = I 12 2 → E 12 3 = I 12 3 → o' = ostep μ c o L → orow (E 15) n o' → ∃ J, ((x_R_nextOrder E).bind (fun q3 => l_G_findFinestRow_19 fuel q3.2 (nI c) (cv o') q3.1 (nI tried + 1))) = some (cv ((L :: r).foldl (ostep μ c) o), J) ∧ (∀ a, ¬ (12 ≤ a ∧ a ≤ 15) → J a = I a) ∧ J 12 2 = nI n ∧ orow (J 15) n ((L :: r).foldl (ostep μ c) o) := by
        intro E o' f1 f2 f3 f4 eo fo
        have nx := x_next (I := E) (L := L) (by rw [f2]; exact hr) (by rw [f3, hl]; exact hs) hL.1 hL.2.2.2.1
        rw [List.foldl_cons, ← eo, show nI tried + 1 = nI (tried + 1) from nI_add tried 1]
        cases r with
        | nil =>
          have e0 : nxL L = none := of_decide_eq_true hch
          rw [nx.1 e0, Option.bind_some]
          dsimp only
          obtain ⟨f, rfl⟩ : ∃ f, fuel = f + 1 := ⟨fuel - 1, by simp at hf; omega⟩
          refine ⟨E, ?_, f1, f3.trans hs, fo⟩
          rw [l_G_findFinestRow_19, if_pos rfl, ite_self]
          rfl
        | cons M r =>
          have hch2 : (decide (nxL L = some M) && chain (M :: r)) = true := hch
          rw [Bool.and_eq_true] at hch2
          obtain ⟨J, j0, j1, j2, j3⟩ := nx.2 M (of_decide_eq_true hch2.1)
          rw [j0, Option.bind_some]
          dsimp only
          have hl2 : (M :: r).length = r.length + 1 := rfl
          rw [hl2] at ht hf
          obtain ⟨Z, z0, z1, z2, z3⟩ := l_corder hW hc hg (n := n) fuel r M (tried + 1) J o' hch2.2 (fun X hX => hO X (List.mem_cons_of_mem _ hX)) (by rw [j3, hl]) (by omega) (by omega) ((hR.low mo4 (fun a ha => f1 a (by omega))).low mo4 (fun a ha => j1 a (by omega))) j2 (by rw [j1 12 (by decide), f3, hs]) (by rw [j1 12 (by decide), f4, h3]) (by rw [eo]; exact ostep_9 h9) (by rw [j1 15 (by decide)]; exact fo)
          exact ⟨Z, z0, fun a ha => (z1 a ha).trans ((j1 a (by omega)).trans (f1 a ha)), z2, z3⟩
      by_cases hb : brn μ 6 L (mS μ) = 0
      · have g1 := g.1 hb
        rw [es, g1, Option.bind_some]
        dsimp only
        rw [if_neg (by decide)]
        have i13 : (rs I (gr μ 6 L (mS μ)).2 (gf (gr μ 6 L (mS μ)).1 (I 14))) 13 = I 13 := rs_ne (by decide) (by decide)
        have i15 : (rs I (gr μ 6 L (mS μ)).2 (gf (gr μ 6 L (mS μ)).1 (I 14))) 15 = I 15 := rs_ne (by decide) (by decide)
        have i122 : (rs I (gr μ 6 L (mS μ)).2 (gf (gr μ 6 L (mS μ)).1 (I 14))) 12 2 = I 12 2 := rs_12 (by decide)
        have i123 : (rs I (gr μ 6 L (mS μ)).2 (gf (gr μ 6 L (mS μ)).1 (I 14))) 12 3 = I 12 3 := rs_12 (by decide)
        have fr : ∀ a, ¬ (12 ≤ a ∧ a ≤ 15) → (rs I (gr μ 6 L (mS μ)).2 (gf (gr μ 6 L (mS μ)).1 (I 14))) a = I a := fun a ha => rs_ne (by omega) (by omega)
        have hF : f_R_fineOf (rs I (gr μ 6 L (mS μ)).2 (gf (gr μ 6 L (mS μ)).1 (I 14))) (nI c) = nI (fv μ 6 L (mS μ) c) := by
          rw [fineOf_in (by omega), rs_F]
          exact fv_in μ hcL (by omega) _
        generalize hE : rs I (gr μ 6 L (mS μ)).2 (gf (gr μ 6 L (mS μ)).1 (I 14)) = E at i13 i15 i122 i123 fr hF ⊢
        rw [hF]
        by_cases bt : btr o (fv μ 6 L (mS μ) c) = true
        · rw [if_neg (fun z => by rw [(cv_le h9 (fv_le _ _ _ _ _)).mp z] at bt; cases bt)]
          obtain ⟨C, c0, c1, c2⟩ := x_rowcopy (L := L) (I := E) hL.1 (by rw [i13]; exact hr) (by rw [i122, hl]; exact hs)
          rw [c0, Option.bind_some]
          dsimp only
          exact next C (some (fv μ 6 L (mS μ) c, L)) (fun a ha => (c1 a (by omega)).trans (fr a ha)) ((c1 13 (by decide)).trans i13) (by rw [c1 12 (by decide)]; exact i122) (by rw [c1 12 (by decide)]; exact i123) (ostep_yes hb bt).symm (fun q hq => by cases hq; exact ⟨c2, hl⟩)
        · rw [if_pos ((cv_le h9 (fv_le _ _ _ _ _)).mpr (bitf bt))]
          exact next E o fr i13 i122 i123 (ostep_no (Or.inr (bitf bt))).symm (by rw [i15]; exact hrow)
      · obtain ⟨s', F, g2⟩ := g.2 hb
        rw [es, g2, Option.bind_some]
        dsimp only
        rw [if_pos rfl]
        exact next (rs I s' F) o (fun a ha => rs_ne (by omega) (by omega)) (rs_ne (by decide) (by decide)) (rs_12 (by decide)) (rs_12 (by decide)) (ostep_no (Or.inl hb)).symm (by rw [rs_ne (by decide) (by decide)]; exact hrow)
/-- what is asked of the best order -/
def fr6 (k n : Nat) (o : OB) : Int32 := match o with
  | none => -4
  | some q => if k = 0 then nI q.1 else if k ≤ n then nI (q.2.getD (k - 1) 0) else -4
theorem l_dorder (hW : mWF μ) (hc : c < mN μ) (hg : (mG μ).testBit c = false) {n k : Nat} (hk : k ≤ 6) (hn : n = pc6 (thr (mN μ) (mG μ))) : ∀ (d x fuel : Nat) (I : Nat → Nat → Int32) (o : OB), x + d = 6 ^ n → d < fuel → RS (I 68) μ → RK (I 65) μ → I 63 2 = nI (mN μ) → o9 o → ∃ J, l_D_order_49 fuel I (nI c) (nI k) (nI n) (dv o) (fr6 k n o) (nI x) = some (fr6 k n ((fil n (thr (mN μ) (mG μ)) x d).foldl (ostep μ c) o), J) ∧ Day I J
  | 0, x, fuel + 1, I, o, hx, _, hS, hK, h2, h9 => by
    have hn6 : n ≤ 6 := by rw [hn]; exact pc6_le _
    have h6 := six_le hn6
    refine ⟨I, ?_, Day.refl I⟩
    rw [l_D_order_49, x_codes hn6, Option.bind_some]
    dsimp only
    rw [if_pos ((nle (by omega) (by omega)).mpr (by omega))]
    rfl
  | d + 1, x, fuel + 1, I, o, hx, hf, hS, hK, h2, h9 => by
    have h66 := hW.1
    have hn6 : n ≤ 6 := by rw [hn]; exact pc6_le _
    have h6 := six_le hn6
    obtain ⟨J, j0, j1⟩ := x_orders (n := n) (x := x) (I := I) hn6 (by omega) (thr_64 hW) (there_in hW hS h2)
    have dJ := j1.day
    have again : ∀ (E : Nat → Nat → Int32) (o' : OB), Day I E → o9 o' → ∃ J, l_D_order_49 fuel E (nI c) (nI k) (nI n) (dv o') (fr6 k n o') (nI (x + 1)) = some (fr6 k n ((fil n (thr (mN μ) (mG μ)) (x + 1) d).foldl (ostep μ c) o'), J) ∧ Day I J := by
      intro E o' dE h9'
      obtain ⟨Z, z0, z1⟩ := l_dorder hW hc hg hk hn d (x + 1) fuel E o' (by omega) (by omega) (by rw [dE.1 68 (by decide) (by decide) (by decide) (by decide)]; exact hS) (by rw [dE.1 65 (by decide) (by decide) (by decide) (by decide)]; exact hK) (by rw [dE.2 2 (by decide) (by decide)]; exact h2) h9'
      exact ⟨Z, z0, dE.trans z1⟩
    rw [l_D_order_49, x_codes hn6, Option.bind_some]
    dsimp only
    rw [if_neg (fun z => by have := (nle (by omega) (by omega)).mp z; omega), j0, Option.bind_some, fil_succ, show nI x + 1 = nI (x + 1) from nI_add x 1]
    dsimp only
    by_cases ho : ob (dg n x) = thr (mN μ) (mG μ)
    · have hL := ord_of hW (L := dg n x) (by rw [dg_len, hn]) (dg_six n x) ho
      obtain ⟨K, k0, k1, k2, k3, k4⟩ := d_ground hW hS hK h2 j1 hL
      have hcL : c ∈ dg n x := hL.2.2.2.2.1 c hc hg
      have zc : zinb (nI c) 6 = true := nzin (by omega) (by decide)
      have e73 : K 73 c = nI (fv μ 6 (dg n x) (mS μ) c) := by
        rw [k3 c (by omega), if_pos ⟨hcL, by omega⟩]
      have hB := brn_lt hW 6 (dg n x) (mS μ)
      have q0 : (nI (brn μ 6 (dg n x) (mS μ)) = 0) ↔ brn μ 6 (dg n x) (mS μ) = 0 := neq (b := 0) (by omega) (by omega)
      rw [if_pos ho, if_pos ho, if_neg (by decide), k0, Option.bind_some]
      dsimp only
      rw [k2, Option.bind_some, List.foldl_cons]
      dsimp only
      by_cases hb : brn μ 6 (dg n x) (mS μ) = 0
      · rw [if_pos (q0.mpr hb), if_pos zc, if_pos zc, ncl (by omega)]
        simp only [e73]
        by_cases bt : btr o (fv μ 6 (dg n x) (mS μ) c) = true
        · rw [if_neg (fun z => by rw [(dv_le h9 (fv_le _ _ _ _ _)).mp z] at bt; cases bt), ostep_yes hb bt]
          obtain ⟨Z, z0, z1⟩ := again K (some (fv μ 6 (dg n x) (mS μ) c, dg n x)) k1 (fun q hq => by cases hq; exact fv_le _ _ _ _ _)
          refine ⟨Z, ?_, z1⟩
          rw [← z0]
          have e0 : (nI k = 0) ↔ k = 0 := neq (b := 0) (by omega) (by omega)
          have e1 : nI k ≤ nI n ↔ k ≤ n := nle (by omega) (by omega)
          by_cases kz : k = 0
          · rw [if_pos (e0.mpr kz)]
            have f1 : fr6 k n (some (fv μ 6 (dg n x) (mS μ) c, dg n x)) = nI (fv μ 6 (dg n x) (mS μ) c) := if_pos kz
            rw [f1]
            rfl
          · rw [if_neg (fun y => kz (e0.mp y))]
            by_cases kn : k ≤ n
            · have ek : nI k - 1 = nI (k - 1) := pk_sub (b := 1) (by omega)
              have e72 : K 72 (k - 1) = nI ((dg n x).getD (k - 1) 0) := by
                rw [k4]
                have := RA.getD (k - 1) j1.2.2.1 (by rw [dg_len]; omega)
                rw [Nat.zero_add] at this
                exact this
              have f1 : fr6 k n (some (fv μ 6 (dg n x) (mS μ) c, dg n x)) = nI ((dg n x).getD (k - 1) 0) := by
                show (if k = 0 then _ else if k ≤ n then _ else _) = _
                rw [if_neg kz, if_pos kn]
              rw [if_pos (e1.mpr kn), ek, if_pos (nzin (k := k - 1) (N := 6) (by omega) (by decide)), ncl (by omega), e72, f1]
              rfl
            · have f1 : fr6 k n (some (fv μ 6 (dg n x) (mS μ) c, dg n x)) = -4 := by
                show (if k = 0 then _ else if k ≤ n then _ else _) = _
                rw [if_neg kz, if_neg kn]
              rw [if_neg (fun y => kn (e1.mp y)), f1]
              rfl
        · rw [if_pos ((dv_le h9 (fv_le _ _ _ _ _)).mpr (bitf bt)), ostep_no (Or.inr (bitf bt))]
          exact again K o k1 h9
      · rw [if_neg (fun z => hb (q0.mp z)), ostep_no (Or.inl hb)]
        exact again K o k1 h9
    · rw [if_neg ho, if_neg ho, if_pos rfl]
      exact again J o dJ h9
theorem op_order {I : Nat → Nat → Int32} (hI : IM I μ) (hW : mOK μ) (x w : Int32) : OQ (fun J => x_G_order J x w) (fun J => x_D_order J x w) I := by
  have h66 := hW.1.1
  have z : ¬ (1 : Int32) = 0 := by decide
  rcases two_has hI.1 hI.2.2.2 hW x with ⟨h1, h2⟩ | ⟨c, hc, e, h1, h2⟩
  · exact OQ.same (v := -1) (by show x_G_order I x w = _; rw [x_G_order, if_pos h1]) (by show x_D_order I x w = _; rw [x_D_order, if_pos h2])
  · rcases two_out w (b := 6) (B := 6) (by omega) rfl with ⟨h3, h4⟩ | ⟨k, hk, e2, h3, h4⟩
    · exact OQ.same (v := -1) (by show x_G_order I x w = _; rw [x_G_order, h1, if_neg z, h3, if_neg z]) (by show x_D_order I x w = _; rw [x_D_order, h2, if_neg z, h4, if_pos rfl])
    · by_cases bg : (mG μ).testBit c = true
      · exact OQ.same (v := -2) (by show x_G_order I x w = _; rw [x_G_order, h1, if_neg z, h3, if_pos rfl, e, isGone_in hI.1 hW.1 hc, if_pos bg, if_neg z]) (by show x_D_order I x w = _; rw [x_D_order, h2, if_neg z, h4, if_neg z, e, isAway_in hI.2.1 hW.1 hc, if_pos bg, if_neg z])
      · obtain ⟨r, v1, v2, v3⟩ := vs_head hW.1
        have hT := thr_64 hW.1
        have hp6 := pc6_le (thr (mN μ) (mG μ))
        have h6 := six_le hp6
        have hV : ∀ M ∈ mNum μ :: r, Ord μ M := by
          rw [← v1]
          exact vs_ord hW.1
        have hnl : (mNum μ).length = pc6 (thr (mN μ) (mG μ)) := (hV _ List.mem_cons_self).2.2.2.2.2
        obtain ⟨A, a0, a1, a2, a3, a4, a5⟩ := x_number hI.1 hW.1 mo4
        obtain ⟨J, j0, j1, j2, j3⟩ := l_corder hW.1 hc (bitf bg) (n := pc6 (thr (mN μ) (mG μ))) 1000 r (mNum μ) 0 A none v2 hV hnl (by omega) (by omega) (hI.1.low mo4 (fun a ha => a1 a (by omega) (by omega) (by omega))) a2 (by rw [← hnl]; exact a3) a4 (fun q hq => by cases hq) (fun q hq => by cases hq)
        have fJ : ∀ a, ¬ (8 ≤ a ∧ a ≤ 15) → J a = I a := fun a ha => (j1 a (by omega)).trans (a1 a (by omega) (by omega) (by omega))
        have kJ := KP.low fJ
        have hJ := hI.keep kJ
        obtain ⟨K, k0, k1⟩ := l_dorder hW.1 hc (bitf bg) hk rfl (6 ^ pc6 (thr (mN μ) (mG μ))) 0 100000 J none (by omega) (by omega) hJ.2.1 hJ.2.2.1 hJ.2.2.2 (fun q hq => by cases hq)
        rw [fil_vs hW.1, v1] at k0
        rw [nI_0] at j0 k0
        have j0' : l_G_findFinestRow_19 1000 A (nI c) (-4) 1 0 = some (cv ((mNum μ :: r).foldl (ostep μ c) none), J) := j0
        refine ⟨fr6 k (pc6 (thr (mN μ) (mG μ))) ((mNum μ :: r).foldl (ostep μ c) none), J, K, ?_, ?_, kJ.trans k1.kp⟩
        · show x_G_order I x w = _
          rw [x_G_order, h1, if_neg z, h3, if_pos rfl, e, isGone_in hI.1 hW.1 hc, if_neg bg, if_pos rfl, x_G_findFinestRow, a0, Option.bind_some]
          dsimp only
          rw [j0', Option.bind_some]
          dsimp only
          have h9 : o9 ((mNum μ :: r).foldl (ostep μ c) none) := by
            have : ∀ (V : List (List Nat)) (o : OB), o9 o → o9 (V.foldl (ostep μ c) o) := by
              intro V
              induction V with
              | nil => intro o h; exact h
              | cons L V ih => intro o h; exact ih _ (ostep_9 h)
            exact this _ none (fun q hq => by cases hq)
          cases ho : (mNum μ :: r).foldl (ostep μ c) none with
          | none =>
            rw [if_pos (show cv none = -4 from rfl)]
            rfl
          | some q =>
            rw [ho] at j3 h9
            have hq9 := h9 q rfl
            obtain ⟨r1, r2⟩ := j3 q rfl
            have hne : ¬ cv (some q) = -4 := fun y => by
              have h3 := nneg (a := q.1) (by omega)
              rw [show nI q.1 = -4 from y] at h3
              exact h3 (by decide)
            have e0 : (nI k = 0) ↔ k = 0 := neq (b := 0) (by omega) (by omega)
            have e1 : nI (pc6 (thr (mN μ) (mG μ))) < nI k ↔ ¬ k ≤ pc6 (thr (mN μ) (mG μ)) := by
              rw [nlt (by omega) (by omega)]
              omega
            rw [if_neg hne, e2, f_R_size, j2]
            show _ = some ((if k = 0 then nI q.1 else if k ≤ pc6 (thr (mN μ) (mG μ)) then nI (q.2.getD (k - 1) 0) else -4), J)
            by_cases kz : k = 0
            · rw [if_pos (e0.mpr kz), if_pos kz]
              rfl
            · rw [if_neg (fun y => kz (e0.mp y)), if_neg kz]
              by_cases kn : k ≤ pc6 (thr (mN μ) (mG μ))
              · have ek : nI k - 1 = nI (k - 1) := pk_sub (b := 1) (by omega)
                have := RA.getD (k - 1) r1 (by omega)
                rw [Nat.zero_add] at this
                rw [if_neg (fun y => (e1.mp y) kn), if_pos kn, ek, if_pos (nzin (k := k - 1) (N := 6) (by omega) (by decide)), ncl (by omega), this]
              · rw [if_pos (e1.mpr kn), if_neg kn]
        · show x_D_order J x w = _
          rw [x_D_order, one_keep hI hJ h2, if_neg z, h4, if_neg z, e, isAway_in hJ.2.1 hW.1 hc, if_neg bg, if_pos rfl, there_in hW.1 hJ.2.1 hJ.2.2.2, x_ones hT, Option.bind_some, e2]
          exact k0
end POrder
