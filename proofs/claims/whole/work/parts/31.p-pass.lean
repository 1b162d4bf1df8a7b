/-! THE PURE PART: grinding and lining up in the class -/
def br (f : Nat) : Nat := if 2 ≤ f then (if 5 ≤ f then (if 8 ≤ f then 3 else 2) else 1) else 0
theorem bread_in {I : Nat → Nat → Int32} {f : Nat} (hf : f ≤ 9) : f_G_breadOf I (nI f) = nI (br f) := by
  have a2 : (2 : Int32) ≤ nI f ↔ 2 ≤ f := nle (a := 2) (by omega) (by omega)
  have a5 : (5 : Int32) ≤ nI f ↔ 5 ≤ f := nle (a := 5) (by omega) (by omega)
  have a8 : (8 : Int32) ≤ nI f ↔ 8 ≤ f := nle (a := 8) (by omega) (by omega)
  simp only [f_G_breadOf, a2, a5, a8, br]
  split
  · split
    · split <;> rfl
    · rfl
  · rfl
theorem br_le (f : Nat) : br f ≤ 3 := by
  unfold br
  split
  · split
    · split <;> omega
    · omega
  · omega
theorem br_1 (f : Nat) : 1 ≤ br f ↔ 2 ≤ f := by
  unfold br
  split
  · split
    · split <;> omega
    · omega
  · omega
abbrev MO (m mk ml mt : Nat) : Prop := m < 12 ∧ mk < 12 ∧ ml < 12 ∧ mt < 12
section PPass
variable {I : Nat → Nat → Int32} {m mk ml mt : Nat} {μ : MS}
theorem RC.low {J : Nat → Nat → Int32} (h : RC I m mk ml mt μ) (ho : MO m mk ml mt) (hJ : ∀ a, a < 12 → J a = I a) : RC J m mk ml mt μ := h.congr (hJ m ho.1) (hJ mk ho.2.1) (hJ ml ho.2.2.1) (hJ mt ho.2.2.2)
theorem RC.rs {s : Nat} {F : Nat → Int32} (h : RC I m mk ml mt μ) (ho : MO m mk ml mt) : RC (rs I s F) m mk ml mt μ := h.low ho (fun a ha => rs_ne (by omega) (by omega))
/-- who is served next has it so fine -/
theorem grind_step {p c s : Nat} {r : List Nat} {st b : Int32} {fuel : Nat} (hR : RC I m mk ml mt μ) (hW : mWF μ) (hr : RA (I 13) p (c :: r)) (hs : I 12 2 = nI (p + (r.length + 1))) (h6 : p + (r.length + 1) ≤ 6) (hm : ∀ w ∈ c :: r, w < mN μ) (h4 : I 12 4 = nI s) (h9 : s ≤ 9) (hg : ¬ nI c = I 12 3) : l_R_grind_8 m mk ml mt (fuel + 1) I st b (nI p) = if b ≤ nI (br (mf μ c s r)) then l_R_grind_8 m mk ml mt fuel (rs I (mwear s (mf μ c s r)) (upd (I 14) c (nI (mf μ c s r)))) st b (nI (p + 1)) else some (0, rs I (mwear s (mf μ c s r)) (upd (I 14) c (nI (mf μ c s r)))) := by
  have h66 := hW.1
  have hc := hm c List.mem_cons_self
  have ef : (if 0 < if nI s + ms μ (mo μ c 3 0 0 r) c (mN μ) < 9 then nI s + ms μ (mo μ c 3 0 0 r) c (mN μ) else 9 then if nI s + ms μ (mo μ c 3 0 0 r) c (mN μ) < 9 then nI s + ms μ (mo μ c 3 0 0 r) c (mN μ) else 9 else 0) = nI (mf μ c s r) := mf_eq μ c s r
  rw [l_R_grind_8, hs, if_neg (fun z => by have := (nle (by omega) (by omega)).mp z; omega), whoIn_in (by omega) hr, if_neg hg, x_hear hR hW hr hs h6 hm, Option.bind_some]
  dsimp only
  rw [h4, ef, g_served h4 h9 (mf_le _ _ _ _) (by omega), bread_in (mf_le _ _ _ _), show nI p + 1 = nI (p + 1) from nI_add p 1]
theorem l_grind {st b : Int32} {g : Nat} (hW : mWF μ) (ho : MO m mk ml mt) : ∀ (r : List Nat) (p s fuel : Nat) (I : Nat → Nat → Int32), RC I m mk ml mt μ → RA (I 13) p r → I 12 2 = nI (p + r.length) → p + r.length ≤ 6 → (∀ w ∈ r, w < mN μ) → I 12 4 = nI s → s ≤ 9 → (∀ c, c < 6 → (nI c = I 12 3 ↔ c = g)) → r.length < fuel → (b = 0 ∨ (b = 1 ∧ ∀ q ∈ (gr μ g r s).1, 2 ≤ q.2)) → l_R_grind_8 m mk ml mt fuel I st b (nI p) = some (1, rs I (gr μ g r s).2 (gf (gr μ g r s).1 (I 14)))
  | [], p, s, fuel + 1, I, _, _, hs, h6, _, h4, _, _, _, _ => by
    rw [l_R_grind_8, hs, if_pos ((nle (by simp at h6 ⊢; omega) (by simp at h6 ⊢; omega)).mpr (by simp)), gr, gf, ← rs_self h4]
  | c :: r, p, s, fuel + 1, I, hR, hr, hs, h6, hm, h4, h9, hg, hf, hb => by
    have h66 := hW.1
    have hc := hm c List.mem_cons_self
    have hl : (c :: r).length = r.length + 1 := rfl
    have hs1 : I 12 2 = nI (p + (r.length + 1)) := hs
    have h61 : p + (r.length + 1) ≤ 6 := h6
    have hs2 : I 12 2 = nI (p + 1 + r.length) := by rw [hs1]; congr 1; omega
    have hf2 : r.length < fuel := by rw [hl] at hf; omega
    have h62 : p + 1 + r.length ≤ 6 := by omega
    have hm2 : ∀ x ∈ r, x < mN μ := fun x hx => hm x (List.mem_cons_of_mem _ hx)
    by_cases cg : c = g
    · have e : gr μ g (c :: r) s = gr μ g r s := by rw [gr, if_pos cg]
      rw [e] at hb ⊢
      rw [l_R_grind_8, hs1, if_neg (fun z => by have := (nle (by omega) (by omega)).mp z; omega), whoIn_in (by omega) hr, if_pos ((hg c (by omega)).mpr cg), show nI p + 1 = nI (p + 1) from nI_add p 1]
      exact l_grind hW ho r (p + 1) s fuel I hR hr.2 hs2 h62 hm2 h4 h9 hg hf2 hb
    · have e : gr μ g (c :: r) s = ((c, mf μ c s r) :: (gr μ g r (mwear s (mf μ c s r))).1, (gr μ g r (mwear s (mf μ c s r))).2) := by rw [gr, if_neg cg]
      rw [e] at hb ⊢
      have hb2 : b = 0 ∨ (b = 1 ∧ ∀ q ∈ (gr μ g r (mwear s (mf μ c s r))).1, 2 ≤ q.2) := hb.elim Or.inl (fun z => Or.inr ⟨z.1, fun q hq => z.2 q (List.mem_cons_of_mem _ hq)⟩)
      have hb3 : b ≤ nI (br (mf μ c s r)) := by
        rcases hb with z | z
        · rw [z]
          exact (nle (a := 0) (by omega) (by have := br_le (mf μ c s r); omega)).mpr (by omega)
        · rw [z.1]
          exact (nle (a := 1) (by omega) (by have := br_le (mf μ c s r); omega)).mpr ((br_1 _).mpr (z.2 _ List.mem_cons_self))
      rw [grind_step hR hW hr hs1 h61 hm h4 h9 (fun z => cg ((hg c (by omega)).mp z)), if_pos hb3]
      have ih := l_grind (st := st) (b := b) (g := g) hW ho r (p + 1) (mwear s (mf μ c s r)) fuel (rs I (mwear s (mf μ c s r)) (upd (I 14) c (nI (mf μ c s r)))) (hR.rs ho) (by rw [rs_ne (by decide) (by decide)]; exact hr.2) (by rw [rs_12 (by decide)]; exact hs2) h62 hm2 rs_s (mwear_le h9 (mf_le _ _ _ _)) (by rw [rs_12 (by decide)]; exact hg) hf2 hb2
      rw [ih, rs_rs, rs_F, gf]
theorem l_grindN {st : Int32} {g : Nat} (hW : mWF μ) (ho : MO m mk ml mt) : ∀ (r : List Nat) (p s fuel : Nat) (I : Nat → Nat → Int32), RC I m mk ml mt μ → RA (I 13) p r → I 12 2 = nI (p + r.length) → p + r.length ≤ 6 → (∀ w ∈ r, w < mN μ) → I 12 4 = nI s → s ≤ 9 → (∀ c, c < 6 → (nI c = I 12 3 ↔ c = g)) → r.length < fuel → (∃ q ∈ (gr μ g r s).1, ¬ 2 ≤ q.2) → ∃ s' F, l_R_grind_8 m mk ml mt fuel I st 1 (nI p) = some (0, rs I s' F)
  | [], p, s, fuel + 1, I, _, _, hs, h6, _, h4, _, _, _, hb => by
    obtain ⟨q, hq, _⟩ := hb
    rw [gr] at hq
    cases hq
  | c :: r, p, s, fuel + 1, I, hR, hr, hs, h6, hm, h4, h9, hg, hf, hb => by
    have h66 := hW.1
    have hc := hm c List.mem_cons_self
    have hl : (c :: r).length = r.length + 1 := rfl
    have hs1 : I 12 2 = nI (p + (r.length + 1)) := hs
    have h61 : p + (r.length + 1) ≤ 6 := h6
    have hs2 : I 12 2 = nI (p + 1 + r.length) := by rw [hs1]; congr 1; omega
    have hf2 : r.length < fuel := by rw [hl] at hf; omega
    have h62 : p + 1 + r.length ≤ 6 := by omega
    have hm2 : ∀ x ∈ r, x < mN μ := fun x hx => hm x (List.mem_cons_of_mem _ hx)
    by_cases cg : c = g
    · have e : gr μ g (c :: r) s = gr μ g r s := by rw [gr, if_pos cg]
      rw [e] at hb
      rw [l_R_grind_8, hs1, if_neg (fun z => by have := (nle (by omega) (by omega)).mp z; omega), whoIn_in (by omega) hr, if_pos ((hg c (by omega)).mpr cg), show nI p + 1 = nI (p + 1) from nI_add p 1]
      exact l_grindN hW ho r (p + 1) s fuel I hR hr.2 hs2 h62 hm2 h4 h9 hg hf2 hb
    · have e : gr μ g (c :: r) s = ((c, mf μ c s r) :: (gr μ g r (mwear s (mf μ c s r))).1, (gr μ g r (mwear s (mf μ c s r))).2) := by rw [gr, if_neg cg]
      rw [e] at hb
      rw [grind_step hR hW hr hs1 h61 hm h4 h9 (fun z => cg ((hg c (by omega)).mp z))]
      by_cases b3 : 2 ≤ mf μ c s r
      · have hb3 : (1 : Int32) ≤ nI (br (mf μ c s r)) := (nle (a := 1) (by omega) (by have := br_le (mf μ c s r); omega)).mpr ((br_1 _).mpr b3)
        rw [if_pos hb3]
        have hb2 : ∃ q ∈ (gr μ g r (mwear s (mf μ c s r))).1, ¬ 2 ≤ q.2 := by
          obtain ⟨q, hq, h2⟩ := hb
          rcases List.mem_cons.mp hq with z | z
          · rw [z] at h2
            exact absurd b3 h2
          · exact ⟨q, z, h2⟩
        obtain ⟨s', F, ih⟩ := l_grindN (st := st) (g := g) hW ho r (p + 1) (mwear s (mf μ c s r)) fuel (rs I (mwear s (mf μ c s r)) (upd (I 14) c (nI (mf μ c s r)))) (hR.rs ho) (by rw [rs_ne (by decide) (by decide)]; exact hr.2) (by rw [rs_12 (by decide)]; exact hs2) h62 hm2 rs_s (mwear_le h9 (mf_le _ _ _ _)) (by rw [rs_12 (by decide)]; exact hg) hf2 hb2
        exact ⟨s', F, by rw [ih, rs_rs]⟩
      · have hb3 : ¬ (1 : Int32) ≤ nI (br (mf μ c s r)) := fun z => b3 ((br_1 _).mp ((nle (a := 1) (by omega) (by have := br_le (mf μ c s r); omega)).mp z))
        rw [if_neg hb3]
        exact ⟨_, _, rfl⟩
end PPass
/-! rows are filled -/
theorem zrow_self (I : Nat → Nat → Int32) (k : Nat) (f : Nat → Int32) : zrow I k f k = f := if_pos rfl
theorem zrow_ne (I : Nat → Nat → Int32) {k a : Nat} (f : Nat → Int32) (h : a ≠ k) : zrow I k f a = I a := if_neg h
theorem zrow_zui (I : Nat → Nat → Int32) (a i : Nat) (v : Int32) (f : Nat → Int32) : zrow (zui I a i v) a f = zrow I a f := by
  funext x
  by_cases h : x = a
  · rw [h, zrow_self, zrow_self]
  · rw [zrow_ne _ _ h, zrow_ne _ _ h, zui_ne _ _ _ h]
theorem l_fill6 (a : Nat) (v : Int32) : ∀ (d i fuel : Nat) (I : Nat → Nat → Int32), i + d = 6 → d < fuel → l_A_fill6_5 a fuel I v (nI i) (Int32.ofNat 6) = some (0, zrow I a (fun j => if i ≤ j ∧ j < 6 then v else I a j))
  | 0, i, fuel + 1, I, hi, _ => by
    have e : (fun j => if i ≤ j ∧ j < 6 then v else I a j) = I a := funext fun j => if_neg (by omega)
    have e2 : zrow I a (I a) = I := by
      funext x
      by_cases h : x = a
      · rw [h, zrow_self]
      · rw [zrow_ne _ _ h]
    rw [l_A_fill6_5, if_pos (show Int32.ofNat 6 ≤ nI i from (nle (a := 6) (by omega) (by omega)).mpr (by omega)), e, e2]
  | d + 1, i, fuel + 1, I, hi, hf => by
    rw [l_A_fill6_5, if_neg (show ¬ Int32.ofNat 6 ≤ nI i from fun z => by have := (nle (a := 6) (by omega) (by omega)).mp z; omega), if_pos (nzin (by omega) (by decide)), ncl (by omega), show nI i + 1 = nI (i + 1) from nI_add i 1, l_fill6 a v d (i + 1) fuel (zui I a i v) (by omega) (by omega), zrow_zui, zui_self]
    have e : (fun j => if i + 1 ≤ j ∧ j < 6 then v else upd (I a) i v j) = fun j => if i ≤ j ∧ j < 6 then v else I a j := by
      funext j
      by_cases hj : j = i
      · rw [hj, if_neg (by omega), if_pos (by omega), pk_us]
      · rw [pk_un hj]
        by_cases hj2 : i ≤ j ∧ j < 6
        · rw [if_pos hj2, if_pos (by omega)]
        · rw [if_neg hj2, if_neg (by omega)]
    rw [e]
theorem x_fill6 (a : Nat) (v : Int32) (I : Nat → Nat → Int32) : x_A_fill6 a I v = some (0, zrow I a (fun j => if j < 6 then v else I a j)) := by
  have h := l_fill6 a v 6 0 1000 I (by omega) (by omega)
  rw [nI_0] at h
  rw [x_A_fill6, h]
  have e : (fun j => if 0 ≤ j ∧ j < 6 then v else I a j) = fun j => if j < 6 then v else I a j := by
    funext j
    by_cases hj : j < 6
    · rw [if_pos hj, if_pos ⟨Nat.zero_le j, hj⟩]
    · rw [if_neg hj, if_neg (fun z => hj z.2)]
  rw [e]
/-- nobody has corn yet -/
def noF (F : Nat → Int32) : Nat → Int32 := fun j => if j < 6 then -4 else F j
theorem x_empty (I : Nat → Nat → Int32) : ∃ J, x_R_empty I = some (0, J) ∧ (∀ a, a ≠ 12 → a ≠ 14 → J a = I a) ∧ J 12 2 = 0 ∧ J 12 3 = -1 ∧ J 14 = noF (I 14) := by
  refine ⟨zrow (zui (zui I 12 2 0) 12 3 (-1)) 14 (fun j => if j < 6 then -4 else (zui (zui I 12 2 0) 12 3 (-1)) 14 j), by rw [x_R_empty, x_fill6, Option.bind_some], ?_, ?_, ?_, ?_⟩
  · intro a h1 h2
    rw [zrow_ne _ _ h2, zui_ne _ _ _ h1, zui_ne _ _ _ h1]
  · rw [zrow_ne _ _ (by decide), zui_self, pk_un (by decide), zui_self, pk_us]
  · rw [zrow_ne _ _ (by decide), zui_self, pk_us]
  · rw [zrow_self, zui_ne _ _ _ (by decide), zui_ne _ _ _ (by decide)]
    rfl
section PLine
variable {m mk ml mt : Nat} {μ : MS}
theorem g_join {I : Nat → Nat → Int32} {c k : Nat} (hR : RC I m mk ml mt μ) (hW : mWF μ) (hc : c < mN μ) (hk : I 12 2 = nI k) (h6 : k < 6) : g_R_join m mk ml mt I (nI c) = if (mG μ).testBit c = true then I else zui (zui I 13 k (nI c)) 12 2 (nI (k + 1)) := by
  rw [g_R_join, isGone_in hR hW hc, hk]
  by_cases h : (mG μ).testBit c = true
  · rw [if_pos h, if_pos h, if_neg (by decide)]
  · rw [if_neg h, if_neg h, if_pos rfl, guard_in (g := fun j => zui (zui I 13 j (nI c)) 12 2 (nI k + 1)) (N := 6) h6 (by decide), show nI k + 1 = nI (k + 1) from nI_add k 1]
def goneNot (μ : MS) (c : Nat) : Bool := !((mG μ).testBit c)
/-- what stays as it is when people line up -/
def Lined (I J : Nat → Nat → Int32) (l : List Nat) : Prop := (∀ a, a ≠ 12 → a ≠ 13 → J a = I a) ∧ (∀ j, j ≠ 2 → J 12 j = I 12 j) ∧ RA (J 13) 0 l ∧ J 12 2 = nI l.length
theorem joined {I : Nat → Nat → Int32} {c : Nat} {acc : List Nat} (h1 : RA (I 13) 0 acc) (_h2 : I 12 2 = nI acc.length) : Lined I (zui (zui I 13 acc.length (nI c)) 12 2 (nI (acc.length + 1))) (acc ++ [c]) := by
  refine ⟨?_, ?_, ?_, ?_⟩
  · intro a h1 h2
    rw [zui_ne _ _ _ h1, zui_ne _ _ _ h2]
  · intro j hj
    rw [zui_self, pk_un hj, zui_ne _ _ _ (by decide)]
  · rw [zui_ne _ _ _ (by decide), zui_self]
    refine RA.snoc (RA.congr (fun k _ h => pk_un (by omega)) h1) ?_
    rw [Nat.zero_add, pk_us]
  · rw [zui_self, pk_us, List.length_append]
    rfl
theorem l_line (hW : mWF μ) (ho : MO m mk ml mt) : ∀ (d p fuel : Nat) (I : Nat → Nat → Int32) (acc : List Nat), p + d = mN μ → d < fuel → RC I m mk ml mt μ → RA (I 13) 0 acc → I 12 2 = nI acc.length → acc.length ≤ p → ∃ J, l_R_lineUp_6 m mk ml mt fuel I (nI p) = some (0, J) ∧ Lined I J (acc ++ ((List.range' p d).map (mL μ)).filter (goneNot μ))
  | 0, p, fuel + 1, I, acc, hp, _, hR, h1, h2, _ => by
    have h66 := hW.1
    refine ⟨I, ?_, fun _ _ _ => rfl, fun _ _ => rfl, ?_, ?_⟩
    · rw [l_R_lineUp_6, f_M_size, hR.1, if_pos ((nle (by omega) (by omega)).mpr (by omega))]
    · simpa using h1
    · simpa using h2
  | d + 1, p, fuel + 1, I, acc, hp, hf, hR, h1, h2, h3 => by
    have h66 := hW.1
    have hc := hW.2.2.1 p (by omega)
    rw [List.range'_succ, List.map_cons, List.filter_cons]
    rw [l_R_lineUp_6, f_M_size, hR.1, if_neg (fun z => by have := (nle (by omega) (by omega)).mp z; omega), whoAt_in hR hW (by omega), g_join hR hW hc h2 (by omega), show nI p + 1 = nI (p + 1) from nI_add p 1]
    by_cases h : (mG μ).testBit (mL μ p) = true
    · rw [if_pos h, if_neg (by simp [goneNot, h])]
      exact l_line hW ho d (p + 1) fuel I acc (by omega) (by omega) hR h1 h2 (by omega)
    · rw [if_neg h, if_pos (by simp [goneNot, h])]
      have q := joined (c := mL μ p) h1 h2
      obtain ⟨J, e, j1, j2, j3, j4⟩ := l_line hW ho d (p + 1) fuel (zui (zui I 13 acc.length (nI (mL μ p))) 12 2 (nI (acc.length + 1))) (acc ++ [mL μ p]) (by omega) (by omega) (hR.low ho (fun a ha => q.1 a (by omega) (by omega))) q.2.2.1 q.2.2.2 (by simp; omega)
      refine ⟨J, e, fun a a1 a2 => (j1 a a1 a2).trans (q.1 a a1 a2), fun j hj => (j2 j hj).trans (q.2.1 j hj), ?_, ?_⟩
      · simpa using j3
      · simpa using j4
theorem l_number (hW : mWF μ) (ho : MO m mk ml mt) : ∀ (d p fuel : Nat) (I : Nat → Nat → Int32) (acc : List Nat), p + d = mN μ → d < fuel → RC I m mk ml mt μ → RA (I 13) 0 acc → I 12 2 = nI acc.length → acc.length ≤ p → ∃ J, l_R_lineUpByNumber_6 m mk ml mt fuel I (nI p) = some (0, J) ∧ Lined I J (acc ++ (List.range' p d).filter (goneNot μ))
  | 0, p, fuel + 1, I, acc, hp, _, hR, h1, h2, _ => by
    have h66 := hW.1
    refine ⟨I, ?_, fun _ _ _ => rfl, fun _ _ => rfl, ?_, ?_⟩
    · rw [l_R_lineUpByNumber_6, f_M_size, hR.1, if_pos ((nle (by omega) (by omega)).mpr (by omega))]
    · simpa using h1
    · simpa using h2
  | d + 1, p, fuel + 1, I, acc, hp, hf, hR, h1, h2, h3 => by
    have h66 := hW.1
    rw [List.range'_succ, List.filter_cons]
    rw [l_R_lineUpByNumber_6, f_M_size, hR.1, if_neg (fun z => by have := (nle (by omega) (by omega)).mp z; omega), g_join hR hW (c := p) (by omega) h2 (by omega), show nI p + 1 = nI (p + 1) from nI_add p 1]
    by_cases h : (mG μ).testBit p = true
    · rw [if_pos h, if_neg (by simp [goneNot, h])]
      exact l_number hW ho d (p + 1) fuel I acc (by omega) (by omega) hR h1 h2 (by omega)
    · rw [if_neg h, if_pos (by simp [goneNot, h])]
      have q := joined (c := p) h1 h2
      obtain ⟨J, e, j1, j2, j3, j4⟩ := l_number hW ho d (p + 1) fuel (zui (zui I 13 acc.length (nI p)) 12 2 (nI (acc.length + 1))) (acc ++ [p]) (by omega) (by omega) (hR.low ho (fun a ha => q.1 a (by omega) (by omega))) q.2.2.1 q.2.2.2 (by simp; omega)
      refine ⟨J, e, fun a a1 a2 => (j1 a a1 a2).trans (q.1 a a1 a2), fun j hj => (j2 j hj).trans (q.2.1 j hj), ?_, ?_⟩
      · simpa using j3
      · simpa using j4
theorem mPres_eq (μ : MS) : mPres μ = ((List.range' 0 (mN μ)).map (mL μ)).filter (goneNot μ) := by
  rw [mPres, List.range_eq_range']
  rfl
theorem mPres_mem {c : Nat} (hW : mWF μ) : c ∈ mPres μ → c < mN μ ∧ (mG μ).testBit c = false := by
  intro h
  rw [mPres, List.mem_filter, List.mem_map] at h
  obtain ⟨⟨i, hi, e⟩, h2⟩ := h
  rw [List.mem_range] at hi
  refine ⟨?_, by simpa using h2⟩
  rw [← e]
  exact hW.2.2.1 i hi
theorem mPres_len (hW : mWF μ) : (mPres μ).length ≤ mN μ := by
  rw [mPres]
  refine Nat.le_trans (List.length_filter_le _ _) ?_
  simp
/-- the line stands, nobody is served -/
def Stnd (I J : Nat → Nat → Int32) (l : List Nat) : Prop := (∀ a, a ≠ 12 → a ≠ 13 → a ≠ 14 → J a = I a) ∧ RA (J 13) 0 l ∧ J 12 2 = nI l.length ∧ J 12 3 = -1 ∧ J 14 = noF (I 14)
theorem x_line {I : Nat → Nat → Int32} (hR : RC I m mk ml mt μ) (hW : mWF μ) (ho : MO m mk ml mt) : ∃ J, x_R_lineUp m mk ml mt I = some (0, J) ∧ Stnd I J (mPres μ) := by
  have h66 := hW.1
  obtain ⟨E, e, e1, e2, e3, e4⟩ := x_empty I
  obtain ⟨J, j, j1, j2, j3, j4⟩ := l_line hW ho (mN μ) 0 1000 E [] (by omega) (by omega) (hR.low ho (fun a ha => e1 a (by omega) (by omega))) trivial e2 (by simp)
  rw [List.nil_append, ← mPres_eq] at j3 j4
  rw [nI_0] at j
  refine ⟨J, ?_, fun a a1 a2 a3 => (j1 a a1 a2).trans (e1 a a1 a3), j3, j4, ?_, ?_⟩
  · rw [x_R_lineUp, e, Option.bind_some, j]
  · rw [j2 3 (by decide), e3]
  · rw [j1 14 (by decide) (by decide), e4]
def mNum (μ : MS) : List Nat := (List.range' 0 (mN μ)).filter (goneNot μ)
theorem x_number {I : Nat → Nat → Int32} (hR : RC I m mk ml mt μ) (hW : mWF μ) (ho : MO m mk ml mt) : ∃ J, x_R_lineUpByNumber m mk ml mt I = some (0, J) ∧ Stnd I J (mNum μ) := by
  have h66 := hW.1
  obtain ⟨E, e, e1, e2, e3, e4⟩ := x_empty I
  obtain ⟨J, j, j1, j2, j3, j4⟩ := l_number hW ho (mN μ) 0 1000 E [] (by omega) (by omega) (hR.low ho (fun a ha => e1 a (by omega) (by omega))) trivial e2 (by simp)
  rw [List.nil_append] at j3 j4
  rw [nI_0] at j
  refine ⟨J, ?_, fun a a1 a2 a3 => (j1 a a1 a2).trans (e1 a a1 a3), j3, j4, ?_, ?_⟩
  · rw [x_R_lineUpByNumber, e, Option.bind_some, j]
  · rw [j2 3 (by decide), e3]
  · rw [j1 14 (by decide) (by decide), e4]
theorem noGuest {I : Nat → Nat → Int32} (h : I 12 3 = -1) : ∀ c, c < 6 → (nI c = I 12 3 ↔ c = 6) := by
  intro c hc
  rw [h]
  constructor
  · intro z
    exfalso
    have h1 := nneg (a := c) (by omega)
    rw [z] at h1
    exact h1 (by decide)
  · intro z
    omega
/-- grinding a line that stands, at a stone -/
theorem x_grind0 {I : Nat → Nat → Int32} {l : List Nat} {s g : Nat} (hR : RC I m mk ml mt μ) (hW : mWF μ) (ho : MO m mk ml mt) (hl : RA (I 13) 0 l) (h2 : I 12 2 = nI l.length) (h6 : l.length ≤ 6) (hm : ∀ w ∈ l, w < mN μ) (h9 : s ≤ 9) (hg : ∀ c, c < 6 → (nI c = I 12 3 ↔ c = g)) : x_R_grind m mk ml mt I (nI s) 0 = some (1, rs I (gr μ g l s).2 (gf (gr μ g l s).1 (I 14))) := by
  have e1 : zui I 12 4 (nI s) = rs I s (I 14) := by
    funext a
    by_cases h2 : a = 14
    · rw [h2, rs_F, zui_ne _ _ _ (by decide)]
    · rw [rs, zrow_ne _ _ h2]
  have h := l_grind (st := nI s) (b := 0) (g := g) hW ho l 0 s 1000 (rs I s (I 14)) (hR.rs ho) (by rw [rs_ne (by decide) (by decide)]; exact hl) (by rw [rs_12 (by decide), Nat.zero_add]; exact h2) (by omega) hm rs_s h9 (by rw [rs_12 (by decide)]; exact hg) (by omega) (Or.inl rfl)
  rw [nI_0, rs_rs, rs_F] at h
  rw [x_R_grind, e1, h]
theorem x_grind1 {I : Nat → Nat → Int32} {l : List Nat} {s g : Nat} (hR : RC I m mk ml mt μ) (hW : mWF μ) (ho : MO m mk ml mt) (hl : RA (I 13) 0 l) (h2 : I 12 2 = nI l.length) (h6 : l.length ≤ 6) (hm : ∀ w ∈ l, w < mN μ) (h9 : s ≤ 9) (hg : ∀ c, c < 6 → (nI c = I 12 3 ↔ c = g)) : ((∀ q ∈ (gr μ g l s).1, 2 ≤ q.2) → x_R_grind m mk ml mt I (nI s) 1 = some (1, rs I (gr μ g l s).2 (gf (gr μ g l s).1 (I 14)))) ∧ (¬ (∀ q ∈ (gr μ g l s).1, 2 ≤ q.2) → ∃ s' F, x_R_grind m mk ml mt I (nI s) 1 = some (0, rs I s' F)) := by
  have e1 : zui I 12 4 (nI s) = rs I s (I 14) := by
    funext a
    by_cases h2 : a = 14
    · rw [h2, rs_F, zui_ne _ _ _ (by decide)]
    · rw [rs, zrow_ne _ _ h2]
  constructor
  · intro hq
    have h := l_grind (st := nI s) (b := 1) (g := g) hW ho l 0 s 1000 (rs I s (I 14)) (hR.rs ho) (by rw [rs_ne (by decide) (by decide)]; exact hl) (by rw [rs_12 (by decide), Nat.zero_add]; exact h2) (by omega) hm rs_s h9 (by rw [rs_12 (by decide)]; exact hg) (by omega) (Or.inr ⟨rfl, hq⟩)
    rw [nI_0, rs_rs, rs_F] at h
    rw [x_R_grind, e1, h]
  · intro hq
    have hq2 : ∃ q ∈ (gr μ g l s).1, ¬ 2 ≤ q.2 := by
      refine Classical.byContradiction fun z => hq fun q hq1 => Classical.byContradiction fun z2 => z ⟨q, hq1, z2⟩
    obtain ⟨s', F, h⟩ := l_grindN (st := nI s) (g := g) hW ho l 0 s 1000 (rs I s (I 14)) (hR.rs ho) (by rw [rs_ne (by decide) (by decide)]; exact hl) (by rw [rs_12 (by decide), Nat.zero_add]; exact h2) (by omega) hm rs_s h9 (by rw [rs_12 (by decide)]; exact hg) (by omega) hq2
    rw [nI_0, rs_rs] at h
    exact ⟨s', F, by rw [x_R_grind, e1, h]⟩
/-- a day as the mill stands -/
def dayOf (μ : MS) : List (Nat × Nat) × Nat := gr μ 6 (mPres μ) (mS μ)
theorem x_pass {I : Nat → Nat → Int32} (hR : RC I m mk ml mt μ) (hW : mWF μ) (ho : MO m mk ml mt) : ∃ J, x_R_pass m mk ml mt I = some (0, J) ∧ (∀ a, a ≠ 12 → a ≠ 13 → a ≠ 14 → J a = I a) ∧ RA (J 13) 0 (mPres μ) ∧ J 12 2 = nI (mPres μ).length ∧ J 12 3 = -1 ∧ J 12 4 = nI (dayOf μ).2 ∧ J 14 = gf (dayOf μ).1 (noF (I 14)) := by
  have h66 := hW.1
  obtain ⟨E, e, e1, e2, e3, e4, e5⟩ := x_line hR hW ho
  have hE : RC E m mk ml mt μ := hR.low ho (fun a ha => e1 a (by omega) (by omega) (by omega))
  have hs : f_M_stoneNow m mk ml mt E = nI (mS μ) := hE.2.2.2.2.2.1
  have hl := mPres_len hW
  have h := x_grind0 (s := mS μ) (g := 6) hE hW ho e2 e3 (by omega) (fun w hw => (mPres_mem hW hw).1) hW.2.2.2.2.2.2 (noGuest e4)
  refine ⟨rs E (gr μ 6 (mPres μ) (mS μ)).2 (gf (gr μ 6 (mPres μ) (mS μ)).1 (E 14)), by rw [x_R_pass, e, Option.bind_some, hs, h, Option.bind_some], ?_, ?_, ?_, ?_, rs_s, ?_⟩
  · intro a a1 a2 a3
    rw [rs_ne a1 a3]
    exact e1 a a1 a2 a3
  · rw [rs_ne (by decide) (by decide)]
    exact e2
  · rw [rs_12 (by decide)]
    exact e3
  · rw [rs_12 (by decide)]
    exact e4
  · rw [rs_F, e5]
    rfl
end PLine
