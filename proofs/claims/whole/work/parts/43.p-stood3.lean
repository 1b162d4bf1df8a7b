/-! THE PURE PART: stood, the class's loops -/
def hdv : List (Nat × Nat) → Int32
  | [] => -4
  | q :: _ => nI (10 * q.1 + q.2)
theorem hdv_no {L : List (Nat × Nat)} (h : ∀ q ∈ L, q.1 < 6 ∧ q.2 < 7) : hdv L = -4 ↔ L = [] := by
  cases L with
  | nil => exact ⟨fun _ => rfl, fun _ => rfl⟩
  | cons q L =>
    have hq := h q List.mem_cons_self
    refine ⟨fun z => ?_, fun z => by cases z⟩
    exfalso
    have h3 := nneg (a := 10 * q.1 + q.2) (by omega)
    rw [show nI (10 * q.1 + q.2) = -4 from z] at h3
    exact h3 (by decide)
theorem hdv_snoc {L : List (Nat × Nat)} (h : ∀ q ∈ L, q.1 < 6 ∧ q.2 < 7) (q : Nat × Nat) : hdv (L ++ [q]) = if hdv L = -4 then nI (10 * q.1 + q.2) else hdv L := by
  by_cases e : hdv L = -4
  · rw [if_pos e, (hdv_no h).mp e]
    rfl
  · rw [if_neg e]
    cases L with
    | nil => exact absurd rfl e
    | cons p L => rfl
section PStoodC
variable {μ : MS} {sl : List (Nat × Nat)}
def sdl (μ : MS) (sl : List (Nat × Nat)) (A : List (Nat × Nat)) : List (Nat × Nat) := A.filter (fun q => sd μ sl q.1 q.2)
def rowOf (μ : MS) (c a d : Nat) : List (Nat × Nat) := if (mG μ).testBit c = true then (List.range' a d).map (fun b => (c, b)) else []
theorem sdl_mem {A : List (Nat × Nat)} (h : ∀ q ∈ A, q.1 < 6 ∧ q.2 < 7) : ∀ q ∈ sdl μ sl A, q.1 < 6 ∧ q.2 < 7 := fun q hq => h q (List.mem_filter.mp hq).1
theorem l_cstI (hW : mOK μ) {w : Int32} {c : Nat} (hc : c < mN μ) : ∀ (d a fuel : Nat) (I : Nat → Nat → Int32) (A : List (Nat × Nat)), a + d = (mPres μ).length + 1 → RC I 4 5 6 7 μ → IS I (mN μ) sl → (∀ q ∈ A, q.1 < 6 ∧ q.2 < 7) → ∃ J, l_G_stood (fuel + d + 1) 1 I w (nI (mPres μ).length) (nI (sdl μ sl A).length) (hdv (sdl μ sl A)) (nI c) (nI a) = l_G_stood fuel 0 J w (nI (mPres μ).length) (nI (sdl μ sl (A ++ rowOf μ c a d)).length) (hdv (sdl μ sl (A ++ rowOf μ c a d))) (nI (c + 1)) 0 ∧ (∀ x, x ≠ 12 → x ≠ 13 → x ≠ 14 → J x = I x) ∧ ∀ q ∈ A ++ rowOf μ c a d, q.1 < 6 ∧ q.2 < 7
  | 0, a, fuel, I, A, ha, hR, hS, hA => by
    have h66 := hW.1.1
    have hl := mPres_len hW.1
    have e : rowOf μ c a 0 = [] := by
      unfold rowOf
      split <;> rfl
    refine ⟨I, ?_, fun _ _ _ _ => rfl, by rw [e, List.append_nil]; exact hA⟩
    rw [e, List.append_nil, l_G_stood, if_neg (by decide), if_pos rfl, if_pos ((nlt (by omega) (by omega)).mpr (by omega)), show nI c + 1 = nI (c + 1) from nI_add c 1]
  | d + 1, a, fuel, I, A, ha, hR, hS, hA => by
    have h66 := hW.1.1
    have hl := mPres_len hW.1
    rw [← Nat.add_assoc, l_G_stood, if_neg (by decide), if_pos rfl, if_neg (fun z => by have := (nlt (by omega) (by omega)).mp z; omega), isGone_in hR hW.1 hc, show nI a + 1 = nI (a + 1) from nI_add a 1]
    by_cases hg : (mG μ).testBit c = true
    · rw [if_pos hg, if_neg (by decide)]
      obtain ⟨J, j0, j1⟩ := x_could hR hW hS hc hg (show a ≤ (mPres μ).length by omega)
      rw [j0, Option.bind_some]
      dsimp only
      have hA2 : ∀ q ∈ A ++ [(c, a)], q.1 < 6 ∧ q.2 < 7 := by
        intro q hq
        rcases List.mem_append.mp hq with z | z
        · exact hA q z
        · rw [List.mem_singleton.mp z]
          exact ⟨by show c < 6; omega, by show a < 7; omega⟩
      obtain ⟨K, k0, k1, k2⟩ := l_cstI hW hc d (a + 1) fuel J (A ++ [(c, a)]) (by omega) (hR.low mo4 (fun x hx => j1 x (by omega) (by omega) (by omega))) (hS.keep (KP.round j1)) hA2
      have er : rowOf μ c a (d + 1) = (c, a) :: rowOf μ c (a + 1) d := by
        unfold rowOf
        rw [if_pos hg, if_pos hg, List.range'_succ]
        rfl
      rw [er]
      rw [show A ++ [(c, a)] ++ rowOf μ c (a + 1) d = A ++ (c, a) :: rowOf μ c (a + 1) d by simp] at k0 k2
      refine ⟨K, ?_, fun x x1 x2 x3 => (k1 x x1 x2 x3).trans (j1 x x1 x2 x3), k2⟩
      rw [← k0]
      have ef : sdl μ sl (A ++ [(c, a)]) = if sd μ sl c a = true then sdl μ sl A ++ [(c, a)] else sdl μ sl A := by
        unfold sdl
        rw [List.filter_append]
        by_cases b : sd μ sl c a = true
        · rw [if_pos b, List.filter_cons, if_pos b]
          rfl
        · rw [if_neg b, List.filter_cons, if_neg b]
          exact List.append_nil _
      have ec : (10 : Int32) * nI c + nI a = nI (10 * c + a) := by rw [show (10 : Int32) = nI 10 from rfl, pk_mul, nI_add]
      rw [ef, ec]
      by_cases b : sd μ sl c a = true
      · rw [if_pos b, if_pos b, if_neg (by decide), hdv_snoc (sdl_mem hA), List.length_append, show nI (sdl μ sl A).length + 1 = nI ((sdl μ sl A).length + 1) from nI_add _ 1]
        by_cases h4 : hdv (sdl μ sl A) = -4
        · rw [if_pos h4, if_pos h4]
          rfl
        · rw [if_neg h4, if_neg h4]
          rfl
      · rw [if_neg b, if_neg b, if_pos rfl]
    · rw [if_neg hg, if_pos rfl]
      obtain ⟨K, k0, k1, k2⟩ := l_cstI hW hc d (a + 1) fuel I A (by omega) hR hS hA
      have er : rowOf μ c a (d + 1) = rowOf μ c (a + 1) d := by
        unfold rowOf
        rw [if_neg hg, if_neg hg]
      rw [er]
      exact ⟨K, k0, k1, k2⟩
end PStoodC
