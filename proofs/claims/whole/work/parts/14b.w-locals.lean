/-! MORE LOCALS DON'T HARM: a run that does without a local's value goes the same way with one -/
section WLoc
variable {X : Nat × (Nat → Int32)} {y pc pc' w : Nat} {L L' L1 : List (Option Value)} {st st' : List Value} {h h' : ZH} {Q : Option Value → ZH → Prop} {i : Instr}
def zLe (L L' : List (Option Value)) : Prop := L.length = L'.length ∧ ∀ (k : Nat) (v : Value), L[k]? = some (some v) → L'[k]? = some (some v)
theorem zclr_le (hL : zLe L L') (k : Nat) : zLe (zclr L k) (zclr L' k) := by
  refine ⟨by rw [zclr_len, zclr_len]; exact hL.1, fun j v hj => ?_⟩
  obtain ⟨h1, h2⟩ := zclr_at hj
  have h3 := hL.2 j v h1
  unfold zclr
  split
  · exact h3
  · next k' =>
    have hne : ∀ z : Option Value, (L'.set k' z)[j]? = some (some v) ∨ j = k' := by
      intro z
      by_cases e : k' = j
      · exact Or.inr e.symm
      · exact Or.inl (by rw [List.getElem?_set_ne e]; exact h3)
    split
    · next x hx =>
      rcases hne none with q | q
      · exact q
      · subst q
        rw [h3] at hx
        cases hx
        exact absurd ⟨rfl, rfl⟩ h2
    · next x hx =>
      rcases hne none with q | q
      · exact q
      · subst q
        rw [h3] at hx
        cases hx
        exact absurd ⟨rfl, rfl⟩ h2
    · exact h3
theorem zset_le (hL : zLe L L') (k : Nat) (z : Option Value) : zLe (L.set k z) (L'.set k z) := by
  refine ⟨by simp [hL.1], fun j v hj => ?_⟩
  by_cases e : k = j
  · subst e
    by_cases hk : k < L.length
    · rw [List.getElem?_set_self hk] at hj
      rw [List.getElem?_set_self (by rw [← hL.1]; exact hk)]
      exact hj
    · rw [List.getElem?_eq_none (by simp; omega)] at hj
      cases hj
  · rw [List.getElem?_set_ne e] at hj ⊢
    exact hL.2 j v hj
theorem zsv1_le (hL : zLe L L') (k : Nat) (v : Value) : zLe (zsv1 L k v) (zsv1 L' k v) := zset_le (zclr_le hL k) k _
theorem zsv2_le (hL : zLe L L') (k : Nat) (v : Value) : zLe (zsv2 L k v) (zsv2 L' k v) := zset_le (zset_le (zclr_le hL k) k _) _ _
set_option maxHeartbeats 4000000 in
theorem zstep_le (hL : zLe L L') (h1 : zstep X y i pc L st h = some (pc', L1, st', h')) : ∃ L2, zstep X y i pc L' st h = some (pc', L2, st', h') ∧ zLe L1 L2 := by
  have hl := hL.1
  cases i with
  | iload k => 
    simp only [zstep] at h1 ⊢
    split at h1
    · next x hx => cases h1; exact ⟨L', by simp only [hL.2 _ _ hx], hL⟩
    · cases h1
  | iload_n k => 
    simp only [zstep] at h1 ⊢
    split at h1
    · next x hx => cases h1; exact ⟨L', by simp only [hL.2 _ _ hx], hL⟩
    · cases h1
  | lload k => 
    simp only [zstep] at h1 ⊢
    split at h1
    · next x hx => cases h1; exact ⟨L', by simp only [hL.2 _ _ hx], hL⟩
    · cases h1
  | lload_n k => 
    simp only [zstep] at h1 ⊢
    split at h1
    · next x hx => cases h1; exact ⟨L', by simp only [hL.2 _ _ hx], hL⟩
    · cases h1
  | aload k => 
    simp only [zstep] at h1 ⊢
    split at h1
    · next x hx => cases h1; exact ⟨L', by simp only [hL.2 _ _ hx], hL⟩
    · next hx => cases h1; exact ⟨L', by simp only [hL.2 _ _ hx], hL⟩
    · next x hx => cases h1; exact ⟨L', by simp only [hL.2 _ _ hx], hL⟩
    · cases h1
  | aload_n k => 
    simp only [zstep] at h1 ⊢
    split at h1
    · next x hx => cases h1; exact ⟨L', by simp only [hL.2 _ _ hx], hL⟩
    · next hx => cases h1; exact ⟨L', by simp only [hL.2 _ _ hx], hL⟩
    · next x hx => cases h1; exact ⟨L', by simp only [hL.2 _ _ hx], hL⟩
    · cases h1
  | iinc k n =>
    simp only [zstep] at h1 ⊢
    split at h1
    · next x hx => cases h1; exact ⟨_, by simp only [hL.2 _ _ hx], zsv1_le hL _ _⟩
    · cases h1
  | istore k =>
    simp only [zstep] at h1 ⊢
    split at h1
    · obtain ⟨hb, h1⟩ := zbif h1
      cases h1
      exact ⟨_, by rw [← hl, hb]; rfl, zsv1_le hL _ _⟩
    · cases h1
  | istore_n k =>
    simp only [zstep] at h1 ⊢
    split at h1
    · obtain ⟨hb, h1⟩ := zbif h1
      cases h1
      exact ⟨_, by rw [← hl, hb]; rfl, zsv1_le hL _ _⟩
    · cases h1
  | lstore k =>
    simp only [zstep] at h1 ⊢
    split at h1
    · obtain ⟨hb, h1⟩ := zbif h1
      cases h1
      exact ⟨_, by rw [← hl, hb]; rfl, zsv2_le hL _ _⟩
    · cases h1
  | lstore_n k =>
    simp only [zstep] at h1 ⊢
    split at h1
    · obtain ⟨hb, h1⟩ := zbif h1
      cases h1
      exact ⟨_, by rw [← hl, hb]; rfl, zsv2_le hL _ _⟩
    · cases h1
  | astore k =>
    simp only [zstep] at h1 ⊢
    split at h1
    · obtain ⟨hb, h1⟩ := zbif h1
      cases h1
      exact ⟨_, by rw [← hl, hb]; rfl, zsv1_le hL _ _⟩
    · obtain ⟨hb, h1⟩ := zbif h1
      cases h1
      exact ⟨_, by rw [← hl, hb]; rfl, zsv1_le hL _ _⟩
    · cases h1
  | astore_n k =>
    simp only [zstep] at h1 ⊢
    split at h1
    · obtain ⟨hb, h1⟩ := zbif h1
      cases h1
      exact ⟨_, by rw [← hl, hb]; rfl, zsv1_le hL _ _⟩
    · obtain ⟨hb, h1⟩ := zbif h1
      cases h1
      exact ⟨_, by rw [← hl, hb]; rfl, zsv1_le hL _ _⟩
    · cases h1
  | _ =>
    simp only [zstep, Bool.cond_eq_ite] at h1 ⊢
    (repeat' split at h1) <;> first
      | (cases h1; done)
      | (cases h1; exact ⟨L', rfl, hL⟩)
      | (cases h1; refine ⟨L', ?_, hL⟩; simp_all; done)
      | (cases h1; refine ⟨_, ?_, zsv1_le hL _ _⟩; simp_all; done)
      | (cases h1; refine ⟨_, ?_, zsv2_le hL _ _⟩; simp_all; done)
      | (cases h1; refine ⟨L', ?_, hL⟩; rw [if_neg (by assumption)]; next h9 _ _ h8 h7 => simp only [h8, h7, if_true]; done)
      | (cases h1; refine ⟨L', ?_, hL⟩; rw [if_pos (by assumption)]; (try rw [if_pos (by assumption)]); (try rw [if_neg (by assumption)]); done)
theorem zrun_le : ∀ (n y pc : Nat) (L L' : List (Option Value)) (st : List Value) (h : ZH) (x : Option Value × ZH), zLe L L' → zrun X n y pc L st h = some x → zrun X n y pc L' st h = some x := by
  intro n
  induction n with
  | zero => intro y pc L L' st h x _ q; cases q
  | succ n ih =>
    intro y pc L L' st h x hL q
    rw [zrun] at q
    rw [zrun]
    cases hi : zins y pc with
    | none => rw [hi] at q; cases q
    | some iw =>
      obtain ⟨i, w⟩ := iw
      rw [hi] at q
      simp only at q ⊢
      cases hz : zend y i st with
      | some r => rw [hz] at q; exact q
      | none =>
        rw [hz] at q
        simp only at q ⊢
        cases hd : zcal y i with
        | some d =>
          rw [hd] at q
          simp only at q ⊢
          obtain ⟨hk, q⟩ := zbif q
          rw [hk]
          cases q1 : zrun X n d 0 (zloc (zq d).2.2.2.1 (st.take (zq d).2.1).reverse) [] h with
          | none => rw [q1] at q; cases q
          | some rh =>
            rw [q1] at q
            exact ih _ _ _ _ _ _ _ hL q
        | none =>
          rw [hd] at q
          simp only at q ⊢
          cases hs : zstep X y i pc L st h with
          | none => rw [hs] at q; cases q
          | some s1 =>
            obtain ⟨pc1, L1, st1, h1⟩ := s1
            obtain ⟨L2, h2, h3⟩ := zstep_le hL hs
            rw [hs] at q
            rw [h2]
            exact ih _ _ _ _ _ _ _ h3 q
theorem wp_forget (k : Wp X y pc L st h Q) (hL : zLe L L') : Wp X y pc L' st h Q := by
  obtain ⟨n, r, h', a, b⟩ := k
  exact ⟨n, r, h', zrun_le _ _ _ _ _ _ _ _ hL a, b⟩
/-- by the two lists, place by place -/
def zleB : List (Option Value) → List (Option Value) → Bool
  | [], [] => true
  | none :: a, _ :: b => zleB a b
  | some _ :: a, some _ :: b => zleB a b
  | _, _ => false
end WLoc
