/-! A RUN WITHOUT THE SCRIPT: what the kernel computes of the constructors -/
def zokN (y : Nat) (i : Instr) (st : List Value) : Bool := match i, st with
  | .arraylength, .retAddr 2 :: _ => false
  | .iaload, .int _ :: .retAddr 2 :: _ => false
  | .putfield k, _ => (match zfl (zlk y k) with
    | some (c, j, _) => Nat.blt c 7 && Nat.blt j (zN c)
    | none => false)
  | _, _ => true
def zstepN (y : Nat) (i : Instr) (pc : Nat) (L : List (Option Value)) (st : List Value) (h : ZH) : Option ZS := bif zokN y i st then zstep (0, fun _ => 0) y i pc L st h else none
def zrunN : Nat → Nat → Nat → List (Option Value) → List Value → ZH → Option (Option Value × ZH)
  | 0, _, _, _, _, _ => none
  | n + 1, y, pc, L, st, h => (match zins y pc with
    | none => none
    | some (i, _) => (match zend y i st with
      | some r => some (r, h)
      | none => (match zcal y i with
        | some c =>
          bif zcok y c h (st.take (zq c).2.1).reverse (st.drop (zq c).2.1) then
            (match zrunN n c 0 (zloc (zq c).2.2.2.1 (st.take (zq c).2.1).reverse) [] h with
            | some (r, h') => zrunN n y (pc + 3) L (r.toList ++ st.drop (zq c).2.1) h'
            | none => none)
          else none
        | none => (match zstepN y i pc L st h with
          | some (pc', L', st', h') => zrunN n y pc' L' st' h'
          | none => none))))
/-- so many instructions of one method, calls and all -/
def zpartN (f : Nat) : Nat → Nat → Nat → List (Option Value) → List Value → ZH → Option ZS
  | 0, _, pc, L, st, h => some (pc, L, st, h)
  | n + 1, y, pc, L, st, h => (match zins y pc with
    | none => none
    | some (i, _) => (match zend y i st with
      | some _ => none
      | none => (match zcal y i with
        | some c =>
          bif zcok y c h (st.take (zq c).2.1).reverse (st.drop (zq c).2.1) then
            (match zrunN f c 0 (zloc (zq c).2.2.2.1 (st.take (zq c).2.1).reverse) [] h with
            | some (r, h') => zpartN f n y (pc + 3) L (r.toList ++ st.drop (zq c).2.1) h'
            | none => none)
          else none
        | none => (match zstepN y i pc L st h with
          | some (pc', L', st', h') => zpartN f n y pc' L' st' h'
          | none => none))))
/-- cells not yet made are empty; a class's cell has its class's length; no reference behind a cell's end -/
def HI (h : ZH) : Prop := (∀ a, h.1.1 ≤ a → h.2.1 a = (0, 0) ∧ h.2.2.1 a = (fun _ => 0) ∧ h.2.2.2 a = fun _ => none) ∧ (∀ a, a < h.1.1 → (h.2.1 a).1 < 7 → (h.2.1 a).2 = zN (h.2.1 a).1) ∧ ∀ a j, a < h.1.1 → (h.2.1 a).2 ≤ j → h.2.2.2 a j = none
theorem HI.zero : HI zh0 := ⟨fun _ _ => ⟨rfl, rfl, rfl⟩, fun a h => absurd h (Nat.not_lt_zero a), fun a _ h => absurd h (Nat.not_lt_zero a)⟩
theorem HI.si {h : ZH} (hi : HI h) {a j : Nat} {v : Int32} (ha : a < h.1.1) : HI (zsi h a j v) := by
  refine ⟨fun b hb => ?_, hi.2.1, hi.2.2⟩
  have hb2 : h.1.1 ≤ b := hb
  obtain ⟨h1, h2, h3⟩ := hi.1 b hb2
  refine ⟨h1, ?_, h3⟩
  show zui h.2.2.1 a j v b = _
  rw [zui_ne _ _ _ (by omega)]
  exact h2
theorem HI.cp {h : ZH} (hi : HI h) {a : Nat} {f : Nat → Int32} (ha : a < h.1.1) : HI (zcp h a f) := by
  refine ⟨fun b hb => ?_, hi.2.1, hi.2.2⟩
  have hb2 : h.1.1 ≤ b := hb
  obtain ⟨h1, h2, h3⟩ := hi.1 b hb2
  refine ⟨h1, ?_, h3⟩
  show (if b = a then f else h.2.2.1 b) = _
  rw [if_neg (by omega)]
  exact h2
theorem HI.sp {h : ZH} (hi : HI h) {a j : Nat} {v : Option Nat} (ha : a < h.1.1) (hj : j < (h.2.1 a).2) : HI (zsp h a j v) := by
  refine ⟨fun b hb => ?_, hi.2.1, fun b i hb hi2 => ?_⟩
  · have hb2 : h.1.1 ≤ b := hb
    obtain ⟨h1, h2, h3⟩ := hi.1 b hb2
    refine ⟨h1, h2, ?_⟩
    show (if b = a then va_up (h.2.2.2 b) j v else h.2.2.2 b) = _
    rw [if_neg (by omega)]
    exact h3
  · have hi3 : (h.2.1 b).2 ≤ i := hi2
    show (if b = a then va_up (h.2.2.2 b) j v else h.2.2.2 b) i = none
    by_cases e : b = a
    · rw [if_pos e]
      have e2 : i ≠ j := fun z => by rw [e, z] at hi3; omega
      show (if i = j then v else h.2.2.2 b i) = none
      rw [if_neg e2]
      exact hi.2.2 b i hb hi3
    · rw [if_neg e]
      exact hi.2.2 b i hb hi3
theorem HI.nw {h : ZH} (hi : HI h) {k n : Nat} (hk : k < 7 → n = zN k) : HI (znew h k n) := by
  refine ⟨fun b hb => ?_, fun b hb hb7 => ?_, fun b i hb hi2 => ?_⟩
  · have hb2 : h.1.1 + 1 ≤ b := hb
    obtain ⟨h1, h2, h3⟩ := hi.1 b (by omega)
    refine ⟨?_, ?_, ?_⟩
    · show (if b = h.1.1 then (k, n) else h.2.1 b) = _
      rw [if_neg (by omega)]
      exact h1
    · show (if b = h.1.1 then (fun _ => 0) else h.2.2.1 b) = _
      rw [if_neg (by omega)]
      exact h2
    · show (if b = h.1.1 then (fun _ => none) else h.2.2.2 b) = _
      rw [if_neg (by omega)]
      exact h3
  · have hb2 : b < h.1.1 + 1 := hb
    have hb8 : ((if b = h.1.1 then (k, n) else h.2.1 b) : Nat × Nat).1 < 7 := hb7
    show ((if b = h.1.1 then (k, n) else h.2.1 b) : Nat × Nat).2 = zN ((if b = h.1.1 then (k, n) else h.2.1 b) : Nat × Nat).1
    by_cases e : b = h.1.1
    · rw [if_pos e] at hb8 ⊢
      exact hk hb8
    · rw [if_neg e] at hb8 ⊢
      exact hi.2.1 b (by omega) hb8
  · have hb2 : b < h.1.1 + 1 := hb
    have hi3 : ((if b = h.1.1 then (k, n) else h.2.1 b) : Nat × Nat).2 ≤ i := hi2
    show (if b = h.1.1 then (fun _ => none) else h.2.2.2 b) i = none
    by_cases e : b = h.1.1
    · rw [if_pos e]
    · rw [if_neg e] at hi3 ⊢
      exact hi.2.2 b i (by omega) hi3
section ZClosed
variable {X : Nat × (Nat → Int32)} {y pc pc' w : Nat} {L L' : List (Option Value)} {st st' : List Value} {h h' : ZH} {i : Instr}
theorem zstep_X (ok : zokN y i st = true) : zstep X y i pc L st h = zstep (0, fun _ => 0) y i pc L st h := by
  cases i with
  | arraylength =>
    rcases st with _ | ⟨v, r⟩
    · rfl
    · cases v with
      | retAddr n =>
        rcases n with _ | _ | _ | n
        · rfl
        · rfl
        · cases ok
        · rfl
      | _ => rfl
  | iaload =>
    rcases st with _ | ⟨v, r⟩
    · rfl
    · cases v with
      | int x =>
        rcases r with _ | ⟨u, r⟩
        · rfl
        · cases u with
          | retAddr n =>
            rcases n with _ | _ | _ | n
            · rfl
            · rfl
            · cases ok
            · rfl
          | _ => rfl
      | _ => rfl
  | newarray t => cases t <;> rfl
  | _ => rfl
theorem zstepN_ok (hs : zstepN y i pc L st h = some (pc', L', st', h')) : zstep X y i pc L st h = some (pc', L', st', h') := by
  obtain ⟨ok, hs⟩ := zbif hs
  rw [zstep_X ok]
  exact hs
set_option maxHeartbeats 4000000 in
theorem zstepN_HI (hi : HI h) (hs : zstepN y i pc L st h = some (pc', L', st', h')) : HI h' := by
  obtain ⟨ok, hs⟩ := zbif hs
  cases i with
  | putfield k =>
    simp only [zstep] at hs
    split at hs
    · split at hs
      · next c j w hf =>
        obtain ⟨hb, hs⟩ := zbif hs
        simp only [Bool.and_eq_true] at hb
        cases hs
        exact hi.si (zblt hb.1.1)
      · cases hs
    · split at hs
      · next c j w hf =>
        obtain ⟨hb, hs⟩ := zbif hs
        simp only [Bool.and_eq_true] at hb
        simp only [zokN, hf, Bool.and_eq_true] at ok
        cases hs
        have h1 := zblt hb.1.1.1.1
        have h2 := zbeq hb.1.1.1.2
        refine hi.sp h1 ?_
        rw [hi.2.1 _ h1 (by rw [h2]; exact zblt ok.1), h2]
        exact zblt ok.2
      · cases hs
    · cases hs
  | iastore =>
    simp only [zstep] at hs
    split at hs
    · obtain ⟨hb, hs⟩ := zbif hs
      obtain ⟨hz, hs⟩ := zite hs
      simp only [Bool.and_eq_true] at hb
      cases hs
      exact hi.si (zblt hb.1)
    · cases hs
  | castore =>
    simp only [zstep] at hs
    split at hs
    · obtain ⟨hb, hs⟩ := zbif hs
      obtain ⟨hz, hs⟩ := zite hs
      simp only [Bool.and_eq_true] at hb
      cases hs
      exact hi.si (zblt hb.1)
    · cases hs
  | aastore =>
    simp only [zstep] at hs
    split at hs
    · obtain ⟨hb, hs⟩ := zbif hs
      obtain ⟨hz, hs⟩ := zite hs
      simp only [Bool.and_eq_true] at hb
      cases hs
      refine hi.sp (zblt hb.1.1.1) ?_
      have := of_decide_eq_true hz
      omega
    · obtain ⟨hb, hs⟩ := zbif hs
      obtain ⟨hz, hs⟩ := zite hs
      simp only [Bool.and_eq_true] at hb
      cases hs
      refine hi.sp (zblt hb.1) ?_
      have := of_decide_eq_true hz
      omega
    · cases hs
  | new k =>
    simp only [zstep] at hs
    split at hs
    · cases hs
      exact hi.nw (fun _ => rfl)
    · cases hs
  | newarray t =>
    cases t <;> simp only [zstep] at hs <;> (repeat' split at hs) <;> first
      | (cases hs; done)
      | (cases hs; exact hi.nw (fun z => absurd z (by decide)))
  | anewarray k =>
    simp only [zstep] at hs
    (repeat' split at hs) <;> first
      | (cases hs; done)
      | (cases hs; exact hi.nw (fun z => absurd z (by decide)))
  | invokestatic k =>
    simp only [zstep] at hs
    split at hs
    · obtain ⟨hb, hs⟩ := zbif hs
      cases hs
      exact hi
    · obtain ⟨hb, hs⟩ := zbif hs
      cases hs
      exact hi
    · split at hs
      · obtain ⟨hb, hs⟩ := zbif hs
        obtain ⟨hz, hs⟩ := zite hs
        simp only [Bool.and_eq_true] at hb
        cases hs
        exact hi.cp (zblt hb.1.1.2)
      · cases hs
    · cases hs
  | _ =>
    simp only [zstep, Bool.cond_eq_ite] at hs
    (repeat' split at hs) <;> first
      | (cases hs; done)
      | (cases hs; exact hi)
theorem zrunN_ok : ∀ (n y pc : Nat) (L : List (Option Value)) (st : List Value) (h : ZH) (x : Option Value × ZH), zrunN n y pc L st h = some x → zrun X n y pc L st h = some x ∧ (HI h → HI x.2) := by
  intro n
  induction n with
  | zero => intro y pc L st h x q; cases q
  | succ n ih =>
    intro y pc L st h x q
    rw [zrunN] at q
    rw [zrun]
    cases hi : zins y pc with
    | none => rw [hi] at q; cases q
    | some iw =>
      obtain ⟨i, w⟩ := iw
      rw [hi] at q
      simp only at q ⊢
      cases hz : zend y i st with
      | some r =>
        rw [hz] at q
        cases q
        exact ⟨rfl, fun z => z⟩
      | none =>
        rw [hz] at q
        simp only at q ⊢
        cases hd : zcal y i with
        | some d =>
          rw [hd] at q
          simp only at q ⊢
          obtain ⟨hk, q⟩ := zbif q
          rw [hk]
          cases q1 : zrunN n d 0 (zloc (zq d).2.2.2.1 (st.take (zq d).2.1).reverse) [] h with
          | none => rw [q1] at q; cases q
          | some rh =>
            obtain ⟨r, h1⟩ := rh
            rw [q1] at q
            obtain ⟨a1, a2⟩ := ih _ _ _ _ _ _ q1
            obtain ⟨b1, b2⟩ := ih _ _ _ _ _ _ q
            simp only [cond_true, a1]
            exact ⟨b1, fun z => b2 (a2 z)⟩
        | none =>
          rw [hd] at q
          simp only at q ⊢
          cases hs : zstepN y i pc L st h with
          | none => rw [hs] at q; cases q
          | some s1 =>
            obtain ⟨pc1, L1, st1, h1⟩ := s1
            rw [hs] at q
            obtain ⟨b1, b2⟩ := ih _ _ _ _ _ _ q
            rw [zstepN_ok (X := X) hs]
            exact ⟨b1, fun z => b2 (zstepN_HI z hs)⟩
theorem wp_part {Q : Option Value → ZH → Prop} (f : Nat) : ∀ (n : Nat) {pc : Nat} {L : List (Option Value)} {st : List Value} {h : ZH}, zpartN f n y pc L st h = some (pc', L', st', h') → (HI h → HI h') ∧ (Wp X y pc' L' st' h' Q → Wp X y pc L st h Q) := by
  intro n
  induction n with
  | zero => intro pc L st h q; cases q; exact ⟨fun z => z, fun z => z⟩
  | succ n ih =>
    intro pc L st h q
    rw [zpartN] at q
    cases hi : zins y pc with
    | none => rw [hi] at q; cases q
    | some iw =>
      obtain ⟨i, w⟩ := iw
      rw [hi] at q
      simp only at q
      cases hz : zend y i st with
      | some r => rw [hz] at q; cases q
      | none =>
        rw [hz] at q
        simp only at q
        cases hd : zcal y i with
        | some d =>
          rw [hd] at q
          simp only at q
          obtain ⟨hk, q⟩ := zbif q
          cases q1 : zrunN f d 0 (zloc (zq d).2.2.2.1 (st.take (zq d).2.1).reverse) [] h with
          | none => rw [q1] at q; cases q
          | some rh =>
            obtain ⟨r, h1⟩ := rh
            rw [q1] at q
            obtain ⟨a1, a2⟩ := zrunN_ok (X := X) _ _ _ _ _ _ _ q1
            obtain ⟨b1, b2⟩ := ih q
            refine ⟨fun z => b1 (a2 z), fun z => ?_⟩
            refine wp_call (Q' := fun r2 h2 => r2 = r ∧ h2 = h1) hi hz hd rfl rfl hk rfl rfl ⟨f, r, h1, a1, rfl, rfl⟩ ?_
            intro r2 h2 e
            rw [e.1, e.2]
            exact b2 z
        | none =>
          rw [hd] at q
          simp only at q
          cases hs : zstepN y i pc L st h with
          | none => rw [hs] at q; cases q
          | some s1 =>
            obtain ⟨pc1, L1, st1, h1⟩ := s1
            rw [hs] at q
            obtain ⟨b1, b2⟩ := ih q
            exact ⟨fun z => b1 (zstepN_HI z hs), fun z => wp_one hi hz hd (zstepN_ok hs) (b2 z)⟩
end ZClosed
