/-! THE RUN -/
section ZRunS
variable {E : ZE} {y n0 t0 pc pc' w : Nat} {L L' : List (Option Value)} {st st' : List Value} {h h' : ZH}
theorem zmono0 : h.1.1 ≤ h.1.1 ∧ h.1.2 ≤ h.1.2 := ⟨Nat.le_refl _, Nat.le_refl _⟩
theorem zmono1 (k n : Nat) : h.1.1 ≤ (znew h k n).1.1 ∧ h.1.2 ≤ (znew h k n).1.2 := ⟨Nat.le_succ _, Nat.le_add_right _ _⟩
set_option maxHeartbeats 4000000 in
theorem zstep_mono {i : Instr} {X : Nat × (Nat → Int32)} (h1 : zstep X y i pc L st h = some (pc', L', st', h')) : h.1.1 ≤ h'.1.1 ∧ h.1.2 ≤ h'.1.2 := by
  cases i <;> simp only [zstep, Bool.cond_eq_ite] at h1 <;> (repeat' split at h1) <;> first
    | (cases h1; done)
    | (cases h1; exact zmono0)
    | (cases h1; exact zmono1 _ _)
theorem zrun_mono {X : Nat × (Nat → Int32)} : ∀ (n y pc : Nat) (L : List (Option Value)) (st : List Value) (h : ZH) (r : Option Value) (h' : ZH), zrun X n y pc L st h = some (r, h') → h.1.1 ≤ h'.1.1 ∧ h.1.2 ≤ h'.1.2 := by
  intro n
  induction n with
  | zero => intro y pc L st h r h' q; cases q
  | succ n ih =>
    intro y pc L st h r h' q
    simp only [zrun] at q
    split at q
    · cases q
    · split at q
      · cases q
        exact ⟨Nat.le_refl _, Nat.le_refl _⟩
      · split at q
        · obtain ⟨-, q⟩ := zbif q
          split at q
          · next hc q1 =>
            obtain ⟨a1, a2⟩ := ih _ _ _ _ _ _ _ q1
            obtain ⟨b1, b2⟩ := ih _ _ _ _ _ _ _ q
            exact ⟨Nat.le_trans a1 b1, Nat.le_trans a2 b2⟩
          · cases q
        · split at q
          · next q1 =>
            obtain ⟨a1, a2⟩ := zstep_mono q1
            obtain ⟨b1, b2⟩ := ih _ _ _ _ _ _ _ q
            exact ⟨Nat.le_trans a1 b1, Nat.le_trans a2 b2⟩
          · cases q
/-- the run from a frame, in a method's body -/
def zSd (E : ZE) (l : Launch) (n : Nat) : Prop := ∀ (y pc : Nat) (L : List (Option Value)) (st : List Value) (h : ZH) (r : Option Value) (h' : ZH), y < 175 → zrun E.2.2.2.2 n y pc L st h = some (r, h') →
  ∀ (p : Program) (e : Env) (R : Room) (s : State) (m : MethodId) (args : Array Value) (below : List Frame) (meth : Method) (c : Code) (Q : State → Prop) (n0 t0 : Nat), zC E y p R s m args meth c → s.heap.size = E.2.2.1 + n0 → h'.1.1 ≤ R.cells + n0 → h'.1.2 ≤ R.slots + t0 →
  (∀ (pc2 w : Nat) (L2 : List (Option Value)) (st2 : List Value) (i : Instr), zins y pc2 = some (i, w) → zend y i st2 = some r → zGo E y n0 t0 p l e R s m args below meth c Q pc2 L2 st2 h') → zGo E y n0 t0 p l e R s m args below meth c Q pc L st h
theorem zone_cat {v : Value} (h : zone v = true) : v.category = 1 := by cases v <;> first | rfl | cases h
theorem zsl_one {E : ZE} : ∀ (as : List Value), as.all zone = true → lg_sl (as.map (zc E)) = as.map (fun v => Slot.val (zc E v))
  | [], _ => rfl
  | v :: as, h => by
    rw [List.all_cons] at h
    obtain ⟨h1, h2⟩ := zand h
    have h3 : (zc E v).category = 1 := (zc_cat E v).trans (zone_cat h1)
    rw [List.map_cons, List.map_cons, ← zsl_one as h2]
    simp [lg_sl, h3]
/-- the locals at a method's start -/
theorem zLs_entry {E : ZE} {as : List Value} {n : Nat} (h1 : as.all zone = true) (h2 : as.length ≤ n) : zLs E ((lg_sl (as.map (zc E)) ++ List.replicate (n - (lg_sl (as.map (zc E))).length) Slot.unset).toArray) (zloc n as) := by
  have hl : (lg_sl (as.map (zc E))).length = as.length := by rw [zsl_one as h1, List.length_map]
  have h3 := lv_entry (as.map (zc E)) (n := n) (by rw [hl]; exact h2)
  refine ⟨by rw [h3.1]; simp [zloc]; omega, h3.2.1, fun i v hv => ?_⟩
  unfold zloc at hv
  by_cases hi : i < as.length
  · rw [List.getElem?_append_left (by simpa using hi), List.getElem?_map] at hv
    rw [zsl_one as h1]
    simp only [List.getElem?_toArray]
    rw [List.getElem?_append_left (by simpa using hi), List.getElem?_map]
    cases hv2 : as[i]? with
    | none => rw [hv2] at hv; cases hv
    | some x => rw [hv2] at hv; cases hv; rfl
  · rw [List.getElem?_append_right (by simp; omega)] at hv
    have := List.eq_of_mem_replicate (List.mem_of_getElem? hv)
    cases this
theorem zend_ret {i : Instr} {r : Option Value} (hz : zend y i st = some r) : (∃ v, i = .ireturn ∧ st = [.int v] ∧ r = some (.int v) ∧ ∃ ty, zret y = some ty ∧ narrow ty (.int v) = .int v) ∨ (∃ v n, i = .areturn ∧ st = [v] ∧ r = some v ∧ zret y = some (.object n) ∧ (v = .null ∨ ∃ a, v = .ref a)) ∨ (i = .return_ ∧ st = [] ∧ r = none ∧ zret y = none) := by
  unfold zend at hz
  split at hz
  · next v =>
    split at hz
    · next hr => cases hz; exact Or.inl ⟨_, rfl, rfl, rfl, _, hr, rfl⟩
    · next hr =>
      obtain ⟨q, hz⟩ := zite hz
      cases hz
      refine Or.inl ⟨_, rfl, rfl, rfl, _, hr, ?_⟩
      rcases q with rfl | rfl <;> rfl
    · next hr =>
      obtain ⟨q, hz⟩ := zite hz
      cases hz
      exact Or.inl ⟨_, rfl, rfl, rfl, _, hr, q⟩
    · next hr =>
      obtain ⟨q, hz⟩ := zite hz
      cases hz
      exact Or.inl ⟨_, rfl, rfl, rfl, _, hr, q⟩
    · cases hz
  · split at hz
    · next hr => cases hz; exact Or.inr (Or.inl ⟨_, _, rfl, rfl, rfl, hr, Or.inr ⟨_, rfl⟩⟩)
    · cases hz
  · split at hz
    · next hr => cases hz; exact Or.inr (Or.inl ⟨_, _, rfl, rfl, rfl, hr, Or.inl rfl⟩)
    · cases hz
  · split at hz
    · next hr => cases hz; exact Or.inr (Or.inr ⟨rfl, rfl, rfl, hr⟩)
    · cases hz
  · cases hz
/-- a method's contract out of its run -/
theorem zmet_of {l : Launch} {n : Nat} {as : List Value} {r : Option Value} (IH : zSd E l n) (hy : y < 174) (h1 : as.all zone = true) (h2 : as.length ≤ (zq y).2.2.2.1) (hrun : zrun E.2.2.2.2 n y 0 (zloc (zq y).2.2.2.1 as) [] h = some (r, h')) : zMet E l y as h r h' := by
  obtain ⟨hm1, hm2⟩ := zrun_mono _ _ _ _ _ _ _ _ hrun
  obtain ⟨hw1, hw2, hw3, hw4, hw5, -, -, hw6⟩ := zokM_ok hy
  refine Met.ofW (cc := zcode y) (maxL := (zq y).2.2.2.1) (ret := zret y) hw5 rfl ?_
  intro p e s m args below meth c s₁ B hml hv
  obtain ⟨rfl, hsz, hP, hK, hX, hN, hAO⟩ := hv
  have hts := atoms_spec (ws := zws0 y) B.pre
  have hown : s.vm.findClass (zcn (zq y).1) = some m.cls := by rw [← hw3]; exact findClass_of_methodNamed B.named
  have hnm := (name_of_methodNamed B.named B.method).1
  have hC : zC E y p (headSpec (zws0 y) (zrm y (h'.1.1 - h.1.1) (h'.1.2 - h.1.2))).room s m (as.map (zc E)).toArray meth c :=
    ⟨B.exec, B.bytes, hml, hown, fun w hw => hts w (List.mem_cons_of_mem _ hw), ⟨Nat.le_refl _, Nat.le_refl _⟩, hK, hX, by omega, fun q => by rw [hnm]; exact (hw6 q).2.2.1, hN, hAO⟩
  have hlocks := B.notSynchronized
  have hr := B.returns
  have hL := zLs_entry (E := E) (n := (zq y).2.2.2.1) h1 h2
  rw [lg_entry_eq]
  refine IH y 0 _ [] h r h' (by omega) hrun p e _ s m _ below meth c _ h.1.1 h.1.2 hC hsz (by show h'.1.1 ≤ h'.1.1 - h.1.1 + h.1.1; omega) (by show h'.1.2 ≤ h'.1.2 - h.1.2 + h.1.2; omega) ?_ s.heap [] _ 0 0 hL (by simp [zloc]; omega) ⟨hP, va_S.rf⟩ (by omega) (by omega)
  intro pc2 w L2 st2 i hi hz H locs ls cells slots hL hn hB hce hsl
  obtain ⟨hd, -, hw⟩ := zins_ok (by omega) hi
  obtain rfl : cells = h'.1.1 - h.1.1 := by omega
  obtain rfl : slots = h'.1.2 - h.1.2 := by omega
  rcases zend_ret hz with ⟨v, rfl, rfl, rfl, ty, hty, hnv⟩ | ⟨v, nm, rfl, rfl, rfl, hty, hv⟩ | ⟨rfl, rfl, rfl, hty⟩
  · obtain rfl := hw.resolve_right (by simp [zlen])
    rw [hty] at hr
    exact W.zret hC.1 hC.2.1 hr hnv (fun t ht hW => ⟨rfl, by rw [ht]; exact hB.1, hB.2.F ht⟩) hB.2.2.2 hd
  · obtain rfl := hw.resolve_right (by simp [zlen])
    rw [hty] at hr
    refine W.aret (v := zc E v) hC.1 hC.2.1 hr (Or.inl ⟨_, rfl⟩) ?_ (fun t ht hW => ⟨rfl, by rw [ht]; exact hB.1, hB.2.F ht⟩) hB.2.2.2 hd
    rcases hv with rfl | ⟨a, rfl⟩
    · exact Or.inl rfl
    · exact Or.inr ⟨_, rfl⟩
  · obtain rfl := hw.resolve_right (by simp [zlen])
    rw [hty] at hr
    exact W.vret hC.1 hC.2.1 hr (fun t ht hW => ⟨rfl, by rw [ht]; exact hB.1, hB.2.F ht⟩) hB.2.2.2 hd
theorem zcal_lt {i : Instr} {d : Nat} (ho : (zq y).1 < 14) (hx : zix i < 2048) (hi : zcal y i = some d) : d < 174 := by
  cases i with
  | invokevirtual k =>
    simp only [zcal] at hi
    split at hi
    · next hf =>
      obtain ⟨-, hi⟩ := zbif hi
      cases hi
      exact (zcall_at ho hx hf).1
    · cases hi
  | invokestatic k =>
    simp only [zcal] at hi
    split at hi
    · next hf =>
      obtain ⟨-, hi⟩ := zbif hi
      cases hi
      exact (zcall_at ho hx hf).1
    · cases hi
  | invokespecial k =>
    simp only [zcal] at hi
    split at hi
    · next hf =>
      obtain ⟨-, hi⟩ := zbif hi
      cases hi
      exact (zcall_at ho hx hf).1
    · cases hi
  | _ => simp [zcal] at hi
theorem zsound (E : ZE) (l : Launch) : ∀ n, zSd E l n := by
  intro n
  induction n with
  | zero => intro y pc L st h r h' hy q; cases q
  | succ n ih =>
    intro y pc L st h r h' hy q p e R s m args below meth c Q n0 t0 hC h0 hr1 hr2 hend
    have hq := q
    simp only [zrun] at q
    split at q
    · cases q
    · next i w hi =>
      obtain ⟨hd, hx, hw⟩ := zins_ok hy hi
      have ho := zq_cls y hy
      split at q
      · next hz =>
        cases q
        exact hend pc w L st i hi hz
      · split at q
        · next d hcal =>
          obtain ⟨hok, q⟩ := zbif q
          split at q
          · next rc hc q1 =>
            obtain ⟨a1, a2⟩ := zrun_mono _ _ _ _ _ _ _ _ q1
            obtain ⟨b1, b2⟩ := zrun_mono _ _ _ _ _ _ _ _ q
            have hok' := hok
            unfold zcok at hok'
            obtain ⟨hok', -⟩ := zand hok'
            obtain ⟨hok', -⟩ := zand hok'
            obtain ⟨hok', -⟩ := zand hok'
            obtain ⟨hok', hk4⟩ := zand hok'
            obtain ⟨-, hk3⟩ := zand hok'
            exact z_call hC h0 ho hd hx hw hcal hok (zmet_of ih (zcal_lt ho hx hcal) hk3 (zble hk4) q1) a1 a2 (Nat.le_trans b1 hr1) (Nat.le_trans b2 hr2) (ih _ _ _ _ _ _ _ hy q p e R s m args below meth c Q n0 t0 hC h0 hr1 hr2 hend)
          · cases q
        · split at q
          · next q1 =>
            obtain ⟨b1, b2⟩ := zrun_mono _ _ _ _ _ _ _ _ q
            exact zstep_ok hC h0 ho hd hx hw q1 (Nat.le_trans b1 hr1) (Nat.le_trans b2 hr2) (ih _ _ _ _ _ _ _ hy q p e R s m args below meth c Q n0 t0 hC h0 hr1 hr2 hend)
          · cases q
end ZRunS
