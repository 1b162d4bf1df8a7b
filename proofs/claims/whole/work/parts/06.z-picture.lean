/-! THE PICTURE: what the claim's machine holds when the small machine holds h -/
/-- the classes' numbers, the arrays' classes, where our cells begin, the outside's references (0 the text, 1 its bytes, 2 the script, 3 the formatter), the script -/
abbrev ZE : Type := va_G × (ClassId × ClassId × ClassId) × Nat × (Nat → Option Nat) × (Nat × (Nat → Int32))
def zc (E : ZE) (v : Value) : Value := match v with
  | .ref k => .ref (E.2.2.1 + k)
  | .retAddr k => va_rf (E.2.2.2.1 k)
  | v => v
def zA (E : ZE) : Nat → Prop := fun q => E.2.2.1 ≤ q
def zmv (E : ZE) (r : Option Nat) : Option Nat := r.map (fun k => E.2.2.1 + k)
def zfv (E : ZE) (h : ZH) (k c j : Nat) : Value := bif zI c j then .int (h.2.2.1 k j) else va_rf (zmv E (h.2.2.2 k j))
def zcell (E : ZE) (h : ZH) (k : Nat) : va_E :=
  if (h.2.1 k).1 = 100 then .inl (E.2.1.1, (h.2.1 k).2, .inl (h.2.2.1 k)) else
  if (h.2.1 k).1 = 101 then .inl (E.2.1.2.1, (h.2.1 k).2, .inl (h.2.2.1 k)) else
  if (h.2.1 k).1 = 102 then .inl (E.2.1.2.2, (h.2.1 k).2, .inr (.inr (.inr (.inr (fun j => zmv E (h.2.2.2 k j)))))) else
  .inr ((h.2.1 k).1, (List.range (zN (h.2.1 k).1)).map (zfv E h k (h.2.1 k).1))
def zws (E : ZE) (h : ZH) : va_W := (List.range h.1.1).map (fun k => (E.2.2.1 + k, zcell E h k))
theorem zc_cat (E : ZE) (v : Value) : (zc E v).category = v.category := by
  cases v with
  | retAddr k =>
    show (va_rf _).category = 1
    cases E.2.2.2.1 k <;> rfl
  | _ => rfl
theorem zc_rf (E : ZE) (r : Option Nat) : zc E (zrf r) = va_rf (zmv E r) := by cases r <;> rfl
theorem zc_sum (E : ZE) (r : List Value) : ((r.map (zc E)).map fun v => v.category).sum = (r.map fun v => v.category).sum := by
  rw [List.map_map]
  congr 1
  exact List.map_congr_left fun v _ => zc_cat E v
theorem zws_at {E : ZE} {h : ZH} {k : Nat} (hk : k < h.1.1) : (zws E h)[k]? = some (E.2.2.1 + k, zcell E h k) := by
  simp [zws, hk]
theorem zws_of {E : ZE} {h : ZH} {k : Nat} {q : Nat × va_E} (hq : (zws E h)[k]? = some q) : k < h.1.1 ∧ q = (E.2.2.1 + k, zcell E h k) := by
  by_cases hk : k < h.1.1
  · rw [zws_at hk] at hq
    exact ⟨hk, (Option.some.inj hq).symm⟩
  · rw [List.getElem?_eq_none (by simp [zws]; omega)] at hq
    cases hq
theorem zws_D (E : ZE) (h : ZH) : va_D (zA E) (zws E h) := by
  refine ⟨fun i j x y hi hj hxy => ?_, fun k q hk => ?_⟩
  · obtain ⟨-, rfl⟩ := zws_of hi
    obtain ⟨-, rfl⟩ := zws_of hj
    exact Nat.add_left_cancel hxy
  · obtain ⟨-, rfl⟩ := zws_of hk
    exact Nat.le_add_right _ _
theorem zws_set {E : ZE} {h h' : ZH} {k : Nat} {e : va_E} (h1 : h'.1.1 = h.1.1) (he : zcell E h' k = e) (ho : ∀ j, j ≠ k → zcell E h' j = zcell E h j) : (zws E h).set k (E.2.2.1 + k, e) = zws E h' := by
  apply List.ext_getElem?
  intro j
  by_cases hj : j < h.1.1
  · have hj' : j < h'.1.1 := by rw [h1]; exact hj
    rw [zws_at hj']
    by_cases hk : k = j
    · subst hk
      rw [List.getElem?_set_self (by simp [zws]; exact hj), he]
    · rw [List.getElem?_set_ne hk, zws_at hj, ho j (fun q => hk q.symm)]
  · rw [List.getElem?_eq_none (by simp [zws]; omega), List.getElem?_eq_none (by simp [zws, h1]; omega)]
theorem zws_push {E : ZE} {h h' : ZH} {e : va_E} (h1 : h'.1.1 = h.1.1 + 1) (he : zcell E h' h.1.1 = e) (ho : ∀ j, j < h.1.1 → zcell E h' j = zcell E h j) : zws E h ++ [(E.2.2.1 + h.1.1, e)] = zws E h' := by
  unfold zws
  rw [h1, List.range_succ, List.map_append, List.map_cons, List.map_nil, he]
  congr 1
  exact List.map_congr_left fun j hj => by rw [ho j (List.mem_range.mp hj)]
theorem zcell_congr {E : ZE} {h h' : ZH} {k : Nat} (h1 : h'.2.1 k = h.2.1 k) (h2 : h'.2.2.1 k = h.2.2.1 k) (h3 : h'.2.2.2 k = h.2.2.2 k) : zcell E h' k = zcell E h k := by
  have e : zfv E h' k = zfv E h k := by
    funext c j
    simp only [zfv, h2, h3]
  simp only [zcell, h1, h2, h3, e]
theorem zcell_i {E : ZE} {h : ZH} {k : Nat} (hs : (h.2.1 k).1 = 100) : zcell E h k = .inl (E.2.1.1, (h.2.1 k).2, .inl (h.2.2.1 k)) := if_pos hs
theorem zcell_c {E : ZE} {h : ZH} {k : Nat} (hs : (h.2.1 k).1 = 101) : zcell E h k = .inl (E.2.1.2.1, (h.2.1 k).2, .inl (h.2.2.1 k)) := by
  rw [zcell, if_neg (by omega), if_pos hs]
theorem zcell_q {E : ZE} {h : ZH} {k : Nat} (hs : (h.2.1 k).1 = 102) : zcell E h k = .inl (E.2.1.2.2, (h.2.1 k).2, .inr (.inr (.inr (.inr (fun j => zmv E (h.2.2.2 k j)))))) := by
  rw [zcell, if_neg (by omega), if_neg (by omega), if_pos hs]
theorem zcell_o {E : ZE} {h : ZH} {k c : Nat} (hs : (h.2.1 k).1 = c) (hc : c < 7) : zcell E h k = .inr (c, (List.range (zN c)).map (zfv E h k c)) := by
  subst hs
  rw [zcell, if_neg (by omega), if_neg (by omega), if_neg (by omega)]
theorem zui_self (I : Nat → Nat → Int32) (k j : Nat) (v : Int32) : zui I k j v k = upd (I k) j v := if_pos rfl
theorem zui_ne (I : Nat → Nat → Int32) {k a : Nat} (j : Nat) (v : Int32) (h : a ≠ k) : zui I k j v a = I a := if_neg h
theorem zup_self (P : Nat → Nat → Option Nat) (k j : Nat) (v : Option Nat) : zup P k j v k = va_up (P k) j v := if_pos rfl
theorem zup_ne (P : Nat → Nat → Option Nat) {k a : Nat} (j : Nat) (v : Option Nat) (h : a ≠ k) : zup P k j v a = P a := if_neg h
/-- the fields' list with an int put -/
theorem zfs_put {E : ZE} {h : ZH} {k c j : Nat} {v : Int32} (hj : zI c j = true) : ((List.range (zN c)).map (zfv E h k c)).set j (.int v) = (List.range (zN c)).map (zfv E (zsi h k j v) k c) := by
  apply List.ext_getElem?
  intro i
  by_cases hi : i < zN c
  · by_cases e : j = i
    · subst e
      rw [List.getElem?_set_self (by simpa using hi)]
      simp [hi, zfv, hj, zsi, zui_self, upd]
    · rw [List.getElem?_set_ne e]
      have e' : ¬ i = j := fun q => e q.symm
      simp [hi, zfv, zsi, zui_self, upd, e']
  · rw [List.getElem?_eq_none (by simp; omega), List.getElem?_eq_none (by simp; omega)]
theorem zfs_putR {E : ZE} {h : ZH} {k c j v : Nat} (hj : zI c j = false) : ((List.range (zN c)).map (zfv E h k c)).set j (.ref (E.2.2.1 + v)) = (List.range (zN c)).map (zfv E (zsp h k j (some v)) k c) := by
  apply List.ext_getElem?
  intro i
  by_cases hi : i < zN c
  · by_cases e : j = i
    · subst e
      rw [List.getElem?_set_self (by simpa using hi)]
      simp [hi, zfv, hj, zsp, zup_self, va_up, zmv, va_rf]
    · rw [List.getElem?_set_ne e]
      have e' : ¬ i = j := fun q => e q.symm
      simp [hi, zfv, zsp, zup_self, va_up, e']
  · rw [List.getElem?_eq_none (by simp; omega), List.getElem?_eq_none (by simp; omega)]
/-! the outside: statics, the text, the script -/
def zText : String := "c0;c1;c2;c0;c3;c4;o0,1,5;o1,0,6;o2,0,1;o3,0,5;o5,3,0;o1,3,4;o2,3,4;o5,2,6;o3,2,1;o0,5,2;o1,5,6;s4;"
def zX (E : ZE) (U : State) (H : Heap) : Prop :=
  va_Z "java/lang/String" "COMPACT_STRINGS" "Z" (.int 1) (zA E) U H ∧ va_Z "jdk/internal/util/Preconditions" "SIOOBE_FORMATTER" "Ljava/util/function/BiFunction;" (va_rf (E.2.2.2.1 3)) (zA E) U H ∧
  ∃ aK aV b : Nat, E.2.2.2.1 0 = some aK ∧ E.2.2.2.1 1 = some aV ∧ E.2.2.2.1 2 = some b ∧ va_O "java/lang/String" aK (zA E) U H ∧ va_OF "java/lang/String" "coder" "B" (.int 0) aK (zA E) U H ∧ va_OF "java/lang/String" "value" "[B" (.ref aV) aK (zA E) U H ∧
    va_T .byte aV zbytes.length (fun j => .int (zbytes.getD j 0)) (zA E) U H ∧ vk_R "GroundByHearsay" 56 zText aK U ∧ va_X b E.2.2.2.2.1 E.2.2.2.2.2 U H ∧ ¬ zA E b ∧ b < H.size
theorem zX.on {E : ZE} {s U : State} {H H1 : Heap} (h : zX E s H) (hW : s.WarmedH U.vm) (hz : H.size ≤ H1.size) (hq : ∀ a : Nat, a < H.size → ¬ zA E a → H1[a]? = H[a]?) : zX E U H1 := by
  obtain ⟨h1, h2, aK, aV, b, e0, e1, e2, g1, g2, g3, g4, g5, g6, g7, g8⟩ := h
  exact ⟨(h1.kept hq).moved hW.alike, (h2.kept hq).moved hW.alike, aK, aV, b, e0, e1, e2, (g1.kept hq).moved hW.alike, (g2.kept hq).moved hW.alike, (g3.kept hq).moved hW.alike, (g4.kept hq).moved hW.alike, g5.warm hW, (g6.kept (hq b g8 g7)).moved hW.alike, g7, Nat.lt_of_lt_of_le g8 hz⟩
theorem zX.same {E : ZE} {u U : State} {H : Heap} (hv : U.vm = u.vm) (h : zX E u H) : zX E U H := by
  have ha : u.vm.Alike U.vm := by rw [hv]; exact Vm.Alike.refl _
  obtain ⟨h1, h2, aK, aV, b, e0, e1, e2, g1, g2, g3, g4, g5, g6, g7, g8⟩ := h
  exact ⟨h1.moved ha, h2.moved ha, aK, aV, b, e0, e1, e2, g1.moved ha, g2.moved ha, g3.moved ha, g4.moved ha, g5.same hv, g6.moved ha, g7, g8⟩
/-- the words that a callee keeps -/
def zTs : List Jvm.Cond := lw_tbl.filter goodWord
theorem zTs_of {w : Jvm.Cond} (h : w ∈ lw_tbl) (hg : goodWord w = true) : w ∈ zTs := List.mem_filter.mpr ⟨h, hg⟩
theorem zTs_good : ∀ w ∈ zTs, w ∈ zTs ∧ ((w.onTables && w.keeps) = true ∨ ∃ ty, w = .arrayClass ty) := fun w h => ⟨h, good_of_word (List.mem_filter.mp h).2⟩
theorem zTs_u {c : Nat} (hc : c < 7) : ∀ w ∈ u_ws (zcn c) (zT c) (zN c), w ∈ zTs := by
  intro w hw
  refine zTs_of (zin c hc w hw) ?_
  obtain ⟨k, -, rfl⟩ := List.mem_map.mp hw
  unfold u_lay
  split <;> rfl
/-- links across the nest -/
def zNst (s : State) : Prop := ∀ (o : String) (i : Nat) (x : MethodName) (h : String), Cond.methodLinkNest o i x h ∈ lw_tbl → va_Nw (.methodLinkNest o i x h) s
theorem zNst.warm {s U : State} (hW : s.WarmedH U.vm) (h : zNst s) : zNst U := fun o i x g hm => va_Nw.warmM hW (h o i x g hm)
theorem zNst.same {u U : State} (hv : u.vm = U.vm) (h : zNst u) : zNst U := fun o i x g hm => va_Nw.same rfl hv (h o i x g hm)
abbrev ztys (E : ZE) : List (ClassId × FieldType) := [(E.2.1.1, .int), (E.2.1.2.1, .char), (E.2.1.2.2, .object "GroundByHearsay$Mill")]
/-- the frame's own facts -/
def zC (E : ZE) (y : Nat) (p : Program) (R : Room) (s : State) (m : MethodId) (args : Array Value) (meth : Method) (c : Code) : Prop :=
  p.tables.exec = Jvm.exec ∧ c.code = zcode y ∧ c.maxLocals = (zq y).2.2.2.1 ∧ s.vm.findClass (zcn (zq y).1) = some m.cls ∧ (∀ w ∈ zTs, w.before args s = true) ∧ ((zq y).2.2.2.2.1 ≤ R.frames ∧ (zq y).2.2.2.2.2 ≤ R.locals) ∧ va_K E.1 zcl (ztys E) s ∧ zX E s s.heap ∧ E.2.2.1 ≤ s.heap.size ∧ ((zq y).2.2.1 = 2 → meth.name = "<init>") ∧ zNst s ∧ va_AO "GroundByHearsay$Mill" s
/-- the heap -/
def zB (E : ZE) (h : ZH) (s : State) (H : Heap) (locs : List Loc) : Prop := va_P E.1 zcl (zws E h) H ∧ va_S (zA E) s.heap H locs
/-- the locals -/
def zLs (E : ZE) (ls : Array Slot) (L : List (Option Value)) : Prop := ls.size = L.length ∧ lv_wf ls ∧ ∀ (i : Nat) (v : Value), L[i]? = some (some v) → ls[i]? = some (.val (zc E v))
def zen (E : ZE) (L : List (Option Value)) : List (Nat × Value) := (List.range L.length).filterMap (fun i => match L[i]? with
  | some (some v) => some (i, zc E v)
  | _ => none)
theorem zen_mem {E : ZE} {L : List (Option Value)} {q : Nat × Value} : q ∈ zen E L ↔ ∃ v, L[q.1]? = some (some v) ∧ q.2 = zc E v := by
  unfold zen
  rw [List.mem_filterMap]
  constructor
  · rintro ⟨i, hi, hq⟩
    split at hq
    · next v hv =>
      cases hq
      exact ⟨v, hv, rfl⟩
    · cases hq
  · rintro ⟨v, hv, hq⟩
    refine ⟨q.1, List.mem_range.mpr (List.getElem?_eq_some_iff.mp hv).1, ?_⟩
    rw [hv]
    show some (q.1, zc E v) = some q
    rw [← hq]
theorem zLs_has {E : ZE} {ls : Array Slot} {L : List (Option Value)} (h : zLs E ls L) : lv_has ls L.length (zen E L) := by
  refine ⟨h.1, h.2.1, fun q hq => ?_⟩
  obtain ⟨v, hv, e⟩ := zen_mem.mp hq
  rw [e]
  exact h.2.2 _ _ hv
theorem zclr_len (L : List (Option Value)) (i : Nat) : (zclr L i).length = L.length := by
  unfold zclr
  split
  · rfl
  · split <;> simp
theorem zclr_at {L : List (Option Value)} {i j : Nat} {w : Value} (h : (zclr L i)[j]? = some (some w)) : L[j]? = some (some w) ∧ ¬ (j + 1 = i ∧ w.category = 2) := by
  unfold zclr at h
  split at h
  · exact ⟨h, fun q => by omega⟩
  · next k =>
    split at h
    · next x hx =>
      by_cases e : k = j
      · subst e
        rw [List.getElem?_set_self (List.getElem?_eq_some_iff.mp hx).1] at h
        cases h
      · rw [List.getElem?_set_ne e] at h
        exact ⟨h, fun q => e (by omega)⟩
    · next x hx =>
      by_cases e : k = j
      · subst e
        rw [List.getElem?_set_self (List.getElem?_eq_some_iff.mp hx).1] at h
        cases h
      · rw [List.getElem?_set_ne e] at h
        exact ⟨h, fun q => e (by omega)⟩
    · next n1 n2 =>
      refine ⟨h, fun q => ?_⟩
      have e : j = k := by omega
      subst e
      cases w <;> simp [Value.category] at q
      · exact n1 _ h
      · exact n2 _ h
theorem zLs_st1 {E : ZE} {ls' : Array Slot} {L : List (Option Value)} {i : Nat} {v v' : Value} (hv : v' = zc E v) (hi : i < L.length) (h : lv_has ls' L.length ((i, v') :: (zen E L).filter (fun q => !(q.1 == i) && !(q.1 + 1 == i && q.2.category == 2)))) : zLs E ls' (zsv1 L i v) := by
  subst hv
  refine ⟨by rw [h.1]; simp [zsv1, zclr_len], h.2.1, fun j w hw => ?_⟩
  unfold zsv1 at hw
  by_cases e : i = j
  · subst e
    rw [List.getElem?_set_self (by rw [zclr_len]; exact hi)] at hw
    cases hw
    exact h.2.2 (i, zc E v) List.mem_cons_self
  · rw [List.getElem?_set_ne e] at hw
    obtain ⟨h1, h2⟩ := zclr_at hw
    refine h.2.2 (j, zc E w) (List.mem_cons_of_mem _ (List.mem_filter.mpr ⟨zen_mem.mpr ⟨w, h1, rfl⟩, ?_⟩))
    have e' : ¬ j = i := fun q => e q.symm
    simp only [zc_cat]
    by_cases e2 : j + 1 = i
    · have : ¬ w.category = 2 := fun q => h2 ⟨e2, q⟩
      simp [e', this]
    · simp [e', e2]
theorem zLs_st2 {E : ZE} {ls' : Array Slot} {L : List (Option Value)} {i : Nat} {v v' : Value} (hv : v' = zc E v) (hi : i + 1 < L.length) (h : lv_has ls' L.length ((i, v') :: (zen E L).filter (fun q => !(q.1 == i) && (!(q.1 == i + 1) && !(q.1 + 1 == i && q.2.category == 2))))) : zLs E ls' (zsv2 L i v) := by
  subst hv
  refine ⟨by rw [h.1]; simp [zsv2, zclr_len], h.2.1, fun j w hw => ?_⟩
  unfold zsv2 at hw
  by_cases e1 : i + 1 = j
  · subst e1
    rw [List.getElem?_set_self (by simp [zclr_len]; exact hi)] at hw
    cases hw
  · rw [List.getElem?_set_ne e1] at hw
    by_cases e : i = j
    · subst e
      rw [List.getElem?_set_self (by rw [zclr_len]; omega)] at hw
      cases hw
      exact h.2.2 (i, zc E v) List.mem_cons_self
    · rw [List.getElem?_set_ne e] at hw
      obtain ⟨h1, h2⟩ := zclr_at hw
      refine h.2.2 (j, zc E w) (List.mem_cons_of_mem _ (List.mem_filter.mpr ⟨zen_mem.mpr ⟨w, h1, rfl⟩, ?_⟩))
      have e' : ¬ j = i := fun q => e q.symm
      have e1' : ¬ j = i + 1 := fun q => e1 q.symm
      simp only [zc_cat]
      by_cases e2 : j + 1 = i
      · have : ¬ w.category = 2 := fun q => h2 ⟨e2, q⟩
        simp [e', e1', this]
      · simp [e', e1', e2]
theorem zsv1_len (L : List (Option Value)) (i : Nat) (v : Value) : (zsv1 L i v).length = L.length := by simp [zsv1, zclr_len]
theorem zsv2_len (L : List (Option Value)) (i : Nat) (v : Value) : (zsv2 L i v).length = L.length := by simp [zsv2, zclr_len]
