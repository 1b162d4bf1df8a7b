/-! THE WHOLE RUN: what the small machine answers, the machine answers -/
section ZCallS
variable {p : Program} {l : Launch} {e : Env} {R : Room} {s : State} {m : MethodId} {args : Array Value} {below : List Frame} {meth : Method} {c : Code} {Q : State → Prop}
variable {E : ZE} {y n0 t0 pc pc' w : Nat} {L L' : List (Option Value)} {st st' : List Value} {h h' : ZH}
def zQ (E : ZE) (r : Option Value) (h' : ZH) : Array Value → State → Outcome → State → Prop := fun _ st oc t => oc = .returned (r.map (zc E)) ∧ va_P E.1 zcl (zws E h') t.heap ∧ va_F (zA E) st t
def zIn (E : ZE) (h : ZH) : State → Prop := fun U => U.heap.size = E.2.2.1 + h.1.1 ∧ va_P E.1 zcl (zws E h) U.heap ∧ va_K E.1 zcl (ztys E) U ∧ zX E U U.heap ∧ zNst U ∧ va_AO "GroundByHearsay$Mill" U
abbrev zws0 (y : Nat) : List Jvm.Cond := .code (zname y) (zcode y) (zq y).2.2.2.1 (zret y) :: zTs
abbrev zrm (y mc ms : Nat) : Room := { frames := (zq y).2.2.2.2.1, cells := mc, slots := ms, locals := (zq y).2.2.2.2.2 }
def zMet (E : ZE) (l : Launch) (y : Nat) (as : List Value) (h : ZH) (r : Option Value) (h' : ZH) : Prop :=
  Met l (zname y) (zws0 y) (zrm y (h'.1.1 - h.1.1) (h'.1.2 - h.1.2)) (va_Pc (as.map (zc E)) (zIn E h)) (zQ E r h') (h'.1.1 - h.1.1) (h'.1.2 - h.1.2) (zA E)
/-- how large the heap is: its cells are there, and no more were made -/
theorem z_size {H : Heap} {locs : List Loc} {cells slots : Nat} {g : JFrame} (h0 : s.heap.size = E.2.2.1 + n0) (hB : zB E h s H locs) (hce : cells + n0 = h.1.1)
    (k : H.size = E.2.2.1 + h.1.1 → W p l e R s m args below meth c H locs cells slots Q g) : W p l e R s m args below meth c H locs cells slots Q g := by
  intro T hT X
  have hz : T.heap.size ≤ s.heap.size + cells := X.heapSize
  rw [hT] at hz
  have h1 := hB.2.1
  refine k ?_ T hT X
  by_cases hc : cells = 0
  · omega
  · have hk : h.1.1 - 1 < h.1.1 := by omega
    have h2 := (hB.1 _ _ (zws_at hk)).lt
    have h3 : E.2.2.1 + (h.1.1 - 1) < H.size := h2
    omega
theorem z_back {r : Option Value} {H : Heap} {locs : List Loc} {cells slots mc ms : Nat} {ls : Array Slot} {st0 rest : List Value} {a : Array Value} (hr : va_Run p l e R s m args below meth c H locs cells slots mc ms (F0 m pc ls st0) rest (zQ E r h' a) (zA E)) (hS : va_S (zA E) s.heap H locs)
    (kk : ∀ (H1 : Heap) (locs1 : List Loc), va_P E.1 zcl (zws E h') H1 → va_S (zA E) s.heap H1 locs1 → W p l e R s m args below meth c H1 locs1 (cells + mc) (slots + ms) Q (F0 m (pc + 3) ls ((r.map (zc E)).toList ++ rest))) : W p l e R s m args below meth c H locs cells slots Q (F0 m pc ls st0) := by
  intro T hT X
  obtain ⟨v, st₀, t, T', L, h0, X', hL, e1, e2, ⟨hv, hp, hz, hk⟩, st⟩ := hr T hT X
  cases hv
  rw [h0] at hz hk
  obtain ⟨t2, a1, b1⟩ := kk T'.heap (locs ++ L) (by rw [e1]; exact hp)
    ⟨Nat.le_trans hS.1 (by rw [e1]; exact hz), fun q h1 h2 => by rw [e1, hk q (Nat.lt_of_lt_of_le h1 hS.1) h2]; exact hS.2.1 q h1 h2, fun q hq => by
      rcases List.mem_append.mp hq with h | h
      · exact hS.2.2 q h
      · exact hL q h⟩ T' rfl X'
  exact ⟨t2, st t2 a1, b1⟩
/-- what zokM looked up -/
theorem zokM_ok {k : Nat} (hk : k < 174) : Cond.code (zname k) (zcode k) (zq k).2.2.2.1 (zret k) ∈ zTs ∧ Cond.initialized (zname k).cls ∈ zTs ∧ (zname k).cls = zcn (zq k).1 ∧ ((zname k).cls ≠ "java/lang/invoke/MethodHandle" ∧ (zname k).cls ≠ "java/lang/invoke/VarHandle") ∧ plainName (zname k).cls = true ∧
    ((zq k).2.2.1 = 0 → (parseMethodDescriptor (zname k).desc).map (fun d => d.parameters.length + 1) = some (zq k).2.1 ∧ Cond.instanceMethod (zname k) ∈ zTs ∧ Cond.selects (zname k).cls (zname k) (zname k) ∈ zTs) ∧
    ((zq k).2.2.1 = 1 → (parseMethodDescriptor (zname k).desc).map (fun d => d.parameters.length) = some (zq k).2.1 ∧ Cond.static (zname k) ∈ zTs) ∧
    ((zq k).2.2.1 = 2 → (parseMethodDescriptor (zname k).desc).map (fun d => d.parameters.length + 1) = some (zq k).2.1 ∧ Cond.instanceMethod (zname k) ∈ zTs ∧ (zname k).name = "<init>" ∧ zret k = none) := by
  have h := zokM_all k hk
  unfold zokM at h
  obtain ⟨h, h7⟩ := zand h
  obtain ⟨h, h6⟩ := zand h
  obtain ⟨h, h5⟩ := zand h
  obtain ⟨h, h4⟩ := zand h
  obtain ⟨h, h3⟩ := zand h
  obtain ⟨h1, h2⟩ := zand h
  refine ⟨zTs_of (zhas_mem h1) rfl, zTs_of (zhas_mem h2) rfl, of_decide_eq_true h3, ⟨of_decide_eq_true h4, of_decide_eq_true h5⟩, h6, fun q => ?_, fun q => ?_, fun q => ?_⟩
  · rw [q] at h7
    obtain ⟨h7, h9⟩ := zand h7
    obtain ⟨h7, h8⟩ := zand h7
    exact ⟨of_decide_eq_true h7, zTs_of (zhas_mem h8) rfl, zTs_of (zhas_mem h9) rfl⟩
  · rw [q] at h7
    obtain ⟨h7, h8⟩ := zand h7
    exact ⟨of_decide_eq_true h7, zTs_of (zhas_mem h8) rfl⟩
  · rw [q] at h7
    obtain ⟨h7, h10⟩ := zand h7
    obtain ⟨h7, h9⟩ := zand h7
    obtain ⟨h7, h8⟩ := zand h7
    exact ⟨of_decide_eq_true h7, zTs_of (zhas_mem h8) rfl, of_decide_eq_true h9, of_decide_eq_true h10⟩
theorem zcall_at {o k d i : Nat} {b : Bool} (ho : o < 14) (hk : k < 2048) (hf : zcall (o * 2048 + k) = some (d, b, i)) : d < 174 ∧ (b = false → Cond.methodLink (zcn o) k (zname d) ∈ zTs) ∧ (b = true → Cond.methodLinkNest (zcn o) k (zname d) "GroundByHearsay" ∈ lw_tbl) := by
  have h1 := zkey zokC_all ho hk
  unfold zokC at h1
  rw [hf] at h1
  obtain ⟨e1, e2⟩ := zdiv o k hk
  rw [e1, e2] at h1
  obtain ⟨h1, h2⟩ := zand h1
  refine ⟨zblt h1, fun q => ?_, fun q => ?_⟩
  · subst q
    exact zTs_of (zhas_mem h2) rfl
  · subst q
    exact zhas_mem h2
theorem zgood0 {k : Nat} (hk : k < 174) : GoodIn zTs (zws0 k) := by
  intro w hw
  rcases List.mem_cons.mp hw with rfl | hw
  · exact zTs_good _ (zokM_ok hk).1
  · exact zTs_good _ hw
theorem zIn_blind (E : ZE) (as : List Value) (h : ZH) : FrameBlind (va_Pc (as.map (zc E)) (zIn E h)) := by
  intro a U g mk q
  obtain ⟨q0, q1, q2, q3, q4, q5, q6⟩ := q
  exact ⟨q0, q1, q2, va_K.moved (u := U) (U := U.calling g mk a) (Vm.Alike.refl U.vm) q3, zX.same (u := U) rfl q4, zNst.same (u := U) rfl q5, va_AO.moved (u := U) (U := U.calling g mk a) (Vm.Alike.refl U.vm) q6⟩
theorem zIn_at {H : Heap} {locs : List Loc} {U : State} (hC : zC E y p R s m args meth c) (hB : zB E h s H locs) (hz : H.size = E.2.2.1 + h.1.1) (hU : U.heap = H) (hW : s.WarmedH U.vm) : zIn E h U := by
  refine ⟨by rw [hU]; exact hz, by rw [hU]; exact hB.1, va_K.moved hW.alike hC.K, ?_, zNst.warm hW hC.2.2.2.2.2.2.2.2.2.2.1, va_AO.moved hW.alike hC.2.2.2.2.2.2.2.2.2.2.2⟩
  rw [hU]
  exact hC.X.on hW hB.2.1 hB.2.2.1
theorem zmapO {r : Option Value} {rest : List Value} : (r.map (zc E)).toList ++ rest.map (zc E) = (r.toList ++ rest).map (zc E) := by cases r <;> rfl
theorem zlen_par {k : Nat} {f : Nat → Nat} {o : Option MethodDescriptor} (h : o.map (fun d => f d.parameters.length) = some k) : ∃ n, f n = k ∧ o.map (fun d => d.parameters.length) = some n := by
  cases o with
  | none => cases h
  | some d => exact ⟨d.parameters.length, Option.some.inj h, rfl⟩
set_option maxHeartbeats 1000000 in
theorem z_call {i : Instr} {d : Nat} {rc : Option Value} {hc : ZH} (hC : zC E y p R s m args meth c) (h0 : s.heap.size = E.2.2.1 + n0) (ho : (zq y).1 < 14) (hd : decode (zcode y) pc = .ok (i, w)) (hx : zix i < 2048) (hw : zlen i = w ∨ zlen i = 0) (hi : zcal y i = some d)
    (hok : zcok y d h (st.take (zq d).2.1).reverse (st.drop (zq d).2.1) = true) (hM : zMet E l d (st.take (zq d).2.1).reverse h rc hc) (hm1 : h.1.1 ≤ hc.1.1) (hm2 : h.1.2 ≤ hc.1.2) (hr1 : hc.1.1 ≤ R.cells + n0) (hr2 : hc.1.2 ≤ R.slots + t0)
    (g : zGo E y n0 t0 p l e R s m args below meth c Q (pc + 3) L (rc.toList ++ st.drop (zq d).2.1) hc) : zGo E y n0 t0 p l e R s m args below meth c Q pc L st h := by
  intro H locs ls cells slots hL hn hB hce hsl
  refine z_size h0 hB hce fun hz => ?_
  obtain ⟨hok, hk7⟩ := zand hok
  obtain ⟨hok, hk6⟩ := zand hok
  obtain ⟨hok, hk5⟩ := zand hok
  obtain ⟨hok, hk4⟩ := zand hok
  obtain ⟨hok, hk3⟩ := zand hok
  obtain ⟨hk1, hk2⟩ := zand hok
  have hk1 := zbeq hk1
  have hk5 := zble hk5
  have hk6 := zble hk6
  have hk7 := zble hk7
  have hst : st = (st.take (zq d).2.1).reverse.reverse ++ st.drop (zq d).2.1 := by rw [List.reverse_reverse, List.take_append_drop]
  generalize (st.take (zq d).2.1).reverse = as at *
  generalize st.drop (zq d).2.1 = rest at *
  have hR := hC.2.2.2.2.2.1
  have own := hC.2.2.2.1
  have hfix : CallFix p m c (zcode y) (zq y).2.2.2.1 s args zTs (zcn (zq y).1) := ⟨hC.1, hC.2.1, hC.2.2.1, own, hC.2.2.2.2.1⟩
  have hsize : (F0 m pc ls (st.map (zc E))).locals.size = (zq y).2.2.2.1 := by rw [← hn]; exact hL.1
  have hroom : 2 * (F0 m pc ls (st.map (zc E))).monitorRoom + ((rest.map (zc E)).map fun v => v.category).sum ≤ 8 := by
    rw [zc_sum]
    show 2 * 0 + _ ≤ 8
    omega
  have hcs : cells + (hc.1.1 - h.1.1) ≤ R.cells ∧ slots + (hc.1.2 - h.1.2) ≤ R.slots := by omega
  have hbb := zIn_blind E as h
  have hpc : ∀ U : State, U.heap = H → s.WarmedH U.vm → va_Pc (as.map (zc E)) (zIn E h) (as.map (zc E)).toArray U := fun U hU hW => ⟨rfl, zIn_at hC hB hz hU hW⟩
  have kk : ∀ (H1 : Heap) (locs1 : List Loc), va_P E.1 zcl (zws E hc) H1 → va_S (zA E) s.heap H1 locs1 → W p l e R s m args below meth c H1 locs1 (cells + (hc.1.1 - h.1.1)) (slots + (hc.1.2 - h.1.2)) Q (F0 m (pc + 3) ls ((rc.map (zc E)).toList ++ rest.map (zc E))) := by
    intro H1 locs1 hP hS
    rw [zmapO]
    exact g H1 locs1 ls _ _ hL hn ⟨hP, hS⟩ (by omega) (by omega)
  have hstk : st.map (zc E) = (as.map (zc E)).reverse ++ rest.map (zc E) := by rw [hst, List.map_append, List.map_reverse]
  cases i with
  | invokevirtual k =>
    obtain rfl := hw.resolve_right (by simp [zlen])
    simp only [zlen] at hd
    simp only [zcal] at hi
    split at hi
    · next d' b i0 hf =>
      obtain ⟨hk0, hi⟩ := zbif hi
      cases hi
      have hk0 := zbeq hk0
      obtain ⟨hd174, hl1, hl2⟩ := zcall_at ho hx hf
      obtain ⟨hw1, hw2, hw3, hw4, hw5, hw6, -, -⟩ := zokM_ok hd174
      obtain ⟨hp, hin, hsel⟩ := hw6 hk0
      obtain ⟨np, hnp, hp⟩ := zlen_par (f := fun n => n + 1) hp
      cases as with
      | nil => simp [zrcv, hk0] at hk2
      | cons a0 as =>
        have hnas : (as.map (zc E)).length = np := by
          have : (a0 :: as).length = (zq d).2.1 := hk1
          simp only [List.length_cons] at this
          simp only [List.length_map]
          omega
        obtain ⟨b0, hb0, hrc⟩ : ∃ b0, zc E a0 = .ref b0 ∧ ∃ cellB : Cell, H[b0]? = some cellB ∧ cellB.vm.isStatics = false ∧ s.vm.findClass (zname d).cls = some cellB.cls := by
          cases a0 with
          | ref a =>
            simp only [zrcv, hk0] at hk2
            obtain ⟨hk2, hk8⟩ := zand hk2
            obtain ⟨hk9, hk2⟩ := zand hk2
            refine ⟨E.2.2.1 + a, rfl, ?_⟩
            rw [hw3]
            exact va_recv (ci := (zq d).1) (q0 := a) (q := (zcn (zq d).1, zT (zq d).1, zN (zq d).1)) hC.K hB.1 (zcl_at _ (zblt hk8)) (by rw [zws_at (zblt hk9), zcell_o (zbeq hk2) (zblt hk8)])
          | retAddr a =>
            cases a with
            | zero =>
              simp only [zrcv, hk0] at hk2
              obtain ⟨-, -, aK, aV, b1, q0, q1, q2, g1, -⟩ := hC.X
              refine ⟨aK, by show va_rf _ = _; rw [q0]; rfl, ?_⟩
              obtain ⟨cell, r1, r2, r3, -⟩ := g1.kept hB.2.2.1
              refine ⟨cell, r1, r2, ?_⟩
              rw [hw3, zbeq hk2]
              exact r3
            | succ a => simp [zrcv, hk0] at hk2
          | _ => simp [zrcv, hk0] at hk2
        rw [List.map_cons, hb0] at hpc
        have hstk' : st.map (zc E) = (as.map (zc E)).reverse ++ .ref b0 :: rest.map (zc E) := by rw [hstk, List.map_cons, hb0]; simp
        have hpre : PreV s H (zname d).cls b0 (va_Pc ((a0 :: as).map (zc E)) (zIn E h)) (as.map (zc E)) := ⟨hbb, hrc, fun U hU hW => by rw [List.map_cons, hb0]; exact hpc U hU hW⟩
        cases b with
        | false =>
          refine z_back (va_runV (rest := rest.map (zc E)) hfix hM (cwV np hC.2.2.2.2.1 (ws := zws0 d) ?_ rfl rfl rfl ⟨rfl, hw4.1, hw4.2, hp⟩ ⟨by show (zq d).2.2.2.2.1 + 1 ≤ _; omega, by show 8 + ((zq d).2.2.2.1 + 11) + (zq d).2.2.2.2.2 ≤ _; omega⟩) hpre rfl hnas hsize hstk' hroom hd hcs) hB.2 kk
          intro w hw
          rcases List.mem_append.mp hw with q | q
          · simp only [List.mem_cons, List.not_mem_nil, or_false] at q
            rcases q with rfl | rfl | rfl | rfl
            · exact zTs_good _ (hl1 rfl)
            · exact zTs_good _ hin
            · exact zTs_good _ hsel
            · exact zTs_good _ hw2
          · exact zgood0 hd174 _ q
        | true =>
          exact z_back (va_runVN (rest := rest.map (zc E)) hfix hM ⟨va_cnB np hC.2.2.2.2.1 (ws := zws0 d) (zgood0 hd174) rfl rfl rfl (hC.2.2.2.2.2.2.2.2.2.2.1 _ _ _ _ (hl2 rfl)) (hC.word hw2) ⟨hw4.1, hw4.2, hp⟩ ⟨by show (zq d).2.2.2.2.1 + 1 ≤ _; omega, by show 8 + ((zq d).2.2.2.1 + 11) + (zq d).2.2.2.2.2 ≤ _; omega⟩, hC.word hin, hC.word hsel⟩ hpre rfl hnas hsize hstk' hroom hd hcs) hB.2 kk
    · cases hi
  | invokestatic k =>
    obtain rfl := hw.resolve_right (by simp [zlen])
    simp only [zlen] at hd
    simp only [zcal] at hi
    split at hi
    · next d' b i0 hf =>
      obtain ⟨hk0, hi⟩ := zbif hi
      cases hi
      have hk0 := zbeq hk0
      obtain ⟨hd174, hl1, hl2⟩ := zcall_at ho hx hf
      obtain ⟨hw1, hw2, hw3, hw4, hw5, -, hw6, -⟩ := zokM_ok hd174
      obtain ⟨hp, hst1⟩ := hw6 hk0
      have hnas : (as.map (zc E)).length = (zq d).2.1 := by rw [List.length_map]; exact hk1
      cases b with
      | false =>
        refine z_back (va_runS (rest := rest.map (zc E)) hfix hM (va_cwS (zq d).2.1 hC.2.2.2.2.1 (ws := zws0 d) ?_ rfl rfl rfl ⟨hw4.1, hw4.2, hp⟩ ⟨by show (zq d).2.2.2.2.1 + 1 ≤ _; omega, by show 8 + ((zq d).2.2.2.1 + 11) + (zq d).2.2.2.2.2 ≤ _; omega⟩) ⟨hbb, hpc⟩ rfl hnas hsize hstk hroom hd hcs) hB.2 kk
        intro w hw
        rcases List.mem_append.mp hw with q | q
        · simp only [List.mem_cons, List.not_mem_nil, or_false] at q
          rcases q with rfl | rfl | rfl
          · exact zTs_good _ (hl1 rfl)
          · exact zTs_good _ hst1
          · exact zTs_good _ hw2
        · exact zgood0 hd174 _ q
      | true =>
        exact z_back (va_runSN (rest := rest.map (zc E)) hfix hM ⟨va_cnB (zq d).2.1 hC.2.2.2.2.1 (ws := zws0 d) (zgood0 hd174) rfl rfl rfl (hC.2.2.2.2.2.2.2.2.2.2.1 _ _ _ _ (hl2 rfl)) (hC.word hw2) ⟨hw4.1, hw4.2, hp⟩ ⟨by show (zq d).2.2.2.2.1 + 1 ≤ _; omega, by show 8 + ((zq d).2.2.2.1 + 11) + (zq d).2.2.2.2.2 ≤ _; omega⟩, hC.word hst1, trivial⟩ ⟨hbb, hpc⟩ rfl hnas hsize hstk hroom hd hcs) hB.2 kk
    · cases hi
  | invokespecial k =>
    obtain rfl := hw.resolve_right (by simp [zlen])
    simp only [zlen] at hd
    simp only [zcal] at hi
    split at hi
    · next d' b i0 hf =>
      obtain ⟨hk0, hi⟩ := zbif hi
      cases hi
      have hk0 := zbeq hk0
      obtain ⟨hd174, hl1, hl2⟩ := zcall_at ho hx hf
      obtain ⟨hw1, hw2, hw3, hw4, hw5, -, -, hw6⟩ := zokM_ok hd174
      obtain ⟨hp, hin, hini, hret⟩ := hw6 hk0
      obtain ⟨np, hnp, hp⟩ := zlen_par (f := fun n => n + 1) hp
      cases as with
      | nil => simp [zrcv, hk0] at hk2
      | cons a0 as =>
        have hnas : (as.map (zc E)).length = np := by
          have : (a0 :: as).length = (zq d).2.1 := hk1
          simp only [List.length_cons] at this
          simp only [List.length_map]
          omega
        obtain ⟨b0, hb0⟩ : ∃ b0, zc E a0 = .ref b0 := by
          cases a0 with
          | ref a => exact ⟨_, rfl⟩
          | _ => simp [zrcv, hk0] at hk2
        have hpre : PreS s H (va_Pc ((a0 :: as).map (zc E)) (zIn E h)) (.ref b0 :: as.map (zc E)) := ⟨hbb, fun U hU hW => by have := hpc U hU hW; rw [List.map_cons, hb0] at this ⊢; exact this⟩
        have hstk' : st.map (zc E) = (as.map (zc E)).reverse ++ .ref b0 :: rest.map (zc E) := by rw [hstk, List.map_cons, hb0]; simp
        have hwe : zws0 d = .code (zname d) (zcode d) (zq d).2.2.2.1 none :: zTs := by show Cond.code _ _ _ _ :: _ = _; rw [hret]
        have hM' := hM
        unfold zMet at hM'
        rw [List.map_cons, hb0] at hM'
        rw [List.map_cons, hb0] at hpre
        cases b with
        | false =>
          exact z_back (va_runI (rest := rest.map (zc E)) hfix hM' (cwI np hC.2.2.2.2.1 (zgood0 hd174) hwe rfl rfl (hC.word hw2) (hC.word (hl1 rfl)) (hC.word hin) hini ⟨hw4.1, hw4.2, hp⟩ ⟨by show (zq d).2.2.2.2.1 + 1 ≤ _; omega, by show 8 + ((zq d).2.2.2.1 + 11) + (zq d).2.2.2.2.2 ≤ _; omega⟩) hpre rfl hnas hsize hstk' hroom hd hcs) hB.2 kk
        | true =>
          exact z_back (va_runIN (rest := rest.map (zc E)) hfix hM' ⟨va_cnB np hC.2.2.2.2.1 (zgood0 hd174) hwe rfl rfl (hC.2.2.2.2.2.2.2.2.2.2.1 _ _ _ _ (hl2 rfl)) (hC.word hw2) ⟨hw4.1, hw4.2, hp⟩ ⟨by show (zq d).2.2.2.2.1 + 1 ≤ _; omega, by show 8 + ((zq d).2.2.2.1 + 11) + (zq d).2.2.2.2.2 ≤ _; omega⟩, hini, hC.word hin⟩ hpre rfl hnas hsize hstk' hroom hd hcs) hB.2 kk
    · cases hi
  | _ => simp [zcal] at hi
end ZCallS
