/-! THE CLAIM OUT OF ONE WALK OF THE LAW'S BODY. Your part is whole_start (and what it stands on); all else here is the same for every law, but numbers. -/
def R_law : String := "GroundByHearsayLaw"
def lw_P (b : Addr) (xs : List Int32) (args : Array Value) (s : State) : Prop := args = #[.ref b] ∧ s.IntsAt b xs ∧ xs.length ≤ 320 ∧ (Jvm.Cond.and given_1 narrow_1).before args s = true
def lw_Q (_ : Array Value) (s : State) (o : Outcome) (t : State) : Prop := o = .returned (some (.int 1)) ∧ Framed s o t [] 600000 7302250
def lw_Z (below : List Frame) (a : Array Value) (s : State) : State → Prop := fun t => ∃ o, t.status = .running ∧ Ended t below o ∧ lw_Q a s o t
/-- the law's own end, with 1 on the stack, nothing written that was there before, its room as the claim has it -/
theorem lw_ret {p : Program} {l : Launch} {e : Env} {s : State} {m : MethodId} {below : List Frame} {meth : Method} {c : Code} {b : Nat} (hx : p.tables.exec = Jvm.exec) (hb : c.code = code) (hr : meth.sig.returnType = ret) (hlocks : meth.locks = false) {pc : Nat} {H : Heap} {ls : Array Slot} (hdg : decode code pc = .ok (.ireturn, 1)) : W p l e room_1 s m #[Value.ref b] below meth c H [] 600000 7302250 (lw_Z below #[Value.ref b] s) (F0 m pc ls [.int 1]) := by
  intro T hT X
  obtain ⟨fs, hret, hrun, hended, hW, hframe⟩ := X.leave (v := some (.int 1)) (hlocks := hlocks) (fun h => by rw [hr] at h; cases h)
  have hmeth' : T.vm.method? m = some meth := X.method'
  refine ⟨T.setFrames fs, ?_, .returned (some (.int 1)), hrun, hended, rfl, ⟨_, rfl⟩, hW, hframe⟩
  jvm_step X.here [X.here.top, hx, hb, hdg, hmeth', hr, ret, narrow_b1]
  (try refine ⟨rfl, ?_⟩); (try refine ⟨rfl, ?_⟩)
  first | (intro acts; rw [hret _ acts rfl rfl rfl]) | rw [hret _ _ rfl rfl rfl]
  exact Steps.refl _
/-- what holds at the law's entry: the machine, the code, the tables' words (any of lw_tbl by 'hts w (by decide +kernel)'), the script of L ints xs at the cell b, what the Statement gives of the start (any of its parts by flat_of_before) -/
def lw_At (p : Program) (s : State) (m : MethodId) (meth : Method) (c : Code) (b L : Nat) (xs : Nat → Int32) : Prop :=
  p.tables.exec = Jvm.exec ∧ c.code = code ∧ meth.sig.returnType = ret ∧ c.maxLocals = 4 ∧ s.vm.findClass R_law = some m.cls ∧ (∀ w ∈ lw_tbl, w.before #[Value.ref b] s = true) ∧ va_X b L xs s s.heap ∧ b < s.heap.size ∧ meth.locks = false ∧ (Jvm.Cond.and given_1 narrow_1).before #[Value.ref b] s = true
/-! THE LAW'S START: a run of the small machine on the law gives the walk of the law -/
def zh0 : ZH := ((0, 0), fun _ => (0, 0), fun _ _ => 0, fun _ _ => none)
def zhold (L : Nat) (xs : Nat → Int32) : Prop := ∃ (n : Nat) (h' : ZH), zrun (L, xs) n 174 0 [some (.retAddr 2), none, none, none] [] zh0 = some (some (.int 1), h') ∧ h'.1.1 ≤ 600000 ∧ h'.1.2 ≤ 7302250
theorem zarr_K {s : State} {args : Array Value} {ty : FieldType} (h : (Cond.arrayClass ty).before args s = true) (hty : ∀ n, ty ≠ .object n) : ∃ cA, ArrOfT s cA ty ∧ va_RA s cA ty := by
  obtain ⟨cA, kA, comp, h1, h2, h3⟩ := Cond.arrayClass_spec h
  refine ⟨cA, fun n z => ⟨fun k h => (by cases h), kA, h2, comp, h3⟩, ?_⟩
  unfold va_RA
  cases ty with
  | object n => exact absurd rfl (hty n)
  | _ => exact h1
theorem zarr_Q {s : State} {args : Array Value} {n : String} (h : (Cond.arrayOver (.object n)).before args s = true) : ∃ cA, ArrOfT s cA (.object n) ∧ va_RA s cA (.object n) := by
  obtain ⟨comp, cA, kA, h1, h2, h3, h4, h5⟩ := Cond.arrayOver_spec h
  exact ⟨cA, fun k z => ⟨fun k h => (by cases h), kA, h3, comp, h4⟩, kA, comp, h3, h4, h1, h5⟩
theorem zwhere : ∀ c ∈ [Jvm.Cond.eq (.static "java/lang/String" "COMPACT_STRINGS" "Z") (.int 1), .isRef (.static "jdk/internal/util/Preconditions" "SIOOBE_FORMATTER" "Ljava/util/function/BiFunction;"), .exactly (.string "GroundByHearsay" 56) "java/lang/String", .eq (.field (.string "GroundByHearsay" 56) "java/lang/String" "coder" "B") (.int 0), .arrayOf (.field (.string "GroundByHearsay" 56) "java/lang/String" "value" "[B") .byte, .eq (.length (.field (.string "GroundByHearsay" 56) "java/lang/String" "value" "[B")) (.int (Int32.ofNat zbytes.length))], c ∈ flatC (Jvm.Cond.and given_1 narrow_1) := by decide +kernel
theorem zwhereE : ∀ j, j < zbytes.length → Jvm.Cond.eq (.elem (.field (.string "GroundByHearsay" 56) "java/lang/String" "value" "[B") (.int (Int32.ofNat j))) (.int (zbytes.getD j 0)) ∈ flatC (Jvm.Cond.and given_1 narrow_1) := by decide +kernel
theorem zwords : ∀ c ∈ [Jvm.Cond.laysStatic "java/lang/String" "COMPACT_STRINGS" "Z", .laysStatic "jdk/internal/util/Preconditions" "SIOOBE_FORMATTER" "Ljava/util/function/BiFunction;", .initialized "java/lang/String", .initialized "jdk/internal/util/Preconditions", .stringRef "GroundByHearsay" 56 zText], c ∈ lw_tbl := by decide +kernel
theorem zlen98 : zbytes.length < 2 ^ 31 := by decide +kernel
set_option maxHeartbeats 4000000 in
theorem z_start {p : Program} {e : Env} {s : State} {m : MethodId} {below : List Frame} {meth : Method} {c : Code} (l : Launch) {b L : Nat} {xs : Nat → Int32} (hold : zhold L xs) (C0 : lw_At p s m meth c b L xs) : W p l e room_1 s m #[Value.ref b] below meth c s.heap [] 0 0 (lw_Z below #[Value.ref b] s) (entryFrame m ([Value.ref b] : List Value).toArray 4) := by
  obtain ⟨hx, hb, hr, hml, hown, hts, hX, hbl, hlocks, hgv⟩ := C0
  obtain ⟨n, h', hrun, hr1, hr2⟩ := hold
  have hs := flat_of_before _ hgv
  have hA : ∀ a : Nat, a < s.heap.size → ¬ (fun q : Nat => s.heap.size ≤ q) a := fun a h1 h2 => Nat.not_le.mpr h1 h2
  -- classes
  have hcl : ∀ k, ∃ q : ClassId × (Nat → Nat), k < 7 → u_Kn s (zcn k) (zT k) (zN k) q.1 q.2 := by
    intro k
    by_cases hk : k < 7
    · obtain ⟨cC, iS, h⟩ := u_known (C := zcn k) (T := zT k) (N := zN k) hts (zin k hk) (hts _ (zinst k hk).1)
      exact ⟨(cC, iS), fun _ => h⟩
    · exact ⟨(0, fun _ => 0), fun h => absurd h hk⟩
  obtain ⟨dd, hdd⟩ := Classical.axiomOfChoice hcl
  obtain ⟨cI, hI1, hI2⟩ := zarr_K (hts _ zarrW.1) (fun n h => by cases h)
  obtain ⟨cC, hC1, hC2⟩ := zarr_K (hts _ zarrW.2.1) (fun n h => by cases h)
  obtain ⟨cQ, hQ1, hQ2⟩ := zarr_Q (hts _ zarrW.2.2)
  -- the outside
  have hZ1 := va_Zof (A := fun q : Nat => s.heap.size ≤ q) (hts _ (zwords _ (by simp))) (hts _ (zwords (.initialized "java/lang/String") (by simp))) (va_eqi (hs _ (zwhere (.eq (.static "java/lang/String" "COMPACT_STRINGS" "Z") (.int 1)) (by simp)))) hA
  obtain ⟨fm, hZ2⟩ : ∃ fm : Option Nat, va_Z "jdk/internal/util/Preconditions" "SIOOBE_FORMATTER" "Ljava/util/function/BiFunction;" (va_rf fm) (fun q : Nat => s.heap.size ≤ q) s s.heap := by
    rcases va_Zqof (A := fun q : Nat => s.heap.size ≤ q) (hts _ (zwords _ (by simp))) (hts _ (zwords (.initialized "jdk/internal/util/Preconditions") (by simp))) (hs _ (zwhere (.isRef (.static "jdk/internal/util/Preconditions" "SIOOBE_FORMATTER" "Ljava/util/function/BiFunction;")) (by simp))) hA with h | ⟨t, h⟩
    · exact ⟨none, h⟩
    · exact ⟨some t, h⟩
  obtain ⟨adK, adV, hS, hev⟩ := vk_Sof (N := 1) (tm := fun _ => Term.string "GroundByHearsay" 56) (len := [zbytes.length]) (byt := [zbytes]) (args := #[Value.ref b]) (s := s) (A := fun q : Nat => s.heap.size ≤ q)
    (fun i hi => by obtain rfl : i = 0 := by omega
                    exact zlen98)
    (fun i hi => hs _ (zwhere _ (by simp))) (fun i hi => hs _ (zwhere _ (by simp))) (fun i hi => hs _ (zwhere _ (by simp)))
    (fun i hi => by obtain rfl : i = 0 := by omega
                    exact hs _ (zwhere _ (by simp)))
    (fun i hi j hj => by obtain rfl : i = 0 := by omega
                         exact hs _ (zwhereE j hj))
    (fun i j hi hj hij => absurd (by omega : i = j) hij) hA
  obtain ⟨g1, g2, g3, g4⟩ := hS.1 0 (by omega)
  let E : ZE := ((fun k => (dd k).1, fun k => (dd k).2), (cI, cC, cQ), s.heap.size, (fun k => if k = 0 then some (adK 0) else if k = 1 then some (adV 0) else if k = 2 then some b else fm), (L, xs))
  have hXE : zX E s s.heap := ⟨hZ1, hZ2, adK 0, adV 0, b, rfl, rfl, rfl, g1, g2, g3, g4, vk_R.of (hts _ (zwords (.stringRef "GroundByHearsay" 56 zText) (by simp))) (hev 0 (by omega)), hX, hA b hbl, hbl⟩
  have hK : va_K E.1 zcl (ztys E) s := by
    refine ⟨fun k q hq => ?_, fun k q hq => ?_⟩
    · by_cases hk : k < 7
      · rw [zcl_at k hk] at hq
        cases hq
        exact hdd k hk
      · rw [List.getElem?_eq_none (by show 7 ≤ k; omega)] at hq
        cases hq
    · match k, hq with
      | 0, hq => cases hq; exact ⟨hI1, hI2⟩
      | 1, hq => cases hq; exact ⟨hC1, hC2⟩
      | 2, hq => cases hq; exact ⟨hQ1, hQ2⟩
      | k + 3, hq => simp at hq
  have hC : zC E 174 p room_1 s m #[Value.ref b] meth c := by
    refine ⟨hx, hb, hml, hown, fun w hw => hts w (List.mem_filter.mp hw).1, ⟨by decide +kernel, by decide +kernel⟩, hK, hXE, Nat.le_refl _, fun q => ?_, fun o i x h hm => va_Nw.of rfl (hts _ hm), va_AO.of (hts _ zarrW.2.2)⟩
    exact absurd q (by decide +kernel)
  have hL := zLs_entry (E := E) (as := [.retAddr 2]) (n := 4) rfl (by decide)
  rw [lg_entry_eq]
  refine zsound E l n 174 0 _ [] zh0 _ h' (by omega) hrun p e room_1 s m _ below meth c _ 0 0 hC rfl hr1 hr2 ?_ s.heap [] _ 0 0 hL rfl ⟨?_, va_S.rf⟩ rfl rfl
  · intro pc2 w L2 st2 i hi hz H locs ls cells slots hL hn hB hce hsl
    obtain ⟨hd, -, hw⟩ := zins_ok (by omega) hi
    rcases zend_ret hz with ⟨v, rfl, rfl, hv, -⟩ | ⟨v, nm, rfl, rfl, hv, hty, -⟩ | ⟨rfl, rfl, hv, -⟩
    · cases hv
      obtain rfl := hw.resolve_right (by simp [zlen])
      refine va_forget (fun q hq => hB.2.2.2 q hq) ?_
      refine W.widen (k := 600000) (n := 7302250) (by omega) (by omega) ?_
      exact lw_ret hx hb hr hlocks hd
    · cases hty
    · cases hv
  · intro k q hq
    simp [zws, zh0] at hq
