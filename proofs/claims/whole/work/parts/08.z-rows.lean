/-! the other rows: arrays made, the text and the script, the JDK's natives -/
theorem zstrW : Cond.fieldLink "java/lang/String" 38 "java/lang/String" "COMPACT_STRINGS" "Z" ∈ lw_tbl ∧ Cond.fieldLink "java/lang/String" 1053 "jdk/internal/util/Preconditions" "SIOOBE_FORMATTER" "Ljava/util/function/BiFunction;" ∈ lw_tbl ∧ Cond.fieldLink "java/lang/String" 9 "java/lang/String" "value" "[B" ∈ lw_tbl ∧ Cond.fieldLink "java/lang/String" 15 "java/lang/String" "coder" "B" ∈ lw_tbl := ⟨zhas_mem (i := 184) (by decide +kernel), zhas_mem (i := 200) (by decide +kernel), zhas_mem (i := 987) (by decide +kernel), zhas_mem (i := 988) (by decide +kernel)⟩
section ZRows
variable {p : Program} {l : Launch} {e : Env} {R : Room} {s : State} {m : MethodId} {args : Array Value} {below : List Frame} {meth : Method} {c : Code} {Q : State → Prop}
variable {E : ZE} {y n0 t0 pc pc' : Nat} {L L' : List (Option Value)} {st st' : List Value} {h h' : ZH}
theorem zRA_eq {s : State} {tys : List (ClassId × FieldType)} {D : va_G} {ty : FieldType} {cA cB : ClassId} {i j : Nat} (hK : va_K D zcl tys s) (hi : tys[i]? = some (cA, ty)) (hj : tys[j]? = some (cB, ty)) : cA = cB := by
  have h1 := (hK.2 i _ hi).2
  have h2 := (hK.2 j _ hj).2
  unfold va_RA at h1 h2
  cases ty with
  | object C =>
    obtain ⟨-, -, -, -, -, h1⟩ := h1
    obtain ⟨-, -, -, -, -, h2⟩ := h2
    exact Option.some.inj (h1.symm.trans h2)
  | _ => exact Option.some.inj (h1.symm.trans h2)
theorem z_newI {n : Int32} {r : List Value} (hC : zC E y p R s m args meth c) (h0 : s.heap.size = E.2.2.1 + n0) (hd : decode (zcode y) pc = .ok (.newarray .int, 2)) (hn1 : ¬ n < 0) (hn2 : n.toNatClampNeg < 1000) (hr1 : h.1.1 + 1 ≤ R.cells + n0) (hr2 : h.1.2 + n.toNatClampNeg ≤ R.slots + t0)
    (g : zGo E y n0 t0 p l e R s m args below meth c Q (pc + 2) L (.ref h.1.1 :: r) (znew h 100 n.toNatClampNeg)) : zGo E y n0 t0 p l e R s m args below meth c Q pc L (.int n :: r) h := by
  intro H locs ls cells slots hL hn hB hce hsl
  refine va_newa (D := E.1) (atype := .int) (ty := .int) (N' := n.toNatClampNeg) (a0 := (n.toNatClampNeg, .inl (fun _ => 0))) hC.1 hC.2.1 (hC.word (zTs_of zarrW.1 rfl)) rfl hC.K hB.1 (zws_D E h) hB.2 hC.A (fun cA => rfl) hn1 rfl (by show n.toNatClampNeg * 4 ≤ _; omega) (by omega) (by omega) hd (fun q cA H1 hK hP hD hS => ?_)
  refine z_addr h0 hce hP hD (fun hq => ?_)
  subst hq
  have hcA : cA = E.2.1.1 := zRA_eq (i := 3) (j := 0) hK rfl rfl
  subst hcA
  rw [zws_push (h := h) (h' := znew h 100 n.toNatClampNeg) rfl (by rw [zcell_i (by rw [znew_s]), znew_s, znew_i]) fun j hj => zcell_old hj] at hP
  exact g H1 locs ls (cells + 1) (slots + n.toNatClampNeg) hL hn ⟨hP, hS⟩ (by show cells + 1 + n0 = h.1.1 + 1; omega) (by show slots + n.toNatClampNeg + t0 = h.1.2 + n.toNatClampNeg; omega)
theorem z_newC {n : Int32} {r : List Value} (hC : zC E y p R s m args meth c) (h0 : s.heap.size = E.2.2.1 + n0) (hd : decode (zcode y) pc = .ok (.newarray .char, 2)) (hn1 : ¬ n < 0) (hn2 : n.toNatClampNeg < 1000) (hr1 : h.1.1 + 1 ≤ R.cells + n0) (hr2 : h.1.2 + n.toNatClampNeg ≤ R.slots + t0)
    (g : zGo E y n0 t0 p l e R s m args below meth c Q (pc + 2) L (.ref h.1.1 :: r) (znew h 101 n.toNatClampNeg)) : zGo E y n0 t0 p l e R s m args below meth c Q pc L (.int n :: r) h := by
  intro H locs ls cells slots hL hn hB hce hsl
  refine va_newa (D := E.1) (atype := .char) (ty := .char) (N' := n.toNatClampNeg) (a0 := (n.toNatClampNeg, .inl (fun _ => 0))) hC.1 hC.2.1 (hC.word (zTs_of zarrW.2.1 rfl)) rfl hC.K hB.1 (zws_D E h) hB.2 hC.A (fun cA => rfl) hn1 rfl (by show n.toNatClampNeg * 2 ≤ _; omega) (by omega) (by omega) hd (fun q cA H1 hK hP hD hS => ?_)
  refine z_addr h0 hce hP hD (fun hq => ?_)
  subst hq
  have hcA : cA = E.2.1.2.1 := zRA_eq (i := 3) (j := 1) hK rfl rfl
  subst hcA
  rw [zws_push (h := h) (h' := znew h 101 n.toNatClampNeg) rfl (by rw [zcell_c (by rw [znew_s]), znew_s, znew_i]) fun j hj => zcell_old hj] at hP
  exact g H1 locs ls (cells + 1) (slots + n.toNatClampNeg) hL hn ⟨hP, hS⟩ (by show cells + 1 + n0 = h.1.1 + 1; omega) (by show slots + n.toNatClampNeg + t0 = h.1.2 + n.toNatClampNeg; omega)
theorem z_newQ {n : Int32} {k i : Nat} {r : List Value} (ho : (zq y).1 < 14) (hk : k < 2048) (hC : zC E y p R s m args meth c) (h0 : s.heap.size = E.2.2.1 + n0) (hd : decode (zcode y) pc = .ok (.anewarray k, 3)) (hf : zmk (zlk y k) = some (1, i)) (hn1 : ¬ n < 0) (hn2 : n.toNatClampNeg < 1000) (hr1 : h.1.1 + 1 ≤ R.cells + n0) (hr2 : h.1.2 + n.toNatClampNeg ≤ R.slots + t0)
    (g : zGo E y n0 t0 p l e R s m args below meth c Q (pc + 3) L (.ref h.1.1 :: r) (znew h 102 n.toNatClampNeg)) : zGo E y n0 t0 p l e R s m args below meth c Q pc L (.int n :: r) h := by
  intro H locs ls cells slots hL hn hB hce hsl
  obtain ⟨hd7, hw⟩ := zmk_ok ho hk hf
  refine va_newq (D := E.1) (C := zcn 1) (N' := n.toNatClampNeg) hC.1 hC.2.1 hC.2.2.2.1 (hC.word hw) hC.2.2.2.2.2.2.2.2.2.2.2 hC.K hB.1 (zws_D E h) hB.2 hC.A hn1 rfl (by omega) (by omega) (by omega) hd (fun q cA H1 hK hP hD hS => ?_)
  refine z_addr h0 hce hP hD (fun hq => ?_)
  subst hq
  have hcA : cA = E.2.1.2.2 := zRA_eq (i := 3) (j := 2) hK rfl rfl
  subst hcA
  rw [zws_push (h := h) (h' := znew h 102 n.toNatClampNeg) rfl (by rw [zcell_q (by rw [znew_s]), znew_s, znew_p]; rfl) fun j hj => zcell_old hj] at hP
  exact g H1 locs ls (cells + 1) (slots + n.toNatClampNeg) hL hn ⟨hP, hS⟩ (by show cells + 1 + n0 = h.1.1 + 1; omega) (by show slots + n.toNatClampNeg + t0 = h.1.2 + n.toNatClampNeg; omega)
theorem z_gets {k : Nat} (hC : zC E y p R s m args meth c) (hd : decode (zcode y) pc = .ok (.getstatic k, 3)) (hk : k < 2048) (hf : zlk y k = 16422)
    (g : zGo E y n0 t0 p l e R s m args below meth c Q (pc + 3) L (.int 1 :: st) h) : zGo E y n0 t0 p l e R s m args below meth c Q pc L st h := by
  intro H locs ls cells slots hL hn hB hce hsl
  unfold zlk at hf
  obtain ⟨e1, e2⟩ : (zq y).1 = 8 ∧ k = 38 := by omega
  subst e2
  have hown : s.vm.findClass "java/lang/String" = some m.cls := by have := hC.2.2.2.1; rw [e1] at this; exact this
  exact va_gets hC.1 hC.2.1 hC.X.1 hB.2 hown (hC.word (zTs_of zstrW.1 rfl)) (fun _ q => q) hd (g H locs ls cells slots hL hn hB hce hsl)
theorem z_gets3 {k : Nat} (hC : zC E y p R s m args meth c) (hd : decode (zcode y) pc = .ok (.getstatic k, 3)) (hk : k < 2048) (hf : zlk y k = 17437)
    (g : zGo E y n0 t0 p l e R s m args below meth c Q (pc + 3) L (.retAddr 3 :: st) h) : zGo E y n0 t0 p l e R s m args below meth c Q pc L st h := by
  intro H locs ls cells slots hL hn hB hce hsl
  unfold zlk at hf
  obtain ⟨e1, e2⟩ : (zq y).1 = 8 ∧ k = 1053 := by omega
  subst e2
  have hown : s.vm.findClass "java/lang/String" = some m.cls := by have := hC.2.2.2.1; rw [e1] at this; exact this
  exact va_gets hC.1 hC.2.1 hC.X.2.1 hB.2 hown (hC.word (zTs_of zstrW.2.1 rfl)) (fun _ q => q) hd (g H locs ls cells slots hL hn hB hce hsl)
theorem z_strV {k : Nat} {r : List Value} (hC : zC E y p R s m args meth c) (hd : decode (zcode y) pc = .ok (.getfield k, 3)) (hk : k < 2048) (hf : zlk y k = 16393)
    (g : zGo E y n0 t0 p l e R s m args below meth c Q (pc + 3) L (.retAddr 1 :: r) h) : zGo E y n0 t0 p l e R s m args below meth c Q pc L (.retAddr 0 :: r) h := by
  intro H locs ls cells slots hL hn hB hce hsl
  have g' := g H locs ls cells slots hL hn hB hce hsl
  unfold zlk at hf
  obtain ⟨e1, e2⟩ : (zq y).1 = 8 ∧ k = 9 := by omega
  subst e2
  have hown : s.vm.findClass "java/lang/String" = some m.cls := by have := hC.2.2.2.1; rw [e1] at this; exact this
  obtain ⟨-, -, aK, aV, b, q0, q1, q2, g1, g2, g3, g4, g5, g6, g7, g8⟩ := hC.X
  have z0 : zc E (.retAddr 0) = .ref aK := by show va_rf _ = _; rw [q0]; rfl
  have z1 : zc E (.retAddr 1) = .ref aV := by show va_rf _ = _; rw [q1]; rfl
  rw [List.map_cons, z1] at g'
  rw [List.map_cons, z0]
  exact vk_getf hC.1 hC.2.1 g3 hB.2 hown (hC.word (zTs_of zstrW.2.2.1 rfl)) (fun _ q => q) hd g'
theorem z_strC {k : Nat} {r : List Value} (hC : zC E y p R s m args meth c) (hd : decode (zcode y) pc = .ok (.getfield k, 3)) (hk : k < 2048) (hf : zlk y k = 16399)
    (g : zGo E y n0 t0 p l e R s m args below meth c Q (pc + 3) L (.int 0 :: r) h) : zGo E y n0 t0 p l e R s m args below meth c Q pc L (.retAddr 0 :: r) h := by
  intro H locs ls cells slots hL hn hB hce hsl
  have g' := g H locs ls cells slots hL hn hB hce hsl
  unfold zlk at hf
  obtain ⟨e1, e2⟩ : (zq y).1 = 8 ∧ k = 15 := by omega
  subst e2
  have hown : s.vm.findClass "java/lang/String" = some m.cls := by have := hC.2.2.2.1; rw [e1] at this; exact this
  obtain ⟨-, -, aK, aV, b, q0, q1, q2, g1, g2, g3, g4, g5, g6, g7, g8⟩ := hC.X
  have z0 : zc E (.retAddr 0) = .ref aK := by show va_rf _ = _; rw [q0]; rfl
  rw [List.map_cons, z0]
  exact vk_getf hC.1 hC.2.1 g2 hB.2 hown (hC.word (zTs_of zstrW.2.2.2 rfl)) (fun _ q => q) hd g'
theorem z_len1 {r : List Value} (hC : zC E y p R s m args meth c) (hd : decode (zcode y) pc = .ok (.arraylength, 1))
    (g : zGo E y n0 t0 p l e R s m args below meth c Q (pc + 1) L (.int (Int32.ofNat zbytes.length) :: r) h) : zGo E y n0 t0 p l e R s m args below meth c Q pc L (.retAddr 1 :: r) h := by
  intro H locs ls cells slots hL hn hB hce hsl
  have g' := g H locs ls cells slots hL hn hB hce hsl
  obtain ⟨-, -, aK, aV, b, q0, q1, q2, g1, g2, g3, g4, g5, g6, g7, g8⟩ := hC.X
  have z1 : zc E (.retAddr 1) = .ref aV := by show va_rf _ = _; rw [q1]; rfl
  rw [List.map_cons, z1]
  exact va_tlen hC.1 hC.2.1 g4 hB.2 rfl hd g'
theorem z_len2 {r : List Value} (hC : zC E y p R s m args meth c) (hd : decode (zcode y) pc = .ok (.arraylength, 1))
    (g : zGo E y n0 t0 p l e R s m args below meth c Q (pc + 1) L (.int (Int32.ofNat E.2.2.2.2.1) :: r) h) : zGo E y n0 t0 p l e R s m args below meth c Q pc L (.retAddr 2 :: r) h := by
  intro H locs ls cells slots hL hn hB hce hsl
  have g' := g H locs ls cells slots hL hn hB hce hsl
  obtain ⟨-, -, aK, aV, b, q0, q1, q2, g1, g2, g3, g4, g5, g6, g7, g8⟩ := hC.X
  have z2 : zc E (.retAddr 2) = .ref b := by show va_rf _ = _; rw [q2]; rfl
  rw [List.map_cons, z2]
  exact va_slen hC.1 hC.2.1 g6 g8 g7 hB.2 hd g'
theorem z_iald2 {i : Int32} {r : List Value} (hC : zC E y p R s m args meth c) (hd : decode (zcode y) pc = .ok (.iaload, 1)) (hi : zinb i E.2.2.2.2.1 = true)
    (g : zGo E y n0 t0 p l e R s m args below meth c Q (pc + 1) L (.int (E.2.2.2.2.2 i.toNatClampNeg) :: r) h) : zGo E y n0 t0 p l e R s m args below meth c Q pc L (.int i :: .retAddr 2 :: r) h := by
  intro H locs ls cells slots hL hn hB hce hsl
  have g' := g H locs ls cells slots hL hn hB hce hsl
  obtain ⟨-, -, aK, aV, b, q0, q1, q2, g1, g2, g3, g4, g5, g6, g7, g8⟩ := hC.X
  have z2 : zc E (.retAddr 2) = .ref b := by show va_rf _ = _; rw [q2]; rfl
  rw [List.map_cons, List.map_cons, z2]
  exact va_sld hC.1 hC.2.1 g6 g8 g7 hB.2 (zinb_in hi) hd g'
theorem z_bald {i : Int32} {r : List Value} (hC : zC E y p R s m args meth c) (hd : decode (zcode y) pc = .ok (.baload, 1)) (hi : zinb i zbytes.length = true)
    (g : zGo E y n0 t0 p l e R s m args below meth c Q (pc + 1) L (.int (zbytes.getD i.toNatClampNeg 0) :: r) h) : zGo E y n0 t0 p l e R s m args below meth c Q pc L (.int i :: .retAddr 1 :: r) h := by
  intro H locs ls cells slots hL hn hB hce hsl
  have g' := g H locs ls cells slots hL hn hB hce hsl
  obtain ⟨-, -, aK, aV, b, q0, q1, q2, g1, g2, g3, g4, g5, g6, g7, g8⟩ := hC.X
  have z1 : zc E (.retAddr 1) = .ref aV := by show va_rf _ = _; rw [q1]; rfl
  rw [List.map_cons, List.map_cons, z1]
  exact va_tb hC.1 hC.2.1 g4 hB.2 (zinb_in hi) rfl hd g'
theorem z_ldcS {k : Nat} (hC : zC E y p R s m args meth c) (hd : decode (zcode y) pc = .ok (.ldc k, 2)) (hk : k < 2048) (hf : zlk y k = 56)
    (g : zGo E y n0 t0 p l e R s m args below meth c Q (pc + 2) L (.retAddr 0 :: st) h) : zGo E y n0 t0 p l e R s m args below meth c Q pc L st h := by
  intro H locs ls cells slots hL hn hB hce hsl
  have g' := g H locs ls cells slots hL hn hB hce hsl
  unfold zlk at hf
  obtain ⟨e1, e2⟩ : (zq y).1 = 0 ∧ k = 56 := by omega
  subst e2
  have hown : s.vm.findClass "GroundByHearsay" = some m.cls := by have := hC.2.2.2.1; rw [e1] at this; exact this
  obtain ⟨-, -, aK, aV, b, q0, q1, q2, g1, g2, g3, g4, g5, g6, g7, g8⟩ := hC.X
  have z0 : zc E (.retAddr 0) = .ref aK := by show va_rf _ = _; rw [q0]; rfl
  rw [List.map_cons, z0] at g'
  exact va_ldcS hC.1 hC.2.1 hown g5 hd g'
theorem z_obj {k i a : Nat} {r : List Value} (ho : (zq y).1 < 14) (hk : k < 2048) (hC : zC E y p R s m args meth c) (hd : decode (zcode y) pc = .ok (.invokespecial k, 3)) (hf : zobj (zlk y k) = some i) (h1 : 1 ≤ (zq y).2.2.2.2.1) (h2 : (r.map fun v => v.category).sum + 12 ≤ (zq y).2.2.2.2.2)
    (g : zGo E y n0 t0 p l e R s m args below meth c Q (pc + 3) L r h) : zGo E y n0 t0 p l e R s m args below meth c Q pc L (.ref a :: r) h := by
  intro H locs ls cells slots hL hn hB hce hsl
  have hR := hC.2.2.2.2.2.1
  refine W.objInit (g := F0 m pc ls ((Value.ref a :: r).map (zc E))) (a := E.2.2.1 + a) (rest := r.map (zc E)) hC.1 hC.2.1 hC.2.2.2.1 (hC.word (zobj_ok ho hk hf)) (hC.word (zTs_of zobjW.1 rfl)) (hC.word (zTs_of zobjW.2 rfl)) rfl ?_ rfl hd (by omega) ?_ ?_
  · rw [hC.2.2.1, ← hn]; exact hL.1
  · show 2 * 0 + _ + 12 ≤ _
    rw [zc_sum]
    omega
  · exact W.eq (g2 := F0 m (pc + 3) ls (r.map (zc E))) rfl (g H locs ls cells slots hL hn hB hce hsl)
theorem z_max {k i : Nat} {a b : Int32} {r : List Value} (ho : (zq y).1 < 14) (hk : k < 2048) (hC : zC E y p R s m args meth c) (hd : decode (zcode y) pc = .ok (.invokestatic k, 3)) (hf : zmath (zlk y k) = some (true, i)) (h1 : 1 ≤ (zq y).2.2.2.2.1) (h2 : (r.map fun v => v.category).sum + 13 ≤ (zq y).2.2.2.2.2) (hr1 : h.1.1 ≤ R.cells + n0) (hr2 : h.1.2 ≤ R.slots + t0)
    (g : zGo E y n0 t0 p l e R s m args below meth c Q (pc + 3) L (.int (if a < b then b else a) :: r) h) : zGo E y n0 t0 p l e R s m args below meth c Q pc L (.int b :: .int a :: r) h := by
  intro H locs ls cells slots hL hn hB hce hsl
  have hR := hC.2.2.2.2.2.1
  obtain ⟨w1, w2, w3, w4, w5⟩ := zmathW
  exact va_mmax hC.1 hC.2.1 (by rw [hC.2.2.1, ← hn]; exact hL.1.symm) hC.2.2.2.1 (hC.word (zmath_ok ho hk hf)) (hC.word (zTs_of w2 rfl)) (hC.word (zTs_of w1 rfl)) (hC.word (zTs_of w3 rfl)) (by omega) (by rw [zc_sum]; omega) (by omega) (by omega) hd (g H locs ls cells slots hL hn hB hce hsl)
theorem z_min {k i : Nat} {a b : Int32} {r : List Value} (ho : (zq y).1 < 14) (hk : k < 2048) (hC : zC E y p R s m args meth c) (hd : decode (zcode y) pc = .ok (.invokestatic k, 3)) (hf : zmath (zlk y k) = some (false, i)) (h1 : 1 ≤ (zq y).2.2.2.2.1) (h2 : (r.map fun v => v.category).sum + 13 ≤ (zq y).2.2.2.2.2) (hr1 : h.1.1 ≤ R.cells + n0) (hr2 : h.1.2 ≤ R.slots + t0)
    (g : zGo E y n0 t0 p l e R s m args below meth c Q (pc + 3) L (.int (if b < a then b else a) :: r) h) : zGo E y n0 t0 p l e R s m args below meth c Q pc L (.int b :: .int a :: r) h := by
  intro H locs ls cells slots hL hn hB hce hsl
  have hR := hC.2.2.2.2.2.1
  obtain ⟨w1, w2, w3, w4, w5⟩ := zmathW
  exact va_mmin hC.1 hC.2.1 (by rw [hC.2.2.1, ← hn]; exact hL.1.symm) hC.2.2.2.1 (hC.word (zmath_ok ho hk hf)) (hC.word (zTs_of w4 rfl)) (hC.word (zTs_of w1 rfl)) (hC.word (zTs_of w5 rfl)) (by omega) (by rw [zc_sum]; omega) (by omega) (by omega) hd (g H locs ls cells slots hL hn hB hce hsl)
theorem z_copy {k i a d : Nat} {sp dp n : Int32} {r : List Value} (ho : (zq y).1 < 14) (hk : k < 2048) (hC : zC E y p R s m args meth c) (hd : decode (zcode y) pc = .ok (.invokestatic k, 3)) (hf : zcopy (zlk y k) = some i) (h1 : 1 ≤ (zq y).2.2.2.2.1) (h2 : (r.map fun v => v.category).sum + 18 ≤ (zq y).2.2.2.2.2)
    (ha : a < h.1.1) (hd1 : d < h.1.1) (hs : (h.2.1 a).1 = 100) (hs1 : (h.2.1 d).1 = 100) (q1 : ¬ sp < 0) (q2 : ¬ dp < 0) (q3 : ¬ n < 0) (q4 : sp.toNatClampNeg + n.toNatClampNeg ≤ (h.2.1 a).2) (q5 : dp.toNatClampNeg + n.toNatClampNeg ≤ (h.2.1 d).2)
    (g : zGo E y n0 t0 p l e R s m args below meth c Q (pc + 3) L r (zcp h d (va_cpy (h.2.2.1 a) (h.2.2.1 d) sp.toNatClampNeg dp.toNatClampNeg n.toNatClampNeg))) : zGo E y n0 t0 p l e R s m args below meth c Q pc L (.int n :: .int dp :: .ref d :: .int sp :: .ref a :: r) h := by
  intro H locs ls cells slots hL hn hB hce hsl
  have hR := hC.2.2.2.2.2.1
  obtain ⟨w1, w2, w3⟩ := zcopyW
  refine va_copyi (D := E.1) (ty := .int) hC.1 hC.2.1 (by rw [hC.2.2.1, ← hn]; exact hL.1.symm) hC.2.2.2.1 (hC.word (zcopy_ok ho hk hf)) (hC.word (zTs_of w1 rfl)) (hC.word (zTs_of w2 rfl)) (hC.word (zTs_of w3 rfl)) hC.K hB.1 (zws_D E h) hB.2 a d 0 0 (by rw [zws_at ha, zcell_i hs]) (by rw [zws_at hd1, zcell_i hs1]) rfl rfl rfl q1 q2 q3 q4 q5 (fun _ _ => rfl) (by omega) (by rw [zc_sum]; show _ + (7 + 11) ≤ _; omega) hd (fun H1 locs1 hP hD hS => ?_)
  rw [zws_set (h := h) (h' := zcp h d (va_cpy (h.2.2.1 a) (h.2.2.1 d) sp.toNatClampNeg dp.toNatClampNeg n.toNatClampNeg)) rfl (by rw [zcell_i (h := zcp h d _) hs1]; simp only [zcp, if_true]) fun q hq => zcell_congr rfl (if_neg hq) rfl] at hP
  exact g H1 locs1 ls cells slots hL hn ⟨hP, hS⟩ hce hsl
end ZRows
