/-! ONE STEP: from the picture behind a step of the small machine, the machine goes on as it does -/
section ZStep
variable {p : Program} {l : Launch} {e : Env} {R : Room} {s : State} {m : MethodId} {args : Array Value} {below : List Frame} {meth : Method} {c : Code} {Q : State → Prop}
/-- from all that show this frame of the small machine, Q is come to -/
def zGo (E : ZE) (y n0 t0 : Nat) (p : Program) (l : Launch) (e : Env) (R : Room) (s : State) (m : MethodId) (args : Array Value) (below : List Frame) (meth : Method) (c : Code) (Q : State → Prop) (pc : Nat) (L : List (Option Value)) (st : List Value) (h : ZH) : Prop :=
  ∀ (H : Heap) (locs : List Loc) (ls : Array Slot) (cells slots : Nat), zLs E ls L → L.length = (zq y).2.2.2.1 → zB E h s H locs → cells + n0 = h.1.1 → slots + t0 = h.1.2 → W p l e R s m args below meth c H locs cells slots Q (F0 m pc ls (st.map (zc E)))
theorem zdiv (o k : Nat) (hk : k < 2048) : (o * 2048 + k) / 2048 = o ∧ (o * 2048 + k) % 2048 = k := by omega
/-- an entry of a table, in the range where the words were looked up -/
theorem zkey {f : Nat → Bool} (h : (List.range 28672).all f = true) {o k : Nat} (ho : o < 14) (hk : k < 2048) : f (o * 2048 + k) = true := zby h (by omega)
theorem zfl_ok {o k c j i : Nat} (ho : o < 14) (hk : k < 2048) (h : zfl (o * 2048 + k) = some (c, j, i)) : c < 7 ∧ j < zN c ∧ Cond.fieldLink (zcn o) k (zcn c) (zT c j).2.1 (zT c j).2.2.1 ∈ zTs := by
  have h1 := zkey zokF_all ho hk
  unfold zokF at h1
  rw [h] at h1
  obtain ⟨e1, e2⟩ := zdiv o k hk
  rw [e1, e2] at h1
  simp only [Bool.and_eq_true, Nat.blt_eq] at h1
  exact ⟨h1.1.1, h1.1.2, zTs_of (zhas_mem h1.2) rfl⟩
theorem zmk_ok {o k c i : Nat} (ho : o < 14) (hk : k < 2048) (h : zmk (o * 2048 + k) = some (c, i)) : c < 7 ∧ Cond.classLink (zcn o) k (zcn c) ∈ zTs := by
  have h1 := zkey zokK_all ho hk
  unfold zokK at h1
  rw [h] at h1
  obtain ⟨e1, e2⟩ := zdiv o k hk
  rw [e1, e2] at h1
  simp only [Bool.and_eq_true, Nat.blt_eq] at h1
  exact ⟨h1.1, zTs_of (zhas_mem h1.2) rfl⟩
theorem zldc_ok {o k i : Nat} {v : Int32} (ho : o < 14) (hk : k < 2048) (h : zldc (o * 2048 + k) = some (v, i)) : Cond.constant (zcn o) k v ∈ zTs := by
  have h1 := zkey zokL_all ho hk
  unfold zokL at h1
  rw [h] at h1
  obtain ⟨e1, e2⟩ := zdiv o k hk
  rw [e1, e2] at h1
  simp only [Bool.and_eq_true] at h1
  exact zTs_of (zhas_mem h1.1) rfl
theorem zldcL_ok {o k i : Nat} {v : Int64} (ho : o < 14) (hk : k < 2048) (h : zldcL (o * 2048 + k) = some (v, i)) : Cond.constantLong (zcn o) k v ∈ zTs := by
  have h1 := zkey zokL_all ho hk
  unfold zokL at h1
  rw [h] at h1
  obtain ⟨e1, e2⟩ := zdiv o k hk
  rw [e1, e2] at h1
  simp only [Bool.and_eq_true] at h1
  exact zTs_of (zhas_mem h1.2) rfl
theorem zobj_ok {o k i : Nat} (ho : o < 14) (hk : k < 2048) (h : zobj (o * 2048 + k) = some i) : Cond.methodLink (zcn o) k Lib.objectInit ∈ zTs := by
  have h1 := zkey zokO_all ho hk
  unfold zokO at h1
  rw [h] at h1
  obtain ⟨e1, e2⟩ := zdiv o k hk
  rw [e1, e2] at h1
  simp only [Bool.and_eq_true] at h1
  exact zTs_of (zhas_mem h1.1) rfl
theorem zcopy_ok {o k i : Nat} (ho : o < 14) (hk : k < 2048) (h : zcopy (o * 2048 + k) = some i) : Cond.methodLink (zcn o) k arraycopyName ∈ zTs := by
  have h1 := zkey zokO_all ho hk
  unfold zokO at h1
  rw [h] at h1
  obtain ⟨e1, e2⟩ := zdiv o k hk
  rw [e1, e2] at h1
  simp only [Bool.and_eq_true] at h1
  exact zTs_of (zhas_mem h1.2) rfl
theorem zmath_ok {o k i : Nat} {b : Bool} (ho : o < 14) (hk : k < 2048) (h : zmath (o * 2048 + k) = some (b, i)) : Cond.methodLink (zcn o) k (bif b then Lib.Math.max.name else Lib.Math.min.name) ∈ zTs := by
  have h1 := zkey zokA_all ho hk
  unfold zokA at h1
  rw [h] at h1
  obtain ⟨e1, e2⟩ := zdiv o k hk
  rw [e1, e2] at h1
  exact zTs_of (zhas_mem h1) rfl
variable {E : ZE} {y n0 t0 pc pc' : Nat} {L L' : List (Option Value)} {st st' : List Value} {h h' : ZH}
theorem zinb_in {i : Int32} {n : Nat} (q : zinb i n = true) : vp_in i n := of_decide_eq_true (p := ¬ (i < 0 ∨ n ≤ i.toNatClampNeg)) q
theorem z_goto {o : Int} (hC : zC E y p R s m args meth c) (hd : decode (zcode y) pc = .ok (.goto o, 3)) (h0 : 0 ≤ (pc : Int) + o) (k : zGo E y n0 t0 p l e R s m args below meth c Q (zjmp pc o) L st h) : zGo E y n0 t0 p l e R s m args below meth c Q pc L st h := by
  intro H locs ls cells slots hL hn hB hce hsl
  exact lv_goto hC.1 hC.2.1 hd (Int.toNat_of_nonneg h0).symm (k H locs ls cells slots hL hn hB hce hsl)
theorem z_if {cd : ClassFile.Cond} {o : Int} {a : Int32} {r : List Value} (hC : zC E y p R s m args meth c) (hd : decode (zcode y) pc = .ok (.ifCond cd o, 3)) (h0 : 0 ≤ (pc : Int) + o)
    (k : zcmp cd a 0 = true → zGo E y n0 t0 p l e R s m args below meth c Q (zjmp pc o) L r h) (k2 : ¬ zcmp cd a 0 = true → zGo E y n0 t0 p l e R s m args below meth c Q (pc + 3) L r h) : zGo E y n0 t0 p l e R s m args below meth c Q pc L (.int a :: r) h := by
  intro H locs ls cells slots hL hn hB hce hsl
  have ht := (Int.toNat_of_nonneg h0).symm
  have k' := fun q => k q H locs ls cells slots hL hn hB hce hsl
  have k2' := fun q => k2 q H locs ls cells slots hL hn hB hce hsl
  cases cd with
  | eq => exact lv_if_eq hC.1 hC.2.1 hd ht (fun q => k' (decide_eq_true q)) (fun q => k2' (fun z => q (of_decide_eq_true z)))
  | ne => exact lv_if_ne hC.1 hC.2.1 hd ht (fun q => k' (decide_eq_true q)) (fun q => k2' (fun z => of_decide_eq_true z q))
  | lt => exact lv_if_lt hC.1 hC.2.1 hd ht (fun q => k' (decide_eq_true q)) (fun q => k2' (fun z => q (of_decide_eq_true z)))
  | ge => exact lv_if_ge hC.1 hC.2.1 hd ht (fun q => k' (decide_eq_true q)) (fun q => k2' (fun z => q (of_decide_eq_true z)))
  | gt => exact lv_if_gt hC.1 hC.2.1 hd ht (fun q => k' (decide_eq_true q)) (fun q => k2' (fun z => q (of_decide_eq_true z)))
  | le => exact lv_if_le hC.1 hC.2.1 hd ht (fun q => k' (decide_eq_true q)) (fun q => k2' (fun z => q (of_decide_eq_true z)))
theorem z_icmp {cd : ClassFile.Cond} {o : Int} {a b : Int32} {r : List Value} (hC : zC E y p R s m args meth c) (hd : decode (zcode y) pc = .ok (.if_icmp cd o, 3)) (h0 : 0 ≤ (pc : Int) + o)
    (k : zcmp cd a b = true → zGo E y n0 t0 p l e R s m args below meth c Q (zjmp pc o) L r h) (k2 : ¬ zcmp cd a b = true → zGo E y n0 t0 p l e R s m args below meth c Q (pc + 3) L r h) : zGo E y n0 t0 p l e R s m args below meth c Q pc L (.int b :: .int a :: r) h := by
  intro H locs ls cells slots hL hn hB hce hsl
  have ht := (Int.toNat_of_nonneg h0).symm
  have k' := fun q => k q H locs ls cells slots hL hn hB hce hsl
  have k2' := fun q => k2 q H locs ls cells slots hL hn hB hce hsl
  cases cd with
  | eq => exact lv_icmp_eq hC.1 hC.2.1 hd ht (fun q => k' (decide_eq_true q)) (fun q => k2' (fun z => q (of_decide_eq_true z)))
  | ne => exact lv_icmp_ne hC.1 hC.2.1 hd ht (fun q => k' (decide_eq_true q)) (fun q => k2' (fun z => of_decide_eq_true z q))
  | lt => exact lv_icmp_lt hC.1 hC.2.1 hd ht (fun q => k' (decide_eq_true q)) (fun q => k2' (fun z => q (of_decide_eq_true z)))
  | ge => exact lv_icmp_ge hC.1 hC.2.1 hd ht (fun q => k' (decide_eq_true q)) (fun q => k2' (fun z => q (of_decide_eq_true z)))
  | gt => exact lv_icmp_gt hC.1 hC.2.1 hd ht (fun q => k' (decide_eq_true q)) (fun q => k2' (fun z => q (of_decide_eq_true z)))
  | le => exact lv_icmp_le hC.1 hC.2.1 hd ht (fun q => k' (decide_eq_true q)) (fun q => k2' (fun z => q (of_decide_eq_true z)))
theorem zC.word (hC : zC E y p R s m args meth c) {w : Jvm.Cond} (hw : w ∈ zTs) : w.before args s = true := hC.2.2.2.2.1 w hw
theorem zC.K (hC : zC E y p R s m args meth c) : va_K E.1 zcl (ztys E) s := hC.2.2.2.2.2.2.1
theorem zC.X (hC : zC E y p R s m args meth c) : zX E s s.heap := hC.2.2.2.2.2.2.2.1
theorem zC.base (hC : zC E y p R s m args meth c) : E.2.2.1 ≤ s.heap.size := hC.2.2.2.2.2.2.2.2.1
theorem zC.A (hC : zC E y p R s m args meth c) : ∀ q : Nat, s.heap.size ≤ q → zA E q := fun _ hq => Nat.le_trans hC.base hq
theorem zC.uw (hC : zC E y p R s m args meth c) {d : Nat} (hd : d < 7) : ∀ w ∈ u_ws (zcn d) (zT d) (zN d), w.before args s = true := fun w hw => hC.word (zTs_u hd w hw)
theorem z_getfield {k d j i a : Nat} {r : List Value} {v : Value} (ho : (zq y).1 < 14) (hk : k < 2048) (hC : zC E y p R s m args meth c) (hd : decode (zcode y) pc = .ok (.getfield k, 3)) (hf : zfl (zlk y k) = some (d, j, i)) (ha : a < h.1.1) (hs : (h.2.1 a).1 = d) (hv : zc E v = zfv E h a d j)
    (g : zGo E y n0 t0 p l e R s m args below meth c Q (pc + 3) L (v :: r) h) : zGo E y n0 t0 p l e R s m args below meth c Q pc L (.ref a :: r) h := by
  intro H locs ls cells slots hL hn hB hce hsl
  obtain ⟨hd7, hj, hw⟩ := zfl_ok ho hk hf
  have g' := g H locs ls cells slots hL hn hB hce hsl
  refine va_get (D := E.1) (ci := d) (v := zfv E h a d j) (C := zcn d) (T := zT d) (N := zN d) (ref := zcn d) hC.1 hC.2.1 (hC.uw hd7) (fun w hw => hw) hC.2.2.2.1 hC.K hB.1 a (fs := (List.range (zN d)).map (zfv E h a d)) (by rw [zws_at ha, zcell_o hs hd7]) (zcl_at d hd7) j hj (hC.word hw) (fun x hx => by rw [← zT_cls d hd7 j hj]; exact hx) (by simp [hj]) hd ?_
  rw [← hv]
  exact g'
theorem z_putI {k d j i a : Nat} {r : List Value} {v : Int32} (ho : (zq y).1 < 14) (hk : k < 2048) (hC : zC E y p R s m args meth c) (hd : decode (zcode y) pc = .ok (.putfield k, 3)) (hf : zfl (zlk y k) = some (d, j, i)) (ha : a < h.1.1) (hs : (h.2.1 a).1 = d) (hi : zI d j = true)
    (g : zGo E y n0 t0 p l e R s m args below meth c Q (pc + 3) L r (zsi h a j v)) : zGo E y n0 t0 p l e R s m args below meth c Q pc L (.int v :: .ref a :: r) h := by
  intro H locs ls cells slots hL hn hB hce hsl
  obtain ⟨hd7, hj, hw⟩ := zfl_ok ho hk hf
  obtain ⟨ht, hfin⟩ := zI_ok d hd7 j hj hi
  refine va_put (D := E.1) (ci := d) (v := .int v) (ty := .int) (C := zcn d) (T := zT d) (N := zN d) (ref := zcn d) hC.1 hC.2.1 (hC.uw hd7) (fun w hw => hw) (zty d) (zty_ok d hd7) (znm d hd7) hC.2.2.2.1 hC.K hB.1 (zws_D E h) hB.2 a (fs := (List.range (zN d)).map (zfv E h a d)) (by rw [zws_at ha, zcell_o hs hd7]) (zcl_at d hd7) j hj (hC.word hw) (fun x hx => by rw [← zT_cls d hd7 j hj]; exact hx) hfin (by rw [zty_ok d hd7 j hj, ht]) rfl rfl (by simpa using hj) hd (fun H1 locs1 hP hD hS => ?_)
  have e : (zws E h).set a (E.2.2.1 + a, .inr (d, ((List.range (zN d)).map (zfv E h a d)).set j (.int v))) = zws E (zsi h a j v) := by
    refine zws_set rfl ?_ fun q hq => zcell_congr rfl (zui_ne _ _ _ hq) rfl
    rw [zcell_o (h := zsi h a j v) hs hd7, zfs_put hi]
  rw [e] at hP
  exact g H1 locs1 ls cells slots hL hn ⟨hP, hS⟩ hce hsl
theorem z_putR {k d j i a v : Nat} {r : List Value} (ho : (zq y).1 < 14) (hk : k < 2048) (hC : zC E y p R s m args meth c) (hd : decode (zcode y) pc = .ok (.putfield k, 3)) (hf : zfl (zlk y k) = some (d, j, i)) (ha : a < h.1.1) (hs : (h.2.1 a).1 = d) (hi : zI d j = false) (hq2 : (zq y).2.2.1 = 2) (hq1 : (zq y).1 = d)
    (g : zGo E y n0 t0 p l e R s m args below meth c Q (pc + 3) L r (zsp h a j (some v))) : zGo E y n0 t0 p l e R s m args below meth c Q pc L (.ref v :: .ref a :: r) h := by
  intro H locs ls cells slots hL hn hB hce hsl
  obtain ⟨hd7, hj, hw⟩ := zfl_ok ho hk hf
  obtain ⟨ht, hfin⟩ := zR_ok d hd7 j hj hi
  have hfit : ∀ (t : FieldType) (z : Nat), zisR t = true → narrow t (.ref z) = .ref z ∧ fits t (.ref z) = true := by
    intro t z ht
    cases t <;> first | exact ⟨rfl, rfl⟩ | cases ht
  have hown := hC.2.2.2.1
  refine va_putF (D := E.1) (ci := d) (v := .ref (E.2.2.1 + v)) (ty := zty d j) (C := zcn d) (T := zT d) (N := zN d) (ref := zcn d) hC.1 hC.2.1 (hC.uw hd7) (fun w hw => hw) (zty d) (zty_ok d hd7) (znm d hd7) hown hC.K hB.1 (zws_D E h) hB.2 a (fs := (List.range (zN d)).map (zfv E h a d)) (by rw [zws_at ha, zcell_o hs hd7]) (zcl_at d hd7) j hj (hC.word hw) (fun x hx => by rw [← zT_cls d hd7 j hj]; exact hx) hfin (hC.2.2.2.2.2.2.2.2.2.1 hq2) (by rw [zT_cls d hd7 j hj, hq1]) (zty_ok d hd7 j hj) (hfit _ _ ht).1 (hfit _ _ ht).2 (by simpa using hj) hd (fun H1 locs1 hP hD hS => ?_)
  have e : (zws E h).set a (E.2.2.1 + a, .inr (d, ((List.range (zN d)).map (zfv E h a d)).set j (.ref (E.2.2.1 + v)))) = zws E (zsp h a j (some v)) := by
    refine zws_set rfl ?_ fun q hq => zcell_congr rfl rfl (zup_ne _ _ _ hq)
    rw [zcell_o (h := zsp h a j (some v)) hs hd7, zfs_putR hi]
  rw [e] at hP
  exact g H1 locs1 ls cells slots hL hn ⟨hP, hS⟩ hce hsl
theorem z_len {a : Nat} {r : List Value} (hC : zC E y p R s m args meth c) (hd : decode (zcode y) pc = .ok (.arraylength, 1)) (ha : a < h.1.1) (h1 : 100 ≤ (h.2.1 a).1) (h2 : (h.2.1 a).1 ≤ 102)
    (g : zGo E y n0 t0 p l e R s m args below meth c Q (pc + 1) L (.int (Int32.ofNat (h.2.1 a).2) :: r) h) : zGo E y n0 t0 p l e R s m args below meth c Q pc L (.ref a :: r) h := by
  intro H locs ls cells slots hL hn hB hce hsl
  have g' := g H locs ls cells slots hL hn hB hce hsl
  rcases (by omega : (h.2.1 a).1 = 100 ∨ (h.2.1 a).1 = 101 ∨ (h.2.1 a).1 = 102) with q | q | q
  · exact va_alen (D := E.1) (x := ((h.2.1 a).2, .inl (h.2.2.1 a))) hC.1 hC.2.1 hC.K hB.1 a 0 (by rw [zws_at ha, zcell_i q]) rfl rfl hd g'
  · exact va_alen (D := E.1) (x := ((h.2.1 a).2, .inl (h.2.2.1 a))) hC.1 hC.2.1 hC.K hB.1 a 1 (by rw [zws_at ha, zcell_c q]) rfl rfl hd g'
  · exact va_alen (D := E.1) (x := ((h.2.1 a).2, .inr (.inr (.inr (.inr (fun j => zmv E (h.2.2.2 a j))))))) hC.1 hC.2.1 hC.K hB.1 a 2 (by rw [zws_at ha, zcell_q q]) rfl rfl hd g'
theorem z_iald {a : Nat} {i : Int32} {r : List Value} (hC : zC E y p R s m args meth c) (hd : decode (zcode y) pc = .ok (.iaload, 1)) (ha : a < h.1.1) (hs : (h.2.1 a).1 = 100) (hi : zinb i (h.2.1 a).2 = true)
    (g : zGo E y n0 t0 p l e R s m args below meth c Q (pc + 1) L (.int (h.2.2.1 a i.toNatClampNeg) :: r) h) : zGo E y n0 t0 p l e R s m args below meth c Q pc L (.int i :: .ref a :: r) h := by
  intro H locs ls cells slots hL hn hB hce hsl
  exact va_iald (D := E.1) hC.1 hC.2.1 hC.K hB.1 a 0 (by rw [zws_at ha, zcell_i hs]) rfl (zinb_in hi) hd (g H locs ls cells slots hL hn hB hce hsl)
theorem z_cald {a : Nat} {i : Int32} {r : List Value} (hC : zC E y p R s m args meth c) (hd : decode (zcode y) pc = .ok (.caload, 1)) (ha : a < h.1.1) (hs : (h.2.1 a).1 = 101) (hi : zinb i (h.2.1 a).2 = true)
    (g : zGo E y n0 t0 p l e R s m args below meth c Q (pc + 1) L (.int (h.2.2.1 a i.toNatClampNeg) :: r) h) : zGo E y n0 t0 p l e R s m args below meth c Q pc L (.int i :: .ref a :: r) h := by
  intro H locs ls cells slots hL hn hB hce hsl
  exact va_cald (D := E.1) hC.1 hC.2.1 hC.K hB.1 a 1 (by rw [zws_at ha, zcell_c hs]) rfl (zinb_in hi) hd (g H locs ls cells slots hL hn hB hce hsl)
theorem z_aald {a : Nat} {i : Int32} {r : List Value} (hC : zC E y p R s m args meth c) (hd : decode (zcode y) pc = .ok (.aaload, 1)) (ha : a < h.1.1) (hs : (h.2.1 a).1 = 102) (hi : zinb i (h.2.1 a).2 = true)
    (g : zGo E y n0 t0 p l e R s m args below meth c Q (pc + 1) L (zrf (h.2.2.2 a i.toNatClampNeg) :: r) h) : zGo E y n0 t0 p l e R s m args below meth c Q pc L (.int i :: .ref a :: r) h := by
  intro H locs ls cells slots hL hn hB hce hsl
  have g' := g H locs ls cells slots hL hn hB hce hsl
  rw [List.map_cons, zc_rf] at g'
  exact va_aldq (D := E.1) hC.1 hC.2.1 hC.K hB.1 a 2 (by rw [zws_at ha, zcell_q hs]) rfl (zinb_in hi) hd g'
theorem z_iast {a : Nat} {i v : Int32} {r : List Value} (hC : zC E y p R s m args meth c) (hd : decode (zcode y) pc = .ok (.iastore, 1)) (ha : a < h.1.1) (hs : (h.2.1 a).1 = 100) (hi : zinb i (h.2.1 a).2 = true)
    (g : zGo E y n0 t0 p l e R s m args below meth c Q (pc + 1) L r (zsi h a i.toNatClampNeg v)) : zGo E y n0 t0 p l e R s m args below meth c Q pc L (.int v :: .int i :: .ref a :: r) h := by
  intro H locs ls cells slots hL hn hB hce hsl
  refine va_iast (D := E.1) hC.1 hC.2.1 hC.K hB.1 (zws_D E h) hB.2 a 0 (by rw [zws_at ha, zcell_i hs]) rfl (zinb_in hi) hd (fun H1 locs1 hP hD hS => ?_)
  rw [zws_set (h := h) (h' := zsi h a i.toNatClampNeg v) rfl (by rw [zcell_i (h := zsi h a i.toNatClampNeg v) hs]; simp only [zsi, zui_self]) fun q hq => zcell_congr rfl (zui_ne _ _ _ hq) rfl] at hP
  exact g H1 locs1 ls cells slots hL hn ⟨hP, hS⟩ hce hsl
theorem z_cast {a : Nat} {i v : Int32} {r : List Value} (hC : zC E y p R s m args meth c) (hd : decode (zcode y) pc = .ok (.castore, 1)) (ha : a < h.1.1) (hs : (h.2.1 a).1 = 101) (hi : zinb i (h.2.1 a).2 = true)
    (g : zGo E y n0 t0 p l e R s m args below meth c Q (pc + 1) L r (zsi h a i.toNatClampNeg (vp_nar .char v))) : zGo E y n0 t0 p l e R s m args below meth c Q pc L (.int v :: .int i :: .ref a :: r) h := by
  intro H locs ls cells slots hL hn hB hce hsl
  refine va_cast (D := E.1) hC.1 hC.2.1 hC.K hB.1 (zws_D E h) hB.2 a 1 (by rw [zws_at ha, zcell_c hs]) rfl (zinb_in hi) hd (fun H1 locs1 hP hD hS => ?_)
  rw [zws_set (h := h) (h' := zsi h a i.toNatClampNeg (vp_nar .char v)) rfl (by rw [zcell_c (h := zsi h a i.toNatClampNeg (vp_nar .char v)) hs]; simp only [zsi, zui_self]) fun q hq => zcell_congr rfl (zui_ne _ _ _ hq) rfl] at hP
  exact g H1 locs1 ls cells slots hL hn ⟨hP, hS⟩ hce hsl
theorem zmv_up (E : ZE) (f : Nat → Option Nat) (j : Nat) (v : Option Nat) : (fun i => zmv E (va_up f j v i)) = va_up (fun i => zmv E (f i)) j (zmv E v) := by
  funext i
  unfold va_up
  split <;> rfl
theorem z_aast {a v : Nat} {i : Int32} {r : List Value} (hC : zC E y p R s m args meth c) (hd : decode (zcode y) pc = .ok (.aastore, 1)) (ha : a < h.1.1) (hs : (h.2.1 a).1 = 102) (hv : v < h.1.1) (hvs : (h.2.1 v).1 = 1) (hi : zinb i (h.2.1 a).2 = true)
    (g : zGo E y n0 t0 p l e R s m args below meth c Q (pc + 1) L r (zsp h a i.toNatClampNeg (some v))) : zGo E y n0 t0 p l e R s m args below meth c Q pc L (.ref v :: .int i :: .ref a :: r) h := by
  intro H locs ls cells slots hL hn hB hce hsl
  refine va_astq (D := E.1) hC.1 hC.2.1 hC.K hB.1 (zws_D E h) hB.2 a 2 v 1 (r := (zcn 1, zT 1, zN 1)) (by rw [zws_at ha, zcell_q hs]) rfl (by rw [zws_at hv, zcell_o hvs (by decide)]) rfl (zinb_in hi) hd (fun H1 locs1 hP hD hS => ?_)
  rw [zws_set (h := h) (h' := zsp h a i.toNatClampNeg (some v)) rfl (by rw [zcell_q (h := zsp h a i.toNatClampNeg (some v)) hs]; simp only [zsp, zup_self, zmv_up]; rfl) fun q hq => zcell_congr rfl rfl (zup_ne _ _ _ hq)] at hP
  exact g H1 locs1 ls cells slots hL hn ⟨hP, hS⟩ hce hsl
theorem z_aastN {a : Nat} {i : Int32} {r : List Value} (hC : zC E y p R s m args meth c) (hd : decode (zcode y) pc = .ok (.aastore, 1)) (ha : a < h.1.1) (hs : (h.2.1 a).1 = 102) (hi : zinb i (h.2.1 a).2 = true)
    (g : zGo E y n0 t0 p l e R s m args below meth c Q (pc + 1) L r (zsp h a i.toNatClampNeg none)) : zGo E y n0 t0 p l e R s m args below meth c Q pc L (.null :: .int i :: .ref a :: r) h := by
  intro H locs ls cells slots hL hn hB hce hsl
  refine va_astqN (D := E.1) hC.1 hC.2.1 hC.K hB.1 (zws_D E h) hB.2 a 2 (by rw [zws_at ha, zcell_q hs]) rfl (zinb_in hi) hd (fun H1 locs1 hP hD hS => ?_)
  rw [zws_set (h := h) (h' := zsp h a i.toNatClampNeg none) rfl (by rw [zcell_q (h := zsp h a i.toNatClampNeg none) hs]; simp only [zsp, zup_self, zmv_up]; rfl) fun q hq => zcell_congr rfl rfl (zup_ne _ _ _ hq)] at hP
  exact g H1 locs1 ls cells slots hL hn ⟨hP, hS⟩ hce hsl
/-- a new cell's address is the next one: the others are taken, and there are no more -/
theorem z_addr {q cells : Nat} {H1 : Heap} {locs : List Loc} {x : va_E} {Q' : State → Prop} {g : JFrame} {slots : Nat} (h0 : s.heap.size = E.2.2.1 + n0) (hce : cells + n0 = h.1.1) (hP : va_P E.1 zcl (zws E h ++ [(q, x)]) H1) (hD : va_D (zA E) (zws E h ++ [(q, x)]))
    (k : q = E.2.2.1 + h.1.1 → W p l e R s m args below meth c H1 locs (cells + 1) slots Q' g) : W p l e R s m args below meth c H1 locs (cells + 1) slots Q' g := by
  intro T hT X
  have hz : T.heap.size ≤ s.heap.size + (cells + 1) := X.heapSize
  rw [hT] at hz
  have hlen : (zws E h).length = h.1.1 := by simp [zws]
  have hq : (zws E h ++ [(q, x)])[h.1.1]? = some (q, x) := by rw [List.getElem?_append_right (by omega), hlen, Nat.sub_self]; rfl
  have hlt : q < H1.size := (hP _ _ hq).lt
  have hA : E.2.2.1 ≤ q := hD.2 _ _ hq
  refine k ?_ T hT X
  by_cases hk : q - E.2.2.1 < h.1.1
  · have h1 : (zws E h ++ [(q, x)])[q - E.2.2.1]? = some (E.2.2.1 + (q - E.2.2.1), zcell E h (q - E.2.2.1)) := by rw [List.getElem?_append_left (by omega), zws_at hk]
    have := hD.1 _ _ _ _ h1 hq (show E.2.2.1 + (q - E.2.2.1) = q by omega)
    omega
  · omega
theorem zcell_old {k n j : Nat} (hj : j < h.1.1) : zcell E (znew h k n) j = zcell E h j := zcell_congr (if_neg (by omega)) (if_neg (by omega)) (if_neg (by omega))
theorem znew_s (h : ZH) (k n : Nat) : (znew h k n).2.1 h.1.1 = (k, n) := if_pos rfl
theorem znew_i (h : ZH) (k n : Nat) : (znew h k n).2.2.1 h.1.1 = fun _ => 0 := if_pos rfl
theorem znew_p (h : ZH) (k n : Nat) : (znew h k n).2.2.2 h.1.1 = fun _ => none := if_pos rfl
theorem z_new {k d i : Nat} (ho : (zq y).1 < 14) (hk : k < 2048) (hC : zC E y p R s m args meth c) (h0 : s.heap.size = E.2.2.1 + n0) (hd : decode (zcode y) pc = .ok (.new k, 3)) (hf : zmk (zlk y k) = some (d, i)) (hr1 : h.1.1 + 1 ≤ R.cells + n0) (hr2 : h.1.2 + zN d ≤ R.slots + t0)
    (g : zGo E y n0 t0 p l e R s m args below meth c Q (pc + 3) L (.ref h.1.1 :: st) (znew h d (zN d))) : zGo E y n0 t0 p l e R s m args below meth c Q pc L st h := by
  intro H locs ls cells slots hL hn hB hce hsl
  obtain ⟨hd7, hw⟩ := zmk_ok ho hk hf
  obtain ⟨hw1, hw2⟩ := zinst d hd7
  have hfs : ∀ j, j < zN d → defaultValue (zty d j) = vp_V ((List.range (zN d)).map (zfv E (znew h d (zN d)) h.1.1 d)) j := by
    intro j hj
    have e : vp_V ((List.range (zN d)).map (zfv E (znew h d (zN d)) h.1.1 d)) j = zfv E (znew h d (zN d)) h.1.1 d j := by simp [vp_V, hj]
    rw [e]
    unfold zfv
    rw [znew_i, znew_p]
    cases hi : zI d j with
    | true => rw [(zI_ok d hd7 j hj hi).1]; rfl
    | false =>
      have ht := (zR_ok d hd7 j hj hi).1
      cases hty : zty d j <;> first | rfl | (rw [hty] at ht; cases ht)
  refine va_new (D := E.1) (ci := d) (C := zcn d) (T := zT d) (N := zN d) (fs := (List.range (zN d)).map (zfv E (znew h d (zN d)) h.1.1 d)) hC.1 hC.2.1 (hC.uw hd7) (fun w hw => hw) (zty d) (zty_ok d hd7) hC.2.2.2.1 (hC.word hw) (hC.word (zTs_of hw1 rfl)) (hC.word (zTs_of hw2 rfl)) hC.K hB.1 (zws_D E h) hB.2 hC.A (zcl_at d hd7) hfs (by omega) (by omega) hd (fun q H1 hP hD hS => ?_)
  refine z_addr h0 hce hP hD (fun hq => ?_)
  subst hq
  rw [zws_push (h := h) (h' := znew h d (zN d)) rfl (zcell_o (by rw [znew_s]) hd7) fun j hj => zcell_old hj] at hP
  exact g H1 locs ls (cells + 1) (slots + zN d) hL hn ⟨hP, hS⟩ (by show cells + 1 + n0 = h.1.1 + 1; omega) (by show slots + zN d + t0 = h.1.2 + zN d; omega)
end ZStep
