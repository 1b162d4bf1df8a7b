/-! ONE STEP of the small machine, whatever the instruction (printed) -/
section ZOne
variable {p : Program} {l : Launch} {e : Env} {R : Room} {s : State} {m : MethodId} {args : Array Value} {below : List Frame} {meth : Method} {c : Code} {Q : State → Prop}
variable {E : ZE} {y n0 t0 pc pc' w : Nat} {L L' : List (Option Value)} {st st' : List Value} {h h' : ZH}
theorem zand {a b : Bool} (h : (a && b) = true) : a = true ∧ b = true := by simpa using h
theorem zblt {a b : Nat} (h : Nat.blt a b = true) : a < b := by simpa using h
theorem zble {a b : Nat} (h : Nat.ble a b = true) : a ≤ b := by simpa using h
theorem zbeq {a b : Nat} (h : Nat.beq a b = true) : a = b := by simpa using h
theorem zbif {α : Type} {b : Bool} {x : Option α} {z : α} (h : (bif b then x else none) = some z) : b = true ∧ x = some z := by
  cases b
  · cases h
  · exact ⟨rfl, h⟩
theorem zite {α : Type} {P : Prop} [Decidable P] {x : Option α} {z : α} (h : (if P then x else none) = some z) : P ∧ x = some z := by
  by_cases q : P
  · rw [if_pos q] at h; exact ⟨q, h⟩
  · rw [if_neg q] at h; cases h
theorem znite {α : Type} {P : Prop} [Decidable P] {x : Option α} {z : α} (h : (if P then none else x) = some z) : ¬ P ∧ x = some z := by
  by_cases q : P
  · rw [if_pos q] at h; cases h
  · rw [if_neg q] at h; exact ⟨q, h⟩
theorem zget {L : List (Option Value)} {k : Nat} {v : Value} {ls : Array Slot} (hL : zLs E ls L) (h : L[k]? = some (some v)) : ls[k]? = some (.val (zc E v)) := hL.2.2 k v h
theorem zsome {α : Type} {x y : α} (h : some x = some y) : x = y := Option.some.inj h
set_option maxHeartbeats 4000000 in
theorem zstep_ok {i : Instr} (hC : zC E y p R s m args meth c) (h0 : s.heap.size = E.2.2.1 + n0) (ho : (zq y).1 < 14) (hd : decode (zcode y) pc = .ok (i, w)) (hx : zix i < 2048) (hw : zlen i = w ∨ zlen i = 0) (h1 : zstep E.2.2.2.2 y i pc L st h = some (pc', L', st', h')) (hr1 : h'.1.1 ≤ R.cells + n0) (hr2 : h'.1.2 ≤ R.slots + t0)
    (g : zGo E y n0 t0 p l e R s m args below meth c Q pc' L' st' h') : zGo E y n0 t0 p l e R s m args below meth c Q pc L st h := by
  have own := hC.2.2.2.1
  cases i with
  | iconst v =>
    obtain rfl := hw.resolve_right (by simp [zlen])
    simp only [zlen] at hd
    simp only [zstep] at h1
    cases h1
    intro H locs ls cells slots hL hn hB hce hsl
    exact lv_iconst hC.1 hC.2.1 hd rfl (g H locs ls cells slots hL hn hB hce hsl)
  | bipush v =>
    obtain rfl := hw.resolve_right (by simp [zlen])
    simp only [zlen] at hd
    simp only [zstep] at h1
    cases h1
    intro H locs ls cells slots hL hn hB hce hsl
    exact lv_bipush hC.1 hC.2.1 hd rfl (g H locs ls cells slots hL hn hB hce hsl)
  | sipush v =>
    obtain rfl := hw.resolve_right (by simp [zlen])
    simp only [zlen] at hd
    simp only [zstep] at h1
    cases h1
    intro H locs ls cells slots hL hn hB hce hsl
    exact lv_sipush hC.1 hC.2.1 hd rfl (g H locs ls cells slots hL hn hB hce hsl)
  | lconst v =>
    obtain rfl := hw.resolve_right (by simp [zlen])
    simp only [zlen] at hd
    simp only [zstep] at h1
    cases h1
    intro H locs ls cells slots hL hn hB hce hsl
    exact lv_lconst hC.1 hC.2.1 hd rfl (g H locs ls cells slots hL hn hB hce hsl)
  | aconst_null =>
    obtain rfl := hw.resolve_right (by simp [zlen])
    simp only [zlen] at hd
    simp only [zstep] at h1
    cases h1
    intro H locs ls cells slots hL hn hB hce hsl
    exact lv_null hC.1 hC.2.1 hd (g H locs ls cells slots hL hn hB hce hsl)
  | iadd =>
    obtain rfl := hw.resolve_right (by simp [zlen])
    simp only [zlen] at hd
    simp only [zstep] at h1
    split at h1
    · cases h1
      intro H locs ls cells slots hL hn hB hce hsl
      exact lv_iadd hC.1 hC.2.1 hd (g H locs ls cells slots hL hn hB hce hsl)
    · cases h1
  | isub =>
    obtain rfl := hw.resolve_right (by simp [zlen])
    simp only [zlen] at hd
    simp only [zstep] at h1
    split at h1
    · cases h1
      intro H locs ls cells slots hL hn hB hce hsl
      exact lv_isub hC.1 hC.2.1 hd (g H locs ls cells slots hL hn hB hce hsl)
    · cases h1
  | imul =>
    obtain rfl := hw.resolve_right (by simp [zlen])
    simp only [zlen] at hd
    simp only [zstep] at h1
    split at h1
    · cases h1
      intro H locs ls cells slots hL hn hB hce hsl
      exact lv_imul hC.1 hC.2.1 hd (g H locs ls cells slots hL hn hB hce hsl)
    · cases h1
  | iand =>
    obtain rfl := hw.resolve_right (by simp [zlen])
    simp only [zlen] at hd
    simp only [zstep] at h1
    split at h1
    · cases h1
      intro H locs ls cells slots hL hn hB hce hsl
      exact lv_iand hC.1 hC.2.1 hd (g H locs ls cells slots hL hn hB hce hsl)
    · cases h1
  | ior =>
    obtain rfl := hw.resolve_right (by simp [zlen])
    simp only [zlen] at hd
    simp only [zstep] at h1
    split at h1
    · cases h1
      intro H locs ls cells slots hL hn hB hce hsl
      exact lv_ior hC.1 hC.2.1 hd (g H locs ls cells slots hL hn hB hce hsl)
    · cases h1
  | ixor =>
    obtain rfl := hw.resolve_right (by simp [zlen])
    simp only [zlen] at hd
    simp only [zstep] at h1
    split at h1
    · cases h1
      intro H locs ls cells slots hL hn hB hce hsl
      exact lv_ixor hC.1 hC.2.1 hd (g H locs ls cells slots hL hn hB hce hsl)
    · cases h1
  | ineg =>
    obtain rfl := hw.resolve_right (by simp [zlen])
    simp only [zlen] at hd
    simp only [zstep] at h1
    split at h1
    · cases h1
      intro H locs ls cells slots hL hn hB hce hsl
      exact lv_ineg hC.1 hC.2.1 hd (g H locs ls cells slots hL hn hB hce hsl)
    · cases h1
  | ishl =>
    obtain rfl := hw.resolve_right (by simp [zlen])
    simp only [zlen] at hd
    simp only [zstep] at h1
    split at h1
    · cases h1
      intro H locs ls cells slots hL hn hB hce hsl
      exact lv_ishl hC.1 hC.2.1 hd (g H locs ls cells slots hL hn hB hce hsl)
    · cases h1
  | ishr =>
    obtain rfl := hw.resolve_right (by simp [zlen])
    simp only [zlen] at hd
    simp only [zstep] at h1
    split at h1
    · cases h1
      intro H locs ls cells slots hL hn hB hce hsl
      exact lv_ishr hC.1 hC.2.1 hd (g H locs ls cells slots hL hn hB hce hsl)
    · cases h1
  | ladd =>
    obtain rfl := hw.resolve_right (by simp [zlen])
    simp only [zlen] at hd
    simp only [zstep] at h1
    split at h1
    · cases h1
      intro H locs ls cells slots hL hn hB hce hsl
      exact lv_ladd hC.1 hC.2.1 hd (g H locs ls cells slots hL hn hB hce hsl)
    · cases h1
  | lmul =>
    obtain rfl := hw.resolve_right (by simp [zlen])
    simp only [zlen] at hd
    simp only [zstep] at h1
    split at h1
    · cases h1
      intro H locs ls cells slots hL hn hB hce hsl
      exact lv_lmul hC.1 hC.2.1 hd (g H locs ls cells slots hL hn hB hce hsl)
    · cases h1
  | i2l =>
    obtain rfl := hw.resolve_right (by simp [zlen])
    simp only [zlen] at hd
    simp only [zstep] at h1
    split at h1
    · cases h1
      intro H locs ls cells slots hL hn hB hce hsl
      exact lv_i2l hC.1 hC.2.1 hd rfl (g H locs ls cells slots hL hn hB hce hsl)
    · cases h1
  | l2i =>
    obtain rfl := hw.resolve_right (by simp [zlen])
    simp only [zlen] at hd
    simp only [zstep] at h1
    split at h1
    · cases h1
      intro H locs ls cells slots hL hn hB hce hsl
      exact lv_l2i hC.1 hC.2.1 hd rfl (g H locs ls cells slots hL hn hB hce hsl)
    · cases h1
  | i2c =>
    obtain rfl := hw.resolve_right (by simp [zlen])
    simp only [zlen] at hd
    simp only [zstep] at h1
    split at h1
    · cases h1
      intro H locs ls cells slots hL hn hB hce hsl
      exact lv_i2c hC.1 hC.2.1 hd rfl (g H locs ls cells slots hL hn hB hce hsl)
    · cases h1
  | iushr =>
    obtain rfl := hw.resolve_right (by simp [zlen])
    simp only [zlen] at hd
    simp only [zstep] at h1
    split at h1
    · cases h1
      intro H locs ls cells slots hL hn hB hce hsl
      exact lv_iushr hC.1 hC.2.1 hd rfl (g H locs ls cells slots hL hn hB hce hsl)
    · cases h1
  | pop =>
    obtain rfl := hw.resolve_right (by simp [zlen])
    simp only [zlen] at hd
    simp only [zstep] at h1
    split at h1
    · cases h1
      intro H locs ls cells slots hL hn hB hce hsl
      exact lv_pop hC.1 hC.2.1 hd rfl (g H locs ls cells slots hL hn hB hce hsl)
    · cases h1
  | idiv =>
    obtain rfl := hw.resolve_right (by simp [zlen])
    simp only [zlen] at hd
    simp only [zstep] at h1
    split at h1
    · obtain ⟨q, h1⟩ := znite h1
      cases h1
      intro H locs ls cells slots hL hn hB hce hsl
      exact lv_idiv hC.1 hC.2.1 hd q (g H locs ls cells slots hL hn hB hce hsl)
    · cases h1
  | irem =>
    obtain rfl := hw.resolve_right (by simp [zlen])
    simp only [zlen] at hd
    simp only [zstep] at h1
    split at h1
    · obtain ⟨q, h1⟩ := znite h1
      cases h1
      intro H locs ls cells slots hL hn hB hce hsl
      exact lv_irem hC.1 hC.2.1 hd q (g H locs ls cells slots hL hn hB hce hsl)
    · cases h1
  | ldiv =>
    obtain rfl := hw.resolve_right (by simp [zlen])
    simp only [zlen] at hd
    simp only [zstep] at h1
    split at h1
    · obtain ⟨q, h1⟩ := znite h1
      cases h1
      intro H locs ls cells slots hL hn hB hce hsl
      exact lv_ldiv hC.1 hC.2.1 hd q (g H locs ls cells slots hL hn hB hce hsl)
    · cases h1
  | lrem =>
    obtain rfl := hw.resolve_right (by simp [zlen])
    simp only [zlen] at hd
    simp only [zstep] at h1
    split at h1
    · obtain ⟨q, h1⟩ := znite h1
      cases h1
      intro H locs ls cells slots hL hn hB hce hsl
      exact lv_lrem hC.1 hC.2.1 hd q (g H locs ls cells slots hL hn hB hce hsl)
    · cases h1
  | dup =>
    obtain rfl := hw.resolve_right (by simp [zlen])
    simp only [zlen] at hd
    simp only [zstep] at h1
    split at h1
    · cases h1
      intro H locs ls cells slots hL hn hB hce hsl
      exact lv_dup hC.1 hC.2.1 hd rfl (g H locs ls cells slots hL hn hB hce hsl)
    · cases h1
      intro H locs ls cells slots hL hn hB hce hsl
      exact lv_dup hC.1 hC.2.1 hd rfl (g H locs ls cells slots hL hn hB hce hsl)
    · cases h1
  | dup2 =>
    obtain rfl := hw.resolve_right (by simp [zlen])
    simp only [zlen] at hd
    simp only [zstep] at h1
    split at h1
    · cases h1
      intro H locs ls cells slots hL hn hB hce hsl
      exact lv_dup2_11 hC.1 hC.2.1 hd rfl rfl (g H locs ls cells slots hL hn hB hce hsl)
    · cases h1
      intro H locs ls cells slots hL hn hB hce hsl
      exact lv_dup2_2 hC.1 hC.2.1 hd rfl (g H locs ls cells slots hL hn hB hce hsl)
    · cases h1
  | iload k =>
    obtain rfl := hw.resolve_right (by simp [zlen])
    simp only [zlen] at hd
    simp only [zstep] at h1
    split at h1
    · next x hx1 =>
      cases h1
      intro H locs ls cells slots hL hn hB hce hsl
      exact lv_iload hC.1 hC.2.1 hd (zget hL hx1) (g H locs ls cells slots hL hn hB hce hsl)
    · cases h1
  | lload k =>
    obtain rfl := hw.resolve_right (by simp [zlen])
    simp only [zlen] at hd
    simp only [zstep] at h1
    split at h1
    · next x hx1 =>
      cases h1
      intro H locs ls cells slots hL hn hB hce hsl
      exact lv_lload hC.1 hC.2.1 hd (zget hL hx1) (g H locs ls cells slots hL hn hB hce hsl)
    · cases h1
  | iload_n k =>
    obtain rfl := hw.resolve_right (by simp [zlen])
    simp only [zlen] at hd
    simp only [zstep] at h1
    split at h1
    · next x hx1 =>
      cases h1
      intro H locs ls cells slots hL hn hB hce hsl
      exact lv_iload_n hC.1 hC.2.1 hd rfl (zget hL hx1) (g H locs ls cells slots hL hn hB hce hsl)
    · cases h1
  | lload_n k =>
    obtain rfl := hw.resolve_right (by simp [zlen])
    simp only [zlen] at hd
    simp only [zstep] at h1
    split at h1
    · next x hx1 =>
      cases h1
      intro H locs ls cells slots hL hn hB hce hsl
      exact lv_lload_n hC.1 hC.2.1 hd rfl (zget hL hx1) (g H locs ls cells slots hL hn hB hce hsl)
    · cases h1
  | aload k =>
    obtain rfl := hw.resolve_right (by simp [zlen])
    simp only [zlen] at hd
    simp only [zstep] at h1
    split at h1
    · next x hx1 =>
      cases h1
      intro H locs ls cells slots hL hn hB hce hsl
      exact lv_aload hC.1 hC.2.1 hd (zget hL hx1) (g H locs ls cells slots hL hn hB hce hsl)
    · next hx1 =>
      cases h1
      intro H locs ls cells slots hL hn hB hce hsl
      exact lv_aloadN hC.1 hC.2.1 hd (zget hL hx1) (g H locs ls cells slots hL hn hB hce hsl)
    · next x hx1 =>
      cases h1
      intro H locs ls cells slots hL hn hB hce hsl
      have hl := zget hL hx1
      have g' := g H locs ls cells slots hL hn hB hce hsl
      rw [List.map_cons] at g'
      rcases va_rf_or (E.2.2.2.1 x) with q | ⟨a, q⟩
      · have z : zc E (.retAddr x) = .null := q
        rw [z] at hl g'
        exact lv_aloadN hC.1 hC.2.1 hd hl g'
      · have z : zc E (.retAddr x) = .ref a := q
        rw [z] at hl g'
        exact lv_aload hC.1 hC.2.1 hd hl g'
    · cases h1
  | aload_n k =>
    obtain rfl := hw.resolve_right (by simp [zlen])
    simp only [zlen] at hd
    simp only [zstep] at h1
    split at h1
    · next x hx1 =>
      cases h1
      intro H locs ls cells slots hL hn hB hce hsl
      exact lv_aload_n hC.1 hC.2.1 hd rfl (zget hL hx1) (g H locs ls cells slots hL hn hB hce hsl)
    · next hx1 =>
      cases h1
      intro H locs ls cells slots hL hn hB hce hsl
      exact lv_aload_nN hC.1 hC.2.1 hd rfl (zget hL hx1) (g H locs ls cells slots hL hn hB hce hsl)
    · next x hx1 =>
      cases h1
      intro H locs ls cells slots hL hn hB hce hsl
      have hl := zget hL hx1
      have g' := g H locs ls cells slots hL hn hB hce hsl
      rw [List.map_cons] at g'
      rcases va_rf_or (E.2.2.2.1 x) with q | ⟨a, q⟩
      · have z : zc E (.retAddr x) = .null := q
        rw [z] at hl g'
        exact lv_aload_nN hC.1 hC.2.1 hd rfl hl g'
      · have z : zc E (.retAddr x) = .ref a := q
        rw [z] at hl g'
        exact lv_aload_n hC.1 hC.2.1 hd rfl hl g'
    · cases h1
  | istore k =>
    obtain rfl := hw.resolve_right (by simp [zlen])
    simp only [zlen] at hd
    simp only [zstep] at h1
    split at h1
    · obtain ⟨hb, h1⟩ := zbif h1
      cases h1
      intro H locs ls cells slots hL hn hB hce hsl
      exact lv_istore hC.1 hC.2.1 hd (zLs_has hL) (zblt hb) rfl (fun ls' hl' => g H locs ls' cells slots (zLs_st1 rfl (zblt hb) hl') (by rw [zsv1_len]; exact hn) hB hce hsl)
    · cases h1
  | istore_n k =>
    obtain rfl := hw.resolve_right (by simp [zlen])
    simp only [zlen] at hd
    simp only [zstep] at h1
    split at h1
    · obtain ⟨hb, h1⟩ := zbif h1
      cases h1
      intro H locs ls cells slots hL hn hB hce hsl
      exact lv_istore_n hC.1 hC.2.1 hd rfl (zLs_has hL) (zblt hb) rfl (fun ls' hl' => g H locs ls' cells slots (zLs_st1 rfl (zblt hb) hl') (by rw [zsv1_len]; exact hn) hB hce hsl)
    · cases h1
  | lstore k =>
    obtain rfl := hw.resolve_right (by simp [zlen])
    simp only [zlen] at hd
    simp only [zstep] at h1
    split at h1
    · obtain ⟨hb, h1⟩ := zbif h1
      cases h1
      intro H locs ls cells slots hL hn hB hce hsl
      exact lv_lstore hC.1 hC.2.1 hd (zLs_has hL) (zblt hb) rfl (fun ls' hl' => g H locs ls' cells slots (zLs_st2 rfl (zblt hb) hl') (by rw [zsv2_len]; exact hn) hB hce hsl)
    · cases h1
  | lstore_n k =>
    obtain rfl := hw.resolve_right (by simp [zlen])
    simp only [zlen] at hd
    simp only [zstep] at h1
    split at h1
    · obtain ⟨hb, h1⟩ := zbif h1
      cases h1
      intro H locs ls cells slots hL hn hB hce hsl
      exact lv_lstore_n hC.1 hC.2.1 hd rfl (zLs_has hL) (zblt hb) rfl (fun ls' hl' => g H locs ls' cells slots (zLs_st2 rfl (zblt hb) hl') (by rw [zsv2_len]; exact hn) hB hce hsl)
    · cases h1
  | astore k =>
    obtain rfl := hw.resolve_right (by simp [zlen])
    simp only [zlen] at hd
    simp only [zstep] at h1
    split at h1
    · obtain ⟨hb, h1⟩ := zbif h1
      cases h1
      intro H locs ls cells slots hL hn hB hce hsl
      exact lv_astore hC.1 hC.2.1 hd (zLs_has hL) (zblt hb) rfl (fun ls' hl' => g H locs ls' cells slots (zLs_st1 rfl (zblt hb) hl') (by rw [zsv1_len]; exact hn) hB hce hsl)
    · obtain ⟨hb, h1⟩ := zbif h1
      cases h1
      intro H locs ls cells slots hL hn hB hce hsl
      exact lv_astoreN hC.1 hC.2.1 hd (zLs_has hL) (zblt hb) rfl (fun ls' hl' => g H locs ls' cells slots (zLs_st1 rfl (zblt hb) hl') (by rw [zsv1_len]; exact hn) hB hce hsl)
    · cases h1
  | astore_n k =>
    obtain rfl := hw.resolve_right (by simp [zlen])
    simp only [zlen] at hd
    simp only [zstep] at h1
    split at h1
    · obtain ⟨hb, h1⟩ := zbif h1
      cases h1
      intro H locs ls cells slots hL hn hB hce hsl
      exact lv_astore_n hC.1 hC.2.1 hd rfl (zLs_has hL) (zblt hb) rfl (fun ls' hl' => g H locs ls' cells slots (zLs_st1 rfl (zblt hb) hl') (by rw [zsv1_len]; exact hn) hB hce hsl)
    · obtain ⟨hb, h1⟩ := zbif h1
      cases h1
      intro H locs ls cells slots hL hn hB hce hsl
      exact lv_astore_nN hC.1 hC.2.1 hd rfl (zLs_has hL) (zblt hb) rfl (fun ls' hl' => g H locs ls' cells slots (zLs_st1 rfl (zblt hb) hl') (by rw [zsv1_len]; exact hn) hB hce hsl)
    · cases h1
  | iinc k n =>
    obtain rfl := hw.resolve_right (by simp [zlen])
    simp only [zlen] at hd
    simp only [zstep] at h1
    split at h1
    · next x hx1 =>
      cases h1
      intro H locs ls cells slots hL hn hB hce hsl
      have hk : k < L.length := (List.getElem?_eq_some_iff.mp hx1).1
      obtain ⟨k0, hk0⟩ := List.getElem?_of_mem (zen_mem (E := E) (q := (k, .int x)).mpr ⟨_, hx1, rfl⟩)
      exact lv_iinc hC.1 hC.2.1 hd (zLs_has hL) hk0 rfl hk rfl (fun ls' hl' => g H locs ls' cells slots (zLs_st1 rfl hk hl') (by rw [zsv1_len]; exact hn) hB hce hsl)
    · cases h1
  | ldc k =>
    obtain rfl := hw.resolve_right (by simp [zlen])
    simp only [zlen] at hd
    simp only [zstep] at h1
    split at h1
    · next v hv =>
      cases h1
      intro H locs ls cells slots hL hn hB hce hsl
      exact lv_ldc hC.1 hC.2.1 own (hC.word (zldc_ok (v := v.1) (i := v.2) ho hx hv)) hd (g H locs ls cells slots hL hn hB hce hsl)
    · obtain ⟨hb, h1⟩ := zbif h1
      cases h1
      exact z_ldcS hC hd hx (zbeq hb) g
  | ldc_w k =>
    obtain rfl := hw.resolve_right (by simp [zlen])
    simp only [zlen] at hd
    simp only [zstep] at h1
    split at h1
    · next v hv =>
      cases h1
      intro H locs ls cells slots hL hn hB hce hsl
      exact lv_ldcw hC.1 hC.2.1 own (hC.word (zldc_ok (v := v.1) (i := v.2) ho hx hv)) hd (g H locs ls cells slots hL hn hB hce hsl)
    · cases h1
  | ldc2_w k =>
    obtain rfl := hw.resolve_right (by simp [zlen])
    simp only [zlen] at hd
    simp only [zstep] at h1
    split at h1
    · next v hv =>
      cases h1
      intro H locs ls cells slots hL hn hB hce hsl
      exact lv_ldc2 hC.1 hC.2.1 own (hC.word (zldcL_ok (v := v.1) (i := v.2) ho hx hv)) hd (g H locs ls cells slots hL hn hB hce hsl)
    · cases h1
  | goto o =>
    obtain rfl := hw.resolve_right (by simp [zlen])
    simp only [zlen] at hd
    simp only [zstep] at h1
    obtain ⟨hb, h1⟩ := zbif h1
    cases h1
    exact z_goto hC hd (of_decide_eq_true hb) g
  | ifCond cd o =>
    obtain rfl := hw.resolve_right (by simp [zlen])
    simp only [zlen] at hd
    simp only [zstep] at h1
    split at h1
    · obtain ⟨hb, h1⟩ := zbif h1
      refine z_if hC hd (of_decide_eq_true hb) (fun q => ?_) (fun q => ?_)
      · rw [if_pos q] at h1
        cases h1
        exact g
      · rw [if_neg q] at h1
        cases h1
        exact g
    · cases h1
  | if_icmp cd o =>
    obtain rfl := hw.resolve_right (by simp [zlen])
    simp only [zlen] at hd
    simp only [zstep] at h1
    split at h1
    · obtain ⟨hb, h1⟩ := zbif h1
      refine z_icmp hC hd (of_decide_eq_true hb) (fun q => ?_) (fun q => ?_)
      · rw [if_pos q] at h1
        cases h1
        exact g
      · rw [if_neg q] at h1
        cases h1
        exact g
    · cases h1
  | ifnull o =>
    obtain rfl := hw.resolve_right (by simp [zlen])
    simp only [zlen] at hd
    simp only [zstep] at h1
    split at h1
    · obtain ⟨hb, h1⟩ := zbif h1
      cases h1
      intro H locs ls cells slots hL hn hB hce hsl
      exact lv_ifnullN hC.1 hC.2.1 hd (Int.toNat_of_nonneg (of_decide_eq_true hb)).symm (g H locs ls cells slots hL hn hB hce hsl)
    · cases h1
      intro H locs ls cells slots hL hn hB hce hsl
      exact lv_ifnull hC.1 hC.2.1 hd (g H locs ls cells slots hL hn hB hce hsl)
    · cases h1
  | ifnonnull o =>
    obtain rfl := hw.resolve_right (by simp [zlen])
    simp only [zlen] at hd
    simp only [zstep] at h1
    split at h1
    · obtain ⟨hb, h1⟩ := zbif h1
      cases h1
      intro H locs ls cells slots hL hn hB hce hsl
      exact lv_ifnonnull hC.1 hC.2.1 hd (Int.toNat_of_nonneg (of_decide_eq_true hb)).symm (g H locs ls cells slots hL hn hB hce hsl)
    · cases h1
      intro H locs ls cells slots hL hn hB hce hsl
      exact lv_ifnonnullN hC.1 hC.2.1 hd (g H locs ls cells slots hL hn hB hce hsl)
    · cases h1
  | tableswitch d lo hi os =>
    simp only [zstep] at h1
    split at h1
    · split at h1
      · next q =>
        obtain ⟨hb, h1⟩ := zbif h1
        cases h1
        intro H locs ls cells slots hL hn hB hce hsl
        exact lv_tableOut hC.1 hC.2.1 hd q (Int.toNat_of_nonneg (of_decide_eq_true hb)).symm (g H locs ls cells slots hL hn hB hce hsl)
      · next q =>
        split at h1
        · next o ho1 =>
          obtain ⟨hb, h1⟩ := zbif h1
          cases h1
          intro H locs ls cells slots hL hn hB hce hsl
          exact lv_tableIn hC.1 hC.2.1 hd (fun z => q (Or.inl z)) (fun z => q (Or.inr z)) ho1 (Int.toNat_of_nonneg (of_decide_eq_true hb)).symm (g H locs ls cells slots hL hn hB hce hsl)
        · cases h1
    · cases h1
  | lookupswitch d ps =>
    simp only [zstep] at h1
    split at h1
    · obtain ⟨hb, h1⟩ := zbif h1
      obtain ⟨hb1, hb2⟩ := zand hb
      cases h1
      intro H locs ls cells slots hL hn hB hce hsl
      exact lv_lookup hC.1 hC.2.1 hd hb1 rfl (Int.toNat_of_nonneg (of_decide_eq_true hb2)).symm (g H locs ls cells slots hL hn hB hce hsl)
    · cases h1
  | getstatic k =>
    obtain rfl := hw.resolve_right (by simp [zlen])
    simp only [zlen] at hd
    simp only [zstep] at h1
    cases hb : Nat.beq (zlk y k) 16422 with
    | true =>
      rw [hb] at h1
      cases h1
      exact z_gets hC hd hx (zbeq hb) g
    | false =>
      rw [hb] at h1
      obtain ⟨hb, h1⟩ := zbif h1
      cases h1
      exact z_gets3 hC hd hx (zbeq hb) g
  | getfield k =>
    obtain rfl := hw.resolve_right (by simp [zlen])
    simp only [zlen] at hd
    simp only [zstep] at h1
    split at h1
    · split at h1
      · next d j i0 hf =>
        obtain ⟨hb, h1⟩ := zbif h1
        obtain ⟨hb1, hb2⟩ := zand hb
        cases hI : zI d j with
        | true =>
          rw [hI] at h1
          cases h1
          exact z_getfield ho hx hC hd hf (zblt hb1) (zbeq hb2) (by simp [zfv, hI, zc]) g
        | false =>
          rw [hI] at h1
          cases h1
          exact z_getfield ho hx hC hd hf (zblt hb1) (zbeq hb2) (by rw [zc_rf]; simp [zfv, hI]) g
      · cases h1
    · cases hb : Nat.beq (zlk y k) 16393 with
      | true =>
        rw [hb] at h1
        cases h1
        exact z_strV hC hd hx (zbeq hb) g
      | false =>
        rw [hb] at h1
        obtain ⟨hb, h1⟩ := zbif h1
        cases h1
        exact z_strC hC hd hx (zbeq hb) g
    · cases h1
  | putfield k =>
    obtain rfl := hw.resolve_right (by simp [zlen])
    simp only [zlen] at hd
    simp only [zstep] at h1
    split at h1
    · split at h1
      · next d j i0 hf =>
        obtain ⟨hb, h1⟩ := zbif h1
        obtain ⟨hb, hb3⟩ := zand hb
        obtain ⟨hb1, hb2⟩ := zand hb
        cases h1
        exact z_putI ho hx hC hd hf (zblt hb1) (zbeq hb2) hb3 g
      · cases h1
    · split at h1
      · next d j i0 hf =>
        obtain ⟨hb, h1⟩ := zbif h1
        obtain ⟨hb, hb5⟩ := zand hb
        obtain ⟨hb, hb4⟩ := zand hb
        obtain ⟨hb, hb3⟩ := zand hb
        obtain ⟨hb1, hb2⟩ := zand hb
        cases h1
        exact z_putR ho hx hC hd hf (zblt hb1) (zbeq hb2) (by simpa using hb3) (zbeq hb4) (zbeq hb5) g
      · cases h1
    · cases h1
  | arraylength =>
    obtain rfl := hw.resolve_right (by simp [zlen])
    simp only [zlen] at hd
    simp only [zstep] at h1
    split at h1
    · obtain ⟨hb, h1⟩ := zbif h1
      obtain ⟨hb, hb3⟩ := zand hb
      obtain ⟨hb1, hb2⟩ := zand hb
      cases h1
      exact z_len hC hd (zblt hb1) (zble hb2) (zble hb3) g
    · cases h1
      exact z_len1 hC hd g
    · cases h1
      exact z_len2 hC hd g
    · cases h1
  | iaload =>
    obtain rfl := hw.resolve_right (by simp [zlen])
    simp only [zlen] at hd
    simp only [zstep] at h1
    split at h1
    · obtain ⟨hb, h1⟩ := zbif h1
      obtain ⟨hb1, hb2⟩ := zand hb
      obtain ⟨hi, h1⟩ := zite h1
      cases h1
      exact z_iald hC hd (zblt hb1) (zbeq hb2) hi g
    · obtain ⟨hi, h1⟩ := zite h1
      cases h1
      exact z_iald2 hC hd hi g
    · cases h1
  | baload =>
    obtain rfl := hw.resolve_right (by simp [zlen])
    simp only [zlen] at hd
    simp only [zstep] at h1
    split at h1
    · obtain ⟨hi, h1⟩ := zite h1
      cases h1
      exact z_bald hC hd hi g
    · cases h1
  | caload =>
    obtain rfl := hw.resolve_right (by simp [zlen])
    simp only [zlen] at hd
    simp only [zstep] at h1
    split at h1
    · obtain ⟨hb, h1⟩ := zbif h1
      obtain ⟨hb1, hb2⟩ := zand hb
      obtain ⟨hi, h1⟩ := zite h1
      cases h1
      exact z_cald hC hd (zblt hb1) (zbeq hb2) hi g
    · cases h1
  | aaload =>
    obtain rfl := hw.resolve_right (by simp [zlen])
    simp only [zlen] at hd
    simp only [zstep] at h1
    split at h1
    · obtain ⟨hb, h1⟩ := zbif h1
      obtain ⟨hb1, hb2⟩ := zand hb
      obtain ⟨hi, h1⟩ := zite h1
      cases h1
      exact z_aald hC hd (zblt hb1) (zbeq hb2) hi g
    · cases h1
  | iastore =>
    obtain rfl := hw.resolve_right (by simp [zlen])
    simp only [zlen] at hd
    simp only [zstep] at h1
    split at h1
    · obtain ⟨hb, h1⟩ := zbif h1
      obtain ⟨hb1, hb2⟩ := zand hb
      obtain ⟨hi, h1⟩ := zite h1
      cases h1
      exact z_iast hC hd (zblt hb1) (zbeq hb2) hi g
    · cases h1
  | castore =>
    obtain rfl := hw.resolve_right (by simp [zlen])
    simp only [zlen] at hd
    simp only [zstep] at h1
    split at h1
    · obtain ⟨hb, h1⟩ := zbif h1
      obtain ⟨hb1, hb2⟩ := zand hb
      obtain ⟨hi, h1⟩ := zite h1
      cases h1
      exact z_cast hC hd (zblt hb1) (zbeq hb2) hi g
    · cases h1
  | aastore =>
    obtain rfl := hw.resolve_right (by simp [zlen])
    simp only [zlen] at hd
    simp only [zstep] at h1
    split at h1
    · obtain ⟨hb, h1⟩ := zbif h1
      obtain ⟨hb, hb4⟩ := zand hb
      obtain ⟨hb, hb3⟩ := zand hb
      obtain ⟨hb1, hb2⟩ := zand hb
      obtain ⟨hi, h1⟩ := zite h1
      cases h1
      exact z_aast hC hd (zblt hb1) (zbeq hb2) (zblt hb3) (zbeq hb4) hi g
    · obtain ⟨hb, h1⟩ := zbif h1
      obtain ⟨hb1, hb2⟩ := zand hb
      obtain ⟨hi, h1⟩ := zite h1
      cases h1
      exact z_aastN hC hd (zblt hb1) (zbeq hb2) hi g
    · cases h1
  | new k =>
    obtain rfl := hw.resolve_right (by simp [zlen])
    simp only [zlen] at hd
    simp only [zstep] at h1
    split at h1
    · next d i0 hf =>
      cases h1
      exact z_new ho hx hC h0 hd hf hr1 hr2 g
    · cases h1
  | newarray t =>
    obtain rfl := hw.resolve_right (by simp [zlen])
    simp only [zlen] at hd
    cases t with
    | int =>
      simp only [zstep] at h1
      split at h1
      · obtain ⟨q, h1⟩ := znite h1
        cases h1
        exact z_newI hC h0 hd (fun z => q (Or.inl z)) (by omega) hr1 hr2 g
      · cases h1
    | char =>
      simp only [zstep] at h1
      split at h1
      · obtain ⟨q, h1⟩ := znite h1
        cases h1
        exact z_newC hC h0 hd (fun z => q (Or.inl z)) (by omega) hr1 hr2 g
      · cases h1
    | _ => simp [zstep] at h1
  | anewarray k =>
    obtain rfl := hw.resolve_right (by simp [zlen])
    simp only [zlen] at hd
    simp only [zstep] at h1
    split at h1
    · split at h1
      · next i0 hf =>
        obtain ⟨q, h1⟩ := znite h1
        cases h1
        exact z_newQ ho hx hC h0 hd hf (fun z => q (Or.inl z)) (by omega) hr1 hr2 g
      · cases h1
    · cases h1
  | invokespecial k =>
    obtain rfl := hw.resolve_right (by simp [zlen])
    simp only [zlen] at hd
    simp only [zstep] at h1
    split at h1
    · next hf =>
      obtain ⟨hb, h1⟩ := zbif h1
      obtain ⟨hb1, hb2⟩ := zand hb
      cases h1
      exact z_obj ho hx hC hd hf (zble hb1) (zble hb2) g
    · cases h1
  | invokestatic k =>
    obtain rfl := hw.resolve_right (by simp [zlen])
    simp only [zlen] at hd
    simp only [zstep] at h1
    split at h1
    · next hf =>
      obtain ⟨hb, h1⟩ := zbif h1
      obtain ⟨hb1, hb2⟩ := zand hb
      cases h1
      exact z_max ho hx hC hd hf (zble hb1) (zble hb2) hr1 hr2 g
    · next hf =>
      obtain ⟨hb, h1⟩ := zbif h1
      obtain ⟨hb1, hb2⟩ := zand hb
      cases h1
      exact z_min ho hx hC hd hf (zble hb1) (zble hb2) hr1 hr2 g
    · split at h1
      · next hf =>
        obtain ⟨hb, h1⟩ := zbif h1
        obtain ⟨hb, hb6⟩ := zand hb
        obtain ⟨hb, hb5⟩ := zand hb
        obtain ⟨hb, hb4⟩ := zand hb
        obtain ⟨hb, hb3⟩ := zand hb
        obtain ⟨hb1, hb2⟩ := zand hb
        obtain ⟨⟨q1, q2, q3, q4, q5⟩, h1⟩ := zite h1
        cases h1
        exact z_copy ho hx hC hd hf (zble hb1) (zble hb2) (zblt hb3) (zblt hb4) (zbeq hb5) (zbeq hb6) q1 q2 q3 q4 q5 g
      · cases h1
    · cases h1
  | _ => simp [zstep] at h1
end ZOne
