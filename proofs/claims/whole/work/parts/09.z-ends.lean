/-! the code tables once more: lengths, pool entries, ends (printed) -/
def zix (i : Instr) : Nat := match i with
  | .ldc k | .ldc_w k | .ldc2_w k | .getstatic k | .getfield k | .putfield k | .invokevirtual k | .invokespecial k | .invokestatic k | .new k | .anewarray k => k
  | _ => 0
def zchk2 (y : Nat) : Bool := (List.range (zsz y)).all fun pc => match zins y pc with | none => true | some q => Nat.blt (zix q.1) 2048 && (Nat.beq (zlen q.1) q.2 || Nat.beq (zlen q.1) 0)
set_option maxRecDepth 100000 in
theorem zchk2_all : ∀ y, y < 175 → zchk2 y = true := by decide +kernel
theorem zsz_of {n pc : Nat} {x : Option (Instr × Nat)} {q : Instr × Nat} (h : (bif Nat.ble n pc then none else x) = some q) : pc < n := by
  cases hb : Nat.ble n pc with
  | true => rw [hb] at h; cases h
  | false =>
    have : ¬ n ≤ pc := fun z => by rw [Nat.ble_eq_true_of_le z] at hb; cases hb
    omega
theorem zins_sz : ∀ y, y < 175 → ∀ (pc : Nat) (q : Instr × Nat), zins y pc = some q → pc < zsz y
  | 0, _ => fun _ _ h => zsz_of (n := 142) h
  | 1, _ => fun _ _ h => zsz_of (n := 21) h
  | 2, _ => fun _ _ h => zsz_of (n := 29) h
  | 3, _ => fun _ _ h => zsz_of (n := 21) h
  | 4, _ => fun _ _ h => zsz_of (n := 21) h
  | 5, _ => fun _ _ h => zsz_of (n := 47) h
  | 6, _ => fun _ _ h => zsz_of (n := 11) h
  | 7, _ => fun _ _ h => zsz_of (n := 15) h
  | 8, _ => fun _ _ h => zsz_of (n := 25) h
  | 9, _ => fun _ _ h => zsz_of (n := 19) h
  | 10, _ => fun _ _ h => zsz_of (n := 15) h
  | 11, _ => fun _ _ h => zsz_of (n := 10) h
  | 12, _ => fun _ _ h => zsz_of (n := 18) h
  | 13, _ => fun _ _ h => zsz_of (n := 41) h
  | 14, _ => fun _ _ h => zsz_of (n := 53) h
  | 15, _ => fun _ _ h => zsz_of (n := 29) h
  | 16, _ => fun _ _ h => zsz_of (n := 21) h
  | 17, _ => fun _ _ h => zsz_of (n := 142) h
  | 18, _ => fun _ _ h => zsz_of (n := 32) h
  | 19, _ => fun _ _ h => zsz_of (n := 82) h
  | 20, _ => fun _ _ h => zsz_of (n := 57) h
  | 21, _ => fun _ _ h => zsz_of (n := 27) h
  | 22, _ => fun _ _ h => zsz_of (n := 62) h
  | 23, _ => fun _ _ h => zsz_of (n := 41) h
  | 24, _ => fun _ _ h => zsz_of (n := 18) h
  | 25, _ => fun _ _ h => zsz_of (n := 15) h
  | 26, _ => fun _ _ h => zsz_of (n := 32) h
  | 27, _ => fun _ _ h => zsz_of (n := 18) h
  | 28, _ => fun _ _ h => zsz_of (n := 24) h
  | 29, _ => fun _ _ h => zsz_of (n := 6) h
  | 30, _ => fun _ _ h => zsz_of (n := 43) h
  | 31, _ => fun _ _ h => zsz_of (n := 18) h
  | 32, _ => fun _ _ h => zsz_of (n := 5) h
  | 33, _ => fun _ _ h => zsz_of (n := 17) h
  | 34, _ => fun _ _ h => zsz_of (n := 12) h
  | 35, _ => fun _ _ h => zsz_of (n := 69) h
  | 36, _ => fun _ _ h => zsz_of (n := 5) h
  | 37, _ => fun _ _ h => zsz_of (n := 78) h
  | 38, _ => fun _ _ h => zsz_of (n := 6) h
  | 39, _ => fun _ _ h => zsz_of (n := 6) h
  | 40, _ => fun _ _ h => zsz_of (n := 65) h
  | 41, _ => fun _ _ h => zsz_of (n := 24) h
  | 42, _ => fun _ _ h => zsz_of (n := 29) h
  | 43, _ => fun _ _ h => zsz_of (n := 32) h
  | 44, _ => fun _ _ h => zsz_of (n := 9) h
  | 45, _ => fun _ _ h => zsz_of (n := 15) h
  | 46, _ => fun _ _ h => zsz_of (n := 23) h
  | 47, _ => fun _ _ h => zsz_of (n := 33) h
  | 48, _ => fun _ _ h => zsz_of (n := 31) h
  | 49, _ => fun _ _ h => zsz_of (n := 68) h
  | 50, _ => fun _ _ h => zsz_of (n := 17) h
  | 51, _ => fun _ _ h => zsz_of (n := 31) h
  | 52, _ => fun _ _ h => zsz_of (n := 20) h
  | 53, _ => fun _ _ h => zsz_of (n := 48) h
  | 54, _ => fun _ _ h => zsz_of (n := 5) h
  | 55, _ => fun _ _ h => zsz_of (n := 90) h
  | 56, _ => fun _ _ h => zsz_of (n := 24) h
  | 57, _ => fun _ _ h => zsz_of (n := 56) h
  | 58, _ => fun _ _ h => zsz_of (n := 118) h
  | 59, _ => fun _ _ h => zsz_of (n := 49) h
  | 60, _ => fun _ _ h => zsz_of (n := 21) h
  | 61, _ => fun _ _ h => zsz_of (n := 40) h
  | 62, _ => fun _ _ h => zsz_of (n := 26) h
  | 63, _ => fun _ _ h => zsz_of (n := 25) h
  | 64, _ => fun _ _ h => zsz_of (n := 40) h
  | 65, _ => fun _ _ h => zsz_of (n := 40) h
  | 66, _ => fun _ _ h => zsz_of (n := 18) h
  | 67, _ => fun _ _ h => zsz_of (n := 66) h
  | 68, _ => fun _ _ h => zsz_of (n := 24) h
  | 69, _ => fun _ _ h => zsz_of (n := 57) h
  | 70, _ => fun _ _ h => zsz_of (n := 59) h
  | 71, _ => fun _ _ h => zsz_of (n := 5) h
  | 72, _ => fun _ _ h => zsz_of (n := 6) h
  | 73, _ => fun _ _ h => zsz_of (n := 55) h
  | 74, _ => fun _ _ h => zsz_of (n := 44) h
  | 75, _ => fun _ _ h => zsz_of (n := 5) h
  | 76, _ => fun _ _ h => zsz_of (n := 16) h
  | 77, _ => fun _ _ h => zsz_of (n := 5) h
  | 78, _ => fun _ _ h => zsz_of (n := 27) h
  | 79, _ => fun _ _ h => zsz_of (n := 34) h
  | 80, _ => fun _ _ h => zsz_of (n := 5) h
  | 81, _ => fun _ _ h => zsz_of (n := 101) h
  | 82, _ => fun _ _ h => zsz_of (n := 79) h
  | 83, _ => fun _ _ h => zsz_of (n := 107) h
  | 84, _ => fun _ _ h => zsz_of (n := 27) h
  | 85, _ => fun _ _ h => zsz_of (n := 31) h
  | 86, _ => fun _ _ h => zsz_of (n := 111) h
  | 87, _ => fun _ _ h => zsz_of (n := 53) h
  | 88, _ => fun _ _ h => zsz_of (n := 5) h
  | 89, _ => fun _ _ h => zsz_of (n := 84) h
  | 90, _ => fun _ _ h => zsz_of (n := 16) h
  | 91, _ => fun _ _ h => zsz_of (n := 51) h
  | 92, _ => fun _ _ h => zsz_of (n := 116) h
  | 93, _ => fun _ _ h => zsz_of (n := 53) h
  | 94, _ => fun _ _ h => zsz_of (n := 72) h
  | 95, _ => fun _ _ h => zsz_of (n := 66) h
  | 96, _ => fun _ _ h => zsz_of (n := 15) h
  | 97, _ => fun _ _ h => zsz_of (n := 47) h
  | 98, _ => fun _ _ h => zsz_of (n := 5) h
  | 99, _ => fun _ _ h => zsz_of (n := 17) h
  | 100, _ => fun _ _ h => zsz_of (n := 154) h
  | 101, _ => fun _ _ h => zsz_of (n := 52) h
  | 102, _ => fun _ _ h => zsz_of (n := 78) h
  | 103, _ => fun _ _ h => zsz_of (n := 45) h
  | 104, _ => fun _ _ h => zsz_of (n := 85) h
  | 105, _ => fun _ _ h => zsz_of (n := 58) h
  | 106, _ => fun _ _ h => zsz_of (n := 29) h
  | 107, _ => fun _ _ h => zsz_of (n := 249) h
  | 108, _ => fun _ _ h => zsz_of (n := 21) h
  | 109, _ => fun _ _ h => zsz_of (n := 36) h
  | 110, _ => fun _ _ h => zsz_of (n := 130) h
  | 111, _ => fun _ _ h => zsz_of (n := 29) h
  | 112, _ => fun _ _ h => zsz_of (n := 43) h
  | 113, _ => fun _ _ h => zsz_of (n := 32) h
  | 114, _ => fun _ _ h => zsz_of (n := 32) h
  | 115, _ => fun _ _ h => zsz_of (n := 132) h
  | 116, _ => fun _ _ h => zsz_of (n := 22) h
  | 117, _ => fun _ _ h => zsz_of (n := 221) h
  | 118, _ => fun _ _ h => zsz_of (n := 55) h
  | 119, _ => fun _ _ h => zsz_of (n := 21) h
  | 120, _ => fun _ _ h => zsz_of (n := 16) h
  | 121, _ => fun _ _ h => zsz_of (n := 76) h
  | 122, _ => fun _ _ h => zsz_of (n := 51) h
  | 123, _ => fun _ _ h => zsz_of (n := 16) h
  | 124, _ => fun _ _ h => zsz_of (n := 12) h
  | 125, _ => fun _ _ h => zsz_of (n := 5) h
  | 126, _ => fun _ _ h => zsz_of (n := 56) h
  | 127, _ => fun _ _ h => zsz_of (n := 225) h
  | 128, _ => fun _ _ h => zsz_of (n := 124) h
  | 129, _ => fun _ _ h => zsz_of (n := 19) h
  | 130, _ => fun _ _ h => zsz_of (n := 9) h
  | 131, _ => fun _ _ h => zsz_of (n := 28) h
  | 132, _ => fun _ _ h => zsz_of (n := 59) h
  | 133, _ => fun _ _ h => zsz_of (n := 12) h
  | 134, _ => fun _ _ h => zsz_of (n := 36) h
  | 135, _ => fun _ _ h => zsz_of (n := 21) h
  | 136, _ => fun _ _ h => zsz_of (n := 28) h
  | 137, _ => fun _ _ h => zsz_of (n := 27) h
  | 138, _ => fun _ _ h => zsz_of (n := 57) h
  | 139, _ => fun _ _ h => zsz_of (n := 17) h
  | 140, _ => fun _ _ h => zsz_of (n := 60) h
  | 141, _ => fun _ _ h => zsz_of (n := 137) h
  | 142, _ => fun _ _ h => zsz_of (n := 256) h
  | 143, _ => fun _ _ h => zsz_of (n := 30) h
  | 144, _ => fun _ _ h => zsz_of (n := 27) h
  | 145, _ => fun _ _ h => zsz_of (n := 94) h
  | 146, _ => fun _ _ h => zsz_of (n := 29) h
  | 147, _ => fun _ _ h => zsz_of (n := 41) h
  | 148, _ => fun _ _ h => zsz_of (n := 59) h
  | 149, _ => fun _ _ h => zsz_of (n := 16) h
  | 150, _ => fun _ _ h => zsz_of (n := 27) h
  | 151, _ => fun _ _ h => zsz_of (n := 59) h
  | 152, _ => fun _ _ h => zsz_of (n := 90) h
  | 153, _ => fun _ _ h => zsz_of (n := 27) h
  | 154, _ => fun _ _ h => zsz_of (n := 27) h
  | 155, _ => fun _ _ h => zsz_of (n := 137) h
  | 156, _ => fun _ _ h => zsz_of (n := 19) h
  | 157, _ => fun _ _ h => zsz_of (n := 26) h
  | 158, _ => fun _ _ h => zsz_of (n := 22) h
  | 159, _ => fun _ _ h => zsz_of (n := 71) h
  | 160, _ => fun _ _ h => zsz_of (n := 49) h
  | 161, _ => fun _ _ h => zsz_of (n := 52) h
  | 162, _ => fun _ _ h => zsz_of (n := 203) h
  | 163, _ => fun _ _ h => zsz_of (n := 73) h
  | 164, _ => fun _ _ h => zsz_of (n := 12) h
  | 165, _ => fun _ _ h => zsz_of (n := 199) h
  | 166, _ => fun _ _ h => zsz_of (n := 72) h
  | 167, _ => fun _ _ h => zsz_of (n := 103) h
  | 168, _ => fun _ _ h => zsz_of (n := 32) h
  | 169, _ => fun _ _ h => zsz_of (n := 276) h
  | 170, _ => fun _ _ h => zsz_of (n := 164) h
  | 171, _ => fun _ _ h => zsz_of (n := 60) h
  | 172, _ => fun _ _ h => zsz_of (n := 64) h
  | 173, _ => fun _ _ h => zsz_of (n := 120) h
  | 174, _ => fun _ _ h => zsz_of (n := 828) h
  | y + 175, h => absurd h (by omega)
theorem zins_ok {y pc w : Nat} {i : Instr} (hy : y < 175) (h : zins y pc = some (i, w)) : decode (zcode y) pc = .ok (i, w) ∧ zix i < 2048 ∧ (zlen i = w ∨ zlen i = 0) := by
  have hp := List.mem_range.mpr (zins_sz y hy pc _ h)
  have h1 := List.all_eq_true.mp (zk y hy) pc hp
  have h2 := List.all_eq_true.mp (zchk2_all y hy) pc hp
  rw [h] at h1 h2
  simp only [Bool.and_eq_true, Bool.or_eq_true, Nat.blt_eq, Nat.beq_eq] at h2
  exact ⟨of_decide_eq_true h1, h2.1, h2.2⟩
theorem zq_cls : ∀ y, y < 175 → (zq y).1 < 14 := by decide +kernel
