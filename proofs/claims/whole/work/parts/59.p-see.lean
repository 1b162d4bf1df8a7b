/-! THE PURE PART: see, forget, write, wipe -/
def OZ (G D : (Nat → Nat → Int32) → Option (Int32 × (Nat → Nat → Int32))) (I : Nat → Nat → Int32) (r : Nat) : Prop := ∃ v J K, G I = some (v, J) ∧ D J = some (v, K) ∧ ZA K r
theorem ch_in : ∀ m, m < 127 → vp_nar .char (((nI m).toUInt32 % 65536).toInt32) = nI m := by decide +kernel
section PSee
variable {I : Nat → Nat → Int32} {μ : MS} {r k : Nat} {pl : Nat → MS} {q : Nat} {kl : Nat → MS} {sl : List (Nat × Nat)} {n : Nat} {tx : Nat → Nat}
theorem OQ.oz {G D : (Nat → Nat → Int32) → Option (Int32 × (Nat → Nat → Int32))} (h : INV I μ r k pl q kl sl n tx) (o : OQ G D I) : OZ G D I r := by
  obtain ⟨v, J, K, a, b, c⟩ := o
  exact ⟨v, J, K, a, b, μ, k, pl, q, kl, sl, n, tx, h.keep c⟩
theorem op_see (h : INV I μ r k pl q kl sl n tx) (x w : Int32) : OZ (fun J => x_G_see J x w) (fun J => x_D_see J x w) I r := by
  have z : ¬ (1 : Int32) = 0 := by decide
  have h66 := h.1.1.1
  have stay : ZA I r := ⟨μ, k, pl, q, kl, sl, n, tx, h⟩
  rcases two_has h.2.1.1 h.2.1.2.2.2 h.1 x with ⟨h1, h2⟩ | ⟨c, hc, e, h1, h2⟩
  · exact ⟨-1, I, I, by show x_G_see I x w = _; rw [x_G_see, if_pos h1], by show x_D_see I x w = _; rw [x_D_see, if_pos h2], stay⟩
  · rcases two_out w (b := 9) (B := 9) (by omega) rfl with ⟨h3, h4⟩ | ⟨v, hv, e2, h3, h4⟩
    · exact ⟨-1, I, I, by show x_G_see I x w = _; rw [x_G_see, h1, if_neg z, h3, if_neg z], by show x_D_see I x w = _; rw [x_D_see, h2, if_neg z, h4, if_pos rfl], stay⟩
    · by_cases bg : (mG μ).testBit c = true
      · exact ⟨-2, I, I, by show x_G_see I x w = _; rw [x_G_see, h1, if_neg z, h3, if_pos rfl, e, isGone_in h.2.1.1 h.1.1 hc, if_pos bg, if_neg z], by show x_D_see I x w = _; rw [x_D_see, h2, if_neg z, h4, if_neg z, e, isAway_in h.2.1.2.1 h.1.1 hc, if_pos bg, if_neg z], stay⟩
      · obtain ⟨i1, i2, i3, i4, i5, i6, i7, i8, i9, i10, i11⟩ := h
        obtain ⟨s1, s2, s3, s4, s5⟩ := i10
        by_cases b6 : sl.length = 6
        · have nf : f_V_isFull I = 1 := by
            rw [f_V_isFull, s2, b6]
            rfl
          exact ⟨-3, I, I, by show x_G_see I x w = _; rw [x_G_see, h1, if_neg z, h3, if_pos rfl, e, isGone_in i2.1 i1.1 hc, if_neg bg, if_pos rfl, nf, if_neg z], by show x_D_see I x w = _; rw [x_D_see, h2, if_neg z, h4, if_neg z, e, isAway_in i2.2.1 i1.1 hc, if_neg bg, if_pos rfl, if_pos (show I 63 13 = 6 by rw [s3, b6]; rfl)], stay⟩
        · have nf : f_V_isFull I = 0 := by
            rw [f_V_isFull, s2, if_pos (show nI sl.length < 6 from (nlt (b := 6) (by omega) (by omega)).mpr (by omega))]
          have ea : g_V_add I x w = zui (zui (zui I 17 sl.length (nI c)) 18 sl.length (nI v)) 16 2 (nI (sl.length + 1)) := by
            rw [g_V_add, s2, if_neg (nneg (by omega)), if_neg (show ¬ (6 : Int32) ≤ nI sl.length from fun y => by have := (nle (a := 6) (by omega) (by omega)).mp y; omega), ncl (by omega), e, e2, show nI sl.length + 1 = nI (sl.length + 1) from nI_add _ 1]
          have fJ : ∀ a, a ≠ 16 → a ≠ 17 → a ≠ 18 → (zui (zui (zui I 17 sl.length (nI c)) 18 sl.length (nI v)) 16 2 (nI (sl.length + 1))) a = I a := fun a a1 a2 a3 => by rw [zui_ne _ _ _ a1, zui_ne _ _ _ a3, zui_ne _ _ _ a2]
          have j16 : (zui (zui (zui I 17 sl.length (nI c)) 18 sl.length (nI v)) 16 2 (nI (sl.length + 1))) 16 2 = nI (sl.length + 1) := by rw [zui_self, pk_us]
          have j17 : (zui (zui (zui I 17 sl.length (nI c)) 18 sl.length (nI v)) 16 2 (nI (sl.length + 1))) 17 = upd (I 17) sl.length (nI c) := by rw [zui_ne _ _ _ (by decide), zui_ne _ _ _ (by decide), zui_self]
          have j18 : (zui (zui (zui I 17 sl.length (nI c)) 18 sl.length (nI v)) 16 2 (nI (sl.length + 1))) 18 = upd (I 18) sl.length (nI v) := by rw [zui_ne _ _ _ (by decide), zui_self, zui_ne _ _ _ (by decide)]
          generalize hJ : zui (zui (zui I 17 sl.length (nI c)) 18 sl.length (nI v)) 16 2 (nI (sl.length + 1)) = J at ea fJ j16 j17 j18
          have fK : ∀ a, a ≠ 63 → a ≠ 71 → (zui (zui J 71 sl.length (nI (10 * c + v))) 63 13 (nI (sl.length + 1))) a = J a := fun a a1 a2 => by rw [zui_ne _ _ _ a1, zui_ne _ _ _ a2]
          have k71 : (zui (zui J 71 sl.length (nI (10 * c + v))) 63 13 (nI (sl.length + 1))) 71 = upd (I 71) sl.length (nI (10 * c + v)) := by rw [zui_ne _ _ _ (by decide), zui_self, fJ 71 (by decide) (by decide) (by decide)]
          have k63 : (zui (zui J 71 sl.length (nI (10 * c + v))) 63 13 (nI (sl.length + 1))) 63 = upd (I 63) 13 (nI (sl.length + 1)) := by rw [zui_self, zui_ne _ _ _ (by decide), fJ 63 (by decide) (by decide) (by decide)]
          have fI : ∀ a, a ≠ 16 → a ≠ 17 → a ≠ 18 → a ≠ 63 → a ≠ 71 → (zui (zui J 71 sl.length (nI (10 * c + v))) 63 13 (nI (sl.length + 1))) a = I a := fun a a1 a2 a3 a4 a5 => (fK a a4 a5).trans (fJ a a1 a2 a3)
          have g63 : ∀ y, y ≠ 13 → (zui (zui J 71 sl.length (nI (10 * c + v))) 63 13 (nI (sl.length + 1))) 63 y = I 63 y := fun y hy => by rw [k63, pk_un hy]
          refine ⟨nI (sl.length + 1), J, zui (zui J 71 sl.length (nI (10 * c + v))) 63 13 (nI (sl.length + 1)), ?_, ?_, μ, k, pl, q, kl, sl ++ [(c, v)], n, tx, i1, i2.congr (fun a ha => fI a (by omega) (by omega) (by omega) (by omega) (by omega)) (g63 2 (by decide)), i3, i4.congr (fun a ha => fI a (by omega) (by omega) (by omega) (by omega) (by omega)), i5.congr (fI 69 (by decide) (by decide) (by decide) (by decide) (by decide)) (g63 9 (by decide)), i6.congr i3.2.2 (fun a ha => fI a (by omega) (by omega) (by omega) (by omega) (by omega)), i7.congr (fI 70 (by decide) (by decide) (by decide) (by decide) (by decide)) (g63 11 (by decide)), i8, i9, ⟨?_, ?_, ?_, ?_, ?_⟩, i11.congr (by rw [fI 1 (by decide) (by decide) (by decide) (by decide) (by decide)]) (fI 2 (by decide) (by decide) (by decide) (by decide) (by decide)) (fI 64 (by decide) (by decide) (by decide) (by decide) (by decide)) (g63 1 (by decide))⟩
          · show x_G_see I x w = _
            rw [x_G_see, h1, if_neg z, h3, if_pos rfl, e, isGone_in i2.1 i1.1 hc, if_neg bg, if_pos rfl, nf, if_pos rfl, ← e, ea, f_V_size, j16]
          · show x_D_see J x w = _
            have j63 : J 63 = I 63 := fJ 63 (by decide) (by decide) (by decide)
            have h2' : f_D_isOne J x = 1 := by
              rw [← h2, f_D_isOne, f_D_isOne, j63]
              rfl
            have hSJ : RS (J 68) μ := by
              rw [fJ 68 (by decide) (by decide) (by decide)]
              exact i2.2.1
            rw [x_D_see, h2', if_neg z, h4, if_neg z, e, isAway_in hSJ i1.1 hc, if_neg bg, if_pos rfl, j63, s3, if_neg (show ¬ nI sl.length = 6 from fun y => b6 ((neq (b := 6) (by omega) (by omega)).mp y)), if_pos (nzin (k := sl.length) (N := 6) (by omega) (by decide)), ncl (by omega), e2, show (10 : Int32) = nI 10 from rfl, pk_mul, nI_add, show nI sl.length + 1 = nI (sl.length + 1) from nI_add _ 1]
          · refine SA.snoc (SA.congr (fun x hx1 hx2 => ?_) s1) ?_ ?_ ?_
            · rw [k71, fK 17 (by decide) (by decide), fK 18 (by decide) (by decide), j17, j18, pk_un (by omega), pk_un (by omega), pk_un (by omega)]
              exact ⟨rfl, rfl, rfl⟩
            · rw [fK 17 (by decide) (by decide), j17, Nat.zero_add, pk_us]
            · rw [fK 18 (by decide) (by decide), j18, Nat.zero_add, pk_us]
            · rw [k71, Nat.zero_add, pk_us]
          · rw [fK 16 (by decide) (by decide), j16, List.length_append]
            rfl
          · rw [k63, pk_us, List.length_append]
            rfl
          · rw [List.length_append]
            show sl.length + 1 ≤ 6
            omega
          · intro p hp
            rcases List.mem_append.mp hp with y | y
            · exact s5 p y
            · rw [List.mem_singleton.mp y]
              exact ⟨hc, hv⟩
theorem op_forget (h : INV I μ r k pl q kl sl n tx) : OZ (fun J => x_G_forget J) (fun J => x_D_forget J) I r := by
  obtain ⟨i1, i2, i3, i4, i5, i6, i7, i8, i9, i10, i11⟩ := h
  obtain ⟨s1, s2, s3, s4, s5⟩ := i10
  have fI : ∀ a, a ≠ 16 → a ≠ 63 → (zui (zui I 16 2 0) 63 13 0) a = I a := fun a a1 a2 => by rw [zui_ne _ _ _ a2, zui_ne _ _ _ a1]
  have k63 : (zui (zui I 16 2 0) 63 13 0) 63 = upd (I 63) 13 0 := by rw [zui_self, zui_ne _ _ _ (by decide)]
  have g63 : ∀ y, y ≠ 13 → (zui (zui I 16 2 0) 63 13 0) 63 y = I 63 y := fun y hy => by rw [k63, pk_un hy]
  refine ⟨nI sl.length, zui I 16 2 0, zui (zui I 16 2 0) 63 13 0, ?_, ?_, μ, k, pl, q, kl, [], n, tx, i1, i2.congr (fun a ha => fI a (by omega) (by omega)) (g63 2 (by decide)), i3, i4.congr (fun a ha => fI a (by omega) (by omega)), i5.congr (fI 69 (by decide) (by decide)) (g63 9 (by decide)), i6.congr i3.2.2 (fun a ha => fI a (by omega) (by omega)), i7.congr (fI 70 (by decide) (by decide)) (g63 11 (by decide)), i8, i9, ⟨trivial, ?_, ?_, by decide, fun p hp => by cases hp⟩, i11.congr (by rw [fI 1 (by decide) (by decide)]) (fI 2 (by decide) (by decide)) (fI 64 (by decide) (by decide)) (g63 1 (by decide))⟩
  · show x_G_forget I = _
    rw [x_G_forget, f_V_size, s2]
    rfl
  · show x_D_forget (zui I 16 2 0) = _
    rw [x_D_forget, zui_ne I 2 0 (show 63 ≠ 16 by decide), s3]
  · rw [zui_ne _ _ _ (by decide), zui_self, pk_us]
    rfl
  · rw [k63, pk_us]
    rfl
theorem op_wipe (h : INV I μ r k pl q kl sl n tx) : OZ (fun J => x_G_wipe J) (fun J => x_D_wipe J) I r := by
  obtain ⟨i1, i2, i3, i4, i5, i6, i7, i8, i9, i10, i11⟩ := h
  have fI : ∀ a, a ≠ 1 → a ≠ 63 → (zui (zui I 1 2 0) 63 1 0) a = I a := fun a a1 a2 => by rw [zui_ne _ _ _ a2, zui_ne _ _ _ a1]
  have k63 : (zui (zui I 1 2 0) 63 1 0) 63 = upd (I 63) 1 0 := by rw [zui_self, zui_ne _ _ _ (by decide)]
  have g63 : ∀ y, y ≠ 1 → (zui (zui I 1 2 0) 63 1 0) 63 y = I 63 y := fun y hy => by rw [k63, pk_un hy]
  refine ⟨nI n, zui I 1 2 0, zui (zui I 1 2 0) 63 1 0, ?_, ?_, μ, k, pl, q, kl, sl, 0, tx, i1, i2.congr (fun a ha => fI a (by omega) (by omega)) (g63 2 (by decide)), i3, i4.congr (fun a ha => fI a (by omega) (by omega)), i5.congr (fI 69 (by decide) (by decide)) (g63 9 (by decide)), i6.congr i3.2.2 (fun a ha => fI a (by omega) (by omega)), i7.congr (fI 70 (by decide) (by decide)) (g63 11 (by decide)), i8, i9, i10.congr (fun a ha => fI a (by omega) (by omega)) (g63 13 (by decide)), ?_, ?_, by decide, fun x hx => absurd hx (Nat.not_lt_zero x)⟩
  · show x_G_wipe I = _
    rw [x_G_wipe, f_S_size, i11.1]
    rfl
  · show x_D_wipe (zui I 1 2 0) = _
    rw [x_D_wipe, zui_ne I 2 0 (show 63 ≠ 1 by decide), i11.2.1]
  · rw [zui_ne _ _ _ (by decide), zui_self, pk_us]
    rfl
  · rw [k63, pk_us]
    rfl
theorem op_write (h : INV I μ r k pl q kl sl n tx) (x : Int32) : OZ (fun J => x_G_write J x) (fun J => x_D_write J x) I r := by
  have z : ¬ (1 : Int32) = 0 := by decide
  have stay : ZA I r := ⟨μ, k, pl, q, kl, sl, n, tx, h⟩
  by_cases b1 : x < 32
  · exact ⟨-1, I, I, by show x_G_write I x = _; rw [x_G_write, if_pos b1], by show x_D_write I x = _; rw [x_D_write, f_D_in, if_pos b1, if_pos rfl], stay⟩
  · by_cases b2 : x ≤ 126
    · have b0 : ¬ x < 0 := fun y => b1 (Int32.lt_trans y (by decide))
      obtain ⟨m, hm, e⟩ := nI_of2 (M := 126) (n := 126) rfl b0 b2
      have hm32 : 32 ≤ m := by
        rw [e] at b1
        exact Nat.le_of_not_lt (fun y => b1 ((nlt (b := 32) (by omega) (by omega)).mpr y))
      have din : ∀ J, f_D_in J x 32 126 = 1 := fun J => by rw [f_D_in, if_neg b1, if_neg (Int32.not_lt.mpr b2)]
      obtain ⟨i1, i2, i3, i4, i5, i6, i7, i8, i9, i10, i11⟩ := h
      obtain ⟨t1, t2, t3, t4⟩ := i11
      by_cases b3 : n = 200
      · have nf : f_S_isFull I = 1 := by
          rw [f_S_isFull, t1, b3]
          rfl
        exact ⟨-3, I, I, by show x_G_write I x = _; rw [x_G_write, if_neg b1, if_pos b2, nf, if_neg z], by show x_D_write I x = _; rw [x_D_write, din, if_neg z, if_pos (show I 63 1 = 200 by rw [t2, b3]; rfl)], stay⟩
      · have nf : f_S_isFull I = 0 := by
          rw [f_S_isFull, t1, if_pos (show nI n < Int32.ofNat 200 from (nlt (b := 200) (by omega) (by omega)).mpr (by omega))]
        have ea : g_S_add I x = zui (zui I 2 n (nI m)) 1 2 (nI (n + 1)) := by
          rw [g_S_add, t1, if_neg (nneg (by omega)), if_neg (show ¬ Int32.ofNat 200 ≤ nI n from fun y => by have := (nle (a := 200) (by omega) (by omega)).mp y; omega), ncl (by omega), e, ch_in m (by omega), show nI n + 1 = nI (n + 1) from nI_add n 1]
        have fJ : ∀ a, a ≠ 1 → a ≠ 2 → (zui (zui I 2 n (nI m)) 1 2 (nI (n + 1))) a = I a := fun a a1 a2 => by rw [zui_ne _ _ _ a1, zui_ne _ _ _ a2]
        have j12 : (zui (zui I 2 n (nI m)) 1 2 (nI (n + 1))) 1 2 = nI (n + 1) := by rw [zui_self, pk_us]
        have j2 : (zui (zui I 2 n (nI m)) 1 2 (nI (n + 1))) 2 = upd (I 2) n (nI m) := by rw [zui_ne _ _ _ (by decide), zui_self]
        generalize hJ : zui (zui I 2 n (nI m)) 1 2 (nI (n + 1)) = J at ea fJ j12 j2
        have fK : ∀ a, a ≠ 63 → a ≠ 64 → (zui (zui J 64 n (nI m)) 63 1 (nI (n + 1))) a = J a := fun a a1 a2 => by rw [zui_ne _ _ _ a1, zui_ne _ _ _ a2]
        have k64 : (zui (zui J 64 n (nI m)) 63 1 (nI (n + 1))) 64 = upd (I 64) n (nI m) := by rw [zui_ne _ _ _ (by decide), zui_self, fJ 64 (by decide) (by decide)]
        have k63 : (zui (zui J 64 n (nI m)) 63 1 (nI (n + 1))) 63 = upd (I 63) 1 (nI (n + 1)) := by rw [zui_self, zui_ne _ _ _ (by decide), fJ 63 (by decide) (by decide)]
        have fI : ∀ a, a ≠ 1 → a ≠ 2 → a ≠ 63 → a ≠ 64 → (zui (zui J 64 n (nI m)) 63 1 (nI (n + 1))) a = I a := fun a a1 a2 a3 a4 => (fK a a3 a4).trans (fJ a a1 a2)
        have g63 : ∀ y, y ≠ 1 → (zui (zui J 64 n (nI m)) 63 1 (nI (n + 1))) 63 y = I 63 y := fun y hy => by rw [k63, pk_un hy]
        have j63 : J 63 = I 63 := fJ 63 (by decide) (by decide)
        refine ⟨nI (n + 1), J, zui (zui J 64 n (nI m)) 63 1 (nI (n + 1)), ?_, ?_, μ, k, pl, q, kl, sl, n + 1, (fun y => if y = n then m else tx y), i1, i2.congr (fun a ha => fI a (by omega) (by omega) (by omega) (by omega)) (g63 2 (by decide)), i3, i4.congr (fun a ha => fI a (by omega) (by omega) (by omega) (by omega)), i5.congr (fI 69 (by decide) (by decide) (by decide) (by decide)) (g63 9 (by decide)), i6.congr i3.2.2 (fun a ha => fI a (by omega) (by omega) (by omega) (by omega)), i7.congr (fI 70 (by decide) (by decide) (by decide) (by decide)) (g63 11 (by decide)), i8, i9, i10.congr (fun a ha => fI a (by omega) (by omega) (by omega) (by omega)) (g63 13 (by decide)), ?_, ?_, by omega, fun y hy => ?_⟩
        · show x_G_write I x = _
          rw [x_G_write, if_neg b1, if_pos b2, nf, if_pos rfl, ea, f_S_size, j12]
        · show x_D_write J x = _
          rw [x_D_write, din, if_neg z, j63, t2, if_neg (show ¬ nI n = 200 from fun y => b3 ((neq (b := 200) (by omega) (by omega)).mp y)), if_pos (nzin (k := n) (N := 200) (by omega) (by decide)), ncl (by omega), e, show nI n + 1 = nI (n + 1) from nI_add n 1]
        · rw [fK 1 (by decide) (by decide)]
          exact j12
        · rw [k63, pk_us]
        · rw [fK 2 (by decide) (by decide), j2, k64]
          show upd (I 2) n (nI m) y = nI (if y = n then m else tx y) ∧ upd (I 64) n (nI m) y = nI (if y = n then m else tx y) ∧ 32 ≤ (if y = n then m else tx y) ∧ (if y = n then m else tx y) ≤ 126
          by_cases hy2 : y = n
          · rw [hy2, pk_us, pk_us, if_pos rfl]
            exact ⟨rfl, rfl, hm32, hm⟩
          · rw [pk_un hy2, pk_un hy2, if_neg hy2]
            exact t4 y (by omega)
    · have b3 : (126 : Int32) < x := Int32.not_le.mp b2
      exact ⟨-1, I, I, by show x_G_write I x = _; rw [x_G_write, if_neg b1, if_neg b2], by show x_D_write I x = _; rw [x_D_write, f_D_in, if_neg b1, if_pos b3, if_pos rfl], stay⟩
end PSee
