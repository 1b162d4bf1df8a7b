/-! THE PURE PART: could c have stood behind so many -/
def ins (μ : MS) (c a : Nat) : List Nat := (mPres μ).take a ++ c :: (mPres μ).drop a
def sd (μ : MS) (sl : List (Nat × Nat)) (c a : Nat) : Bool := soIs (fo μ c (ins μ c a) (mS μ)) sl
section PStood
variable {μ : MS} {sl : List (Nat × Nat)}
theorem ins_len (c a : Nat) : (ins μ c a).length = (mPres μ).length + 1 := by
  unfold ins
  simp
  omega
theorem ins_mem (hW : mWF μ) {c a w : Nat} (hc : c < mN μ) (h : w ∈ ins μ c a) : w < mN μ := by
  rw [ins, List.mem_append, List.mem_cons] at h
  rcases h with h | h | h
  · exact (mPres_mem hW (List.mem_of_mem_take h)).1
  · rw [h]
    exact hc
  · exact (mPres_mem hW (List.mem_of_mem_drop h)).1
theorem ins_mem2 (hW : mWF μ) {c a w : Nat} (h : w ∈ ins μ c a) (hwc : w ≠ c) : (mG μ).testBit w = false := by
  rw [ins, List.mem_append, List.mem_cons] at h
  rcases h with h | h | h
  · exact (mPres_mem hW (List.mem_of_mem_take h)).2
  · exact absurd h hwc
  · exact (mPres_mem hW (List.mem_of_mem_drop h)).2
theorem ins_nodup (hW : mWF μ) {c a : Nat} (hg : (mG μ).testBit c = true) : (ins μ c a).Nodup := by
  have hd := pres_nodup hW
  have hc : c ∉ mPres μ := fun h => by
    have := (mPres_mem hW h).2
    rw [this] at hg
    cases hg
  rw [← List.take_append_drop a (mPres μ)] at hd
  have h := List.nodup_append.mp hd
  refine List.nodup_append.mpr ⟨h.1, List.nodup_cons.mpr ⟨fun z => hc (List.mem_of_mem_drop z), h.2.1⟩, ?_⟩
  intro x hx y hy e
  rcases List.mem_cons.mp hy with z | z
  · rw [e, z] at hx
    exact hc (List.mem_of_mem_take hx)
  · exact h.2.2 x hx y z e
theorem pres_lt6 (hW : mOK μ) {c : Nat} (hc : c < mN μ) (hg : (mG μ).testBit c = true) : (mPres μ).length + 1 ≤ 6 := by
  have h66 := hW.1.1
  have h1 := thr_pc (mN μ) (by omega) (mG μ) hW.1.2.2.2.2.2.1
  have h2 := pc_pos (mG μ) hW.1.g64 c (by omega) hg
  rw [pres_count hW] at h1
  omega
theorem x_could {I : Nat → Nat → Int32} {c a : Nat} (hR : RC I 4 5 6 7 μ) (hW : mOK μ) (hS : IS I (mN μ) sl) (hc : c < mN μ) (hg : (mG μ).testBit c = true) (ha : a ≤ (mPres μ).length) : ∃ J, x_G_couldHaveStood I (nI c) (nI a) = some (if sd μ sl c a = true then 1 else 0, J) ∧ ∀ x, x ≠ 12 → x ≠ 13 → x ≠ 14 → J x = I x := by
  have h66 := hW.1.1
  have h5 := pres_lt6 hW hc hg
  obtain ⟨E, e0, e1, e2, e3, e4, e5⟩ := x_line hR hW.1 mo4
  have ht : ((mPres μ).take a).length = a := by simp; omega
  have hdl : ((mPres μ).drop a).length = (mPres μ).length - a := by simp
  obtain ⟨J, j0, j1, j2, j3, j4, j5⟩ := l_squeeze (c := c) ht ((mPres μ).length - a) ((mPres μ).drop a) [] 1000 E hdl (by omega) (by rw [List.take_append_drop]; exact e2) trivial (by simp; omega)
  rw [List.append_nil] at j3
  rw [show a + ((mPres μ).length - a) = (mPres μ).length by omega] at j0
  have fJ : ∀ x, x ≠ 12 → x ≠ 13 → x ≠ 14 → J x = I x := fun x x1 x2 x3 => (j1 x x1 x2).trans (e1 x x1 x2 x3)
  have sq : x_R_squeezeIn E (nI c) (nI a) = some (0, J) := by
    rw [x_R_squeezeIn, if_neg (nneg (by omega)), e3, if_neg (fun z => by have := (nlt (by omega) (by omega)).mp z; omega), if_pos (show nI (mPres μ).length < Int32.ofNat 6 from (nlt (b := 6) (by omega) (by omega)).mpr (by omega)), j0]
  have hRJ : RC J 4 5 6 7 μ := hR.low mo4 (fun x hx => fJ x (by omega) (by omega) (by omega))
  have hgu : ∀ x, x < 6 → (nI x = J 12 3 ↔ x = c) := fun x hx => by
    rw [j5]
    exact neq (by omega) (by omega)
  have g := x_grind0 (s := mS μ) (g := c) (l := ins μ c a) hRJ hW.1 mo4 j3 (by rw [j4, e3, ins_len, show nI (mPres μ).length + 1 = nI ((mPres μ).length + 1) from nI_add _ 1]) (by rw [ins_len]; omega) (fun w hw => ins_mem hW.1 hc hw) hW.1.2.2.2.2.2.2 hgu
  have fK : ∀ x, x ≠ 12 → x ≠ 13 → x ≠ 14 → (rs J (gr μ c (ins μ c a) (mS μ)).2 (gf (gr μ c (ins μ c a) (mS μ)).1 (J 14))) x = I x := fun x x1 x2 x3 => (rs_ne x1 x3).trans (fJ x x1 x2 x3)
  have so := x_areSo (μ := μ) (g := c) (s := mS μ) (l := ins μ c a) (sl := sl) (F := J 14) h66 (hS.keep (KP.round fK)) rs_F (fun x hx => by rw [j1 14 (by decide) (by decide), e5, noF, if_pos hx])
  refine ⟨_, ?_, fK⟩
  rw [x_G_couldHaveStood, e0, Option.bind_some]
  dsimp only
  rw [sq, Option.bind_some]
  dsimp only
  rw [f_M_stoneNow, hRJ.2.2.2.2.2.1, g, Option.bind_some]
  dsimp only
  rw [so, Option.bind_some]
  dsimp only
  by_cases b : sd μ sl c a = true
  · have b2 : soIs (fo μ c (ins μ c a) (mS μ)) sl = true := b
    rw [if_pos b2, if_pos b, if_pos (Or.inl rfl)]
  · have b2 : ¬ soIs (fo μ c (ins μ c a) (mS μ)) sl = true := b
    rw [if_neg b2, if_neg b, if_pos (Or.inr rfl)]
theorem d_could {I : Nat → Nat → Int32} {c a fuel : Nat} {x1 x2 x3 : Int32} (hW : mOK μ) (hS : RS (I 68) μ) (hK : RK (I 65) μ) (hI : IS I (mN μ) sl) (hr : RA (I 72) 0 (mPres μ)) (hl : I 63 16 = nI (mPres μ).length) (hc : c < mN μ) (hg : (mG μ).testBit c = true) (ha : a ≤ (mPres μ).length) : ∃ J, l_D_stood (fuel + 1 + ((mPres μ).length - a)) 2 I x1 x2 x3 (nI c) (nI a) (nI (mPres μ).length) = l_D_stood fuel 1 J x1 (if sd μ sl c a = true then x2 + 1 else x2) (if sd μ sl c a = true then nI (10 * c + a) else x3) (nI c) (nI a + -1) 0 ∧ Day I J := by
  have h66 := hW.1.1
  have h5 := pres_lt6 hW hc hg
  have ht : ((mPres μ).take a).length = a := by simp; omega
  have hdl : ((mPres μ).drop a).length = (mPres μ).length - a := by simp
  obtain ⟨E, e0, e1, e2, e3⟩ := l_dshift (x1 := x1) (x2 := x2) (x3 := x3) (x4 := nI c) ht ((mPres μ).length - a) ((mPres μ).drop a) [] (fuel + 1) I hdl (by rw [List.take_append_drop]; exact hr) trivial (by simp; omega)
  rw [List.append_nil] at e3
  rw [show a + ((mPres μ).length - a) = (mPres μ).length by omega] at e0
  have q1 : ∀ x, x ≠ 63 → x ≠ 72 → (zui (zui E 72 a (nI c)) 63 16 (E 63 16 + 1)) x = I x := fun x y1 y2 => by rw [zui_ne _ _ _ y1, zui_ne _ _ _ y2, e1 x y2]
  have q2 : ∀ j, j ≠ 16 → (zui (zui E 72 a (nI c)) 63 16 (E 63 16 + 1)) 63 j = I 63 j := fun j y => by rw [zui_self, pk_un y, zui_ne _ _ _ (by decide), e1 63 (by decide)]
  have q3 : RA ((zui (zui E 72 a (nI c)) 63 16 (E 63 16 + 1)) 72) 0 (ins μ c a) := by
    rw [zui_ne _ _ _ (by decide), zui_self]
    refine RA.app (RA.congr (fun k _ hk => pk_un (by omega)) e2) ?_
    rw [Nat.zero_add, ht]
    exact ⟨pk_us, RA.congr (fun k hk _ => pk_un (by omega)) e3⟩
  have q4 : (zui (zui E 72 a (nI c)) 63 16 (E 63 16 + 1)) 63 16 = nI (ins μ c a).length := by
    rw [zui_self, pk_us, e1 63 (by decide), hl, ins_len, show nI (mPres μ).length + 1 = nI ((mPres μ).length + 1) from nI_add _ 1]
  have g := x_grinds (x1 := nI c) (g := c) (l := ins μ c a) (I := zui (zui E 72 a (nI c)) 63 16 (E 63 16 + 1)) hW.1 (by rw [q1 68 (by decide) (by decide)]; exact hS) (by rw [q1 65 (by decide) (by decide)]; exact hK) q3 q4 (by rw [ins_len]; omega) (fun w hw => ins_mem hW.1 hc hw) (ins_nodup hW.1 hg) (fun x hx => neq (by omega) (by omega))
  have day : Day I (rg (zui (zui E 72 a (nI c)) 63 16 (E 63 16 + 1)) (gr μ c (ins μ c a) (mS μ)).2 (gf (gr μ c (ins μ c a) (mS μ)).1 (noR ((zui (zui E 72 a (nI c)) 63 16 (E 63 16 + 1)) 73))) (gm μ c (ins μ c a) ((zui (zui E 72 a (nI c)) 63 16 (E 63 16 + 1)) 74))) := ⟨fun x y1 y2 y3 y4 => by rw [rg_ne y1 y3 y4, q1 x y1 y2], fun j y1 y2 => by rw [rg_63 y2, q2 j y1]⟩
  have so := x_isSo (μ := μ) (ν := μ) (g := c) (s := mS μ) (l := ins μ c a) (sl := sl) hW.1 (by rw [day.1 68 (by decide) (by decide) (by decide) (by decide)]; exact hS) (hI.keep day.kp) (fun x hx => by rw [rg_73]; exact dfines hx) (fun x hx hxc => ins_mem2 hW.1 hx hxc)
  refine ⟨_, ?_, day⟩
  rw [e0, l_D_stood, if_neg (by decide), if_neg (by decide), if_pos rfl, if_pos ((nle (by omega) (by omega)).mpr (by omega)), if_pos (nzin (k := a) (N := 6) (by omega) (by decide)), ncl (by omega)]
  rw [g, Option.bind_some]
  dsimp only
  rw [so, Option.bind_some]
  dsimp only
  have ec : (10 : Int32) * nI c + nI a = nI (10 * c + a) := by rw [show (10 : Int32) = nI 10 from rfl, pk_mul, nI_add]
  rw [ec, Int32.add_zero]
  by_cases b : sd μ sl c a = true
  · have b2 : soIs (fo μ c (ins μ c a) (mS μ)) sl = true := b
    simp only [b, b2, if_true, show ¬ (1 : Int32) = 0 by decide, if_false]
  · have b2 : ¬ soIs (fo μ c (ins μ c a) (mS μ)) sl = true := b
    simp only [b, b2, if_true, if_false, Bool.false_eq_true]
end PStood
