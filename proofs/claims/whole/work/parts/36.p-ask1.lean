/-! THE PURE PART: customer, says, fine, mouths -/
/-- both answer alike, and nothing that lasts is other -/
def OQ (G D : (Nat → Nat → Int32) → Option (Int32 × (Nat → Nat → Int32))) (I : Nat → Nat → Int32) : Prop := ∃ v J K, G I = some (v, J) ∧ D J = some (v, K) ∧ KP I K
theorem OQ.same {G D : (Nat → Nat → Int32) → Option (Int32 × (Nat → Nat → Int32))} {I : Nat → Nat → Int32} {v : Int32} (h1 : G I = some (v, I)) (h2 : D I = some (v, I)) : OQ G D I := ⟨v, I, I, h1, h2, KP.refl I⟩
section PPlace
variable {I : Nat → Nat → Int32} {μ : MS}
theorem l_mplace {m mk ml mt c p0 : Nat} (hR : RC I m mk ml mt μ) (hW : mWF μ) (hp : p0 < mN μ) (he : mL μ p0 = c) : ∀ (d q fuel : Nat), q + d = p0 → d < fuel → l_M_placeOf_2 m mk ml mt fuel I (nI c) (nI q) = some (nI p0, I)
  | 0, q, fuel + 1, hq, _ => by
    have h6 := hW.1
    rw [l_M_placeOf_2, hR.1, if_neg (fun z => by have := (nle (by omega) (by omega)).mp z; omega), show q = p0 by omega, whoAt_in hR hW hp, he, if_pos rfl]
  | d + 1, q, fuel + 1, hq, hf => by
    have h6 := hW.1
    have hc := hW.2.2.1 p0 hp
    have hq2 := hW.2.2.1 q (by omega)
    rw [l_M_placeOf_2, hR.1, if_neg (fun z => by have := (nle (by omega) (by omega)).mp z; omega), whoAt_in hR hW (by omega), if_neg (fun z => by have h1 := (neq (by omega) (by omega)).mp z; have := hW.2.2.2.1 q p0 (by omega) hp (h1.trans he.symm); omega), show nI q + 1 = nI (q + 1) from nI_add q 1]
    exact l_mplace hR hW hp he d (q + 1) fuel (by omega) (by omega)
theorem x_mplace {m mk ml mt c p0 : Nat} (hR : RC I m mk ml mt μ) (hW : mWF μ) (hp : p0 < mN μ) (he : mL μ p0 = c) : x_M_placeOf m mk ml mt I (nI c) = some (nI p0, I) := by
  have h6 := hW.1
  have h := l_mplace hR hW hp he p0 0 1000 (by omega) (by omega)
  rw [nI_0] at h
  rw [x_M_placeOf, h]
theorem l_dplace {c p0 : Nat} (hS : RS (I 68) μ) (hn : I 63 2 = nI (mN μ)) (hW : mWF μ) (hp : p0 < mN μ) (he : mL μ p0 = c) : ∀ (d q fuel : Nat) (x : Int32), q + d = mN μ → d < fuel → (p0 < q → x = nI p0) → l_D_placeOf_4 fuel I (nI c) x (nI q) = some (nI p0, I)
  | 0, q, fuel + 1, x, hq, _, hx => by
    have h6 := hW.1
    rw [l_D_placeOf_4, hn, if_pos ((nle (by omega) (by omega)).mpr (by omega)), hx (by omega)]
  | d + 1, q, fuel + 1, x, hq, hf, hx => by
    have h6 := hW.1
    have hc := hW.2.2.1 p0 hp
    have hq2 := hW.2.2.1 q (by omega)
    rw [l_D_placeOf_4, hn, if_neg (fun z => by have := (nle (by omega) (by omega)).mp z; omega), if_pos (nzin (k := q) (N := 45) (by omega) (by decide)), ncl (by omega), hS.1 q (by omega), show nI q + 1 = nI (q + 1) from nI_add q 1]
    by_cases h : q = p0
    · rw [h, he, if_pos rfl]
      exact l_dplace hS hn hW hp he d (p0 + 1) fuel _ (by omega) (by omega) (fun _ => rfl)
    · rw [if_neg (fun z => by have h1 := (neq (by omega) (by omega)).mp z; exact h (hW.2.2.2.1 q p0 (by omega) hp (h1.trans he.symm)))]
      exact l_dplace hS hn hW hp he d (q + 1) fuel x (by omega) (by omega) (fun z => hx (by omega))
theorem x_dplace {c p0 : Nat} (hS : RS (I 68) μ) (hn : I 63 2 = nI (mN μ)) (hW : mWF μ) (hp : p0 < mN μ) (he : mL μ p0 = c) : x_D_placeOf I (nI c) = some (nI p0, I) := by
  have h6 := hW.1
  have h := l_dplace hS hn hW hp he (mN μ) 0 1000 0 (by omega) (by omega) (fun z => by omega)
  rw [nI_0] at h
  rw [x_D_placeOf, h]
theorem l_place {c : Nat} {r : List Nat} : ∀ (a : List Nat) (q fuel : Nat), RA (I 13) q (a ++ c :: r) → I 12 2 = nI (q + (a ++ c :: r).length) → q + (a ++ c :: r).length ≤ 6 → (∀ w ∈ a ++ c :: r, w < 6) → c ∉ a → a.length < fuel → l_R_placeIn_2 fuel I (nI c) (nI q) = some (nI (q + a.length), I)
  | [], q, fuel + 1, hr, hs, h6, hm, hc, hf => by
    rw [List.nil_append] at hr hs h6 hm
    have hl : (c :: r).length = r.length + 1 := rfl
    rw [hl] at hs h6
    have := hm c List.mem_cons_self
    rw [l_R_placeIn_2, hs, if_neg (fun z => by have := (nle (by omega) (by omega)).mp z; omega), whoIn_in (by omega) hr, if_pos rfl]
    rfl
  | d :: a, q, fuel + 1, hr, hs, h6, hm, hc, hf => by
    rw [List.cons_append] at hr hs h6 hm
    have hl : (d :: (a ++ c :: r)).length = (a ++ c :: r).length + 1 := rfl
    rw [hl] at hs h6
    have hd := hm d List.mem_cons_self
    have hc6 := hm c (by simp)
    rw [List.mem_cons, not_or] at hc
    rw [l_R_placeIn_2, hs, if_neg (fun z => by have := (nle (by omega) (by omega)).mp z; omega), whoIn_in (by omega) hr, if_neg (fun z => hc.1 ((neq (by omega) (by omega)).mp z).symm), show nI q + 1 = nI (q + 1) from nI_add q 1]
    have ih := l_place a (q + 1) fuel hr.2 (by rw [hs]; congr 1; omega) (by omega) (fun w hw => hm w (List.mem_cons_of_mem _ hw)) hc.2 (by have : (d :: a).length = a.length + 1 := rfl; omega)
    rw [ih, List.length_cons]
    congr 3
    omega
end PPlace
section PAsk
variable {I : Nat → Nat → Int32} {μ : MS}
theorem op_customer (hI : IM I μ) (hW : mOK μ) (c w : Int32) : OQ (fun J => x_G_customer J c w) (fun J => x_D_customer J c w) I := by
  have h6 := hW.1.1
  rcases two_has hI.1 hI.2.2.2 hW c with ⟨h1, h2⟩ | ⟨k, hk, e, h1, h2⟩
  · exact OQ.same (v := -1) (by show x_G_customer I c w = _; rw [x_G_customer, if_pos h1]) (by show x_D_customer I c w = _; rw [x_D_customer, if_pos h2])
  · have z : ¬ (1 : Int32) = 0 := by decide
    rcases two_out w (b := 2) (B := 2) (by omega) rfl with ⟨h3, h4⟩ | ⟨j, hj, e2, h3, h4⟩
    · exact OQ.same (v := -1) (by show x_G_customer I c w = _; rw [x_G_customer, h1, if_neg z, h3, if_neg z]) (by show x_D_customer I c w = _; rw [x_D_customer, h2, if_neg z, h4, if_pos rfl])
    · obtain ⟨p0, hp, he⟩ := hW.2.1 k hk
      have g0 : (nI j = 0) ↔ j = 0 := neq (b := 0) (by omega) (by omega)
      have g1 : (nI j = 1) ↔ j = 1 := neq (b := 1) (by omega) (by omega)
      refine OQ.same (v := if j = 0 then nI (mK μ k) else if j = 1 then nI p0 else if (mG μ).testBit k = true then 1 else 0) ?_ ?_
      · show x_G_customer I c w = _
        rw [x_G_customer, h1, if_neg z, h3, if_pos rfl, e, e2, kindOf_in hI.1 hW.1 hk, x_mplace hI.1 hW.1 hp he, isGone_in hI.1 hW.1 hk, Option.bind_some]
        simp only [g0, g1]
        by_cases j0 : j = 0
        · rw [if_pos j0, if_pos j0]
        · rw [if_neg j0, if_neg j0]
          by_cases j1 : j = 1
          · rw [if_pos j1, if_pos j1]
          · rw [if_neg j1, if_neg j1]
            by_cases b : (mG μ).testBit k = true
            · rw [if_pos b, if_neg z]
            · rw [if_neg b, if_pos rfl]
      · show x_D_customer I c w = _
        rw [x_D_customer, h2, if_neg z, h4, if_neg z, e, e2, if_pos (nzin (k := k) (N := 6) (by omega) (by decide)), ncl (by omega), hI.2.2.1 k hk, x_dplace hI.2.1 hI.2.2.2 hW.1 hp he, isAway_in hI.2.1 hW.1 hk, Option.bind_some]
        simp only [g0, g1]
        by_cases j0 : j = 0
        · rw [if_pos j0, if_pos j0]
        · rw [if_neg j0, if_neg j0]
          by_cases j1 : j = 1
          · rw [if_pos j1, if_pos j1]
          · rw [if_neg j1, if_neg j1]
            by_cases b : (mG μ).testBit k = true
            · rw [if_pos b, if_neg z]
            · rw [if_neg b, if_pos rfl]
theorem two_two {J : Nat → Nat → Int32} (hR : RC I 4 5 6 7 μ) (hn : J 63 2 = nI (mN μ)) (hW : mOK μ) (a b : Int32) : (f_G_areTwo I a b = 0 ∧ f_D_areTwo J a b = 0) ∨ ∃ i j, i < mN μ ∧ j < mN μ ∧ i ≠ j ∧ a = nI i ∧ b = nI j ∧ f_G_areTwo I a b = 1 ∧ f_D_areTwo J a b = 1 := by
  have h6 := hW.1.1
  have z : ¬ (1 : Int32) = 0 := by decide
  rcases two_has hR hn hW a with ⟨h1, h2⟩ | ⟨i, hi, ea, h1, h2⟩
  · exact Or.inl ⟨by rw [f_G_areTwo, if_pos h1], by rw [f_D_areTwo, if_pos h2]⟩
  · rcases two_has hR hn hW b with ⟨h3, h4⟩ | ⟨j, hj, eb, h3, h4⟩
    · exact Or.inl ⟨by rw [f_G_areTwo, h1, if_neg z, if_pos h3], by rw [f_D_areTwo, h2, if_neg z, if_pos h4]⟩
    · by_cases q : a = b
      · exact Or.inl ⟨by rw [f_G_areTwo, h1, if_neg z, h3, if_neg z, if_pos q], by rw [f_D_areTwo, h2, if_neg z, h4, if_neg z, if_pos q]⟩
      · exact Or.inr ⟨i, j, hi, hj, fun y => q (by rw [ea, eb, y]), ea, eb, by rw [f_G_areTwo, h1, if_neg z, h3, if_neg z, if_neg q], by rw [f_D_areTwo, h2, if_neg z, h4, if_neg z, if_neg q]⟩
theorem d_word {F : Nat → Int32} (hS : RS F μ) (hW : mWF μ) {i j : Nat} (hi : i < mN μ) (hj : j < mN μ) : zinb ((6 + (6 * nI i)) + nI j) 45 = true ∧ ((6 + (6 * nI i)) + nI j).toNatClampNeg = 6 + 6 * i + j ∧ F (6 + 6 * i + j) = nI (mT μ i j) := by
  have h6 := hW.1
  have ec : (6 : Int32) + 6 * nI i + nI j = nI (6 + 6 * i + j) := by rw [show (6 : Int32) = nI 6 from rfl, pk_mul, nI_add, nI_add]
  rw [ec]
  exact ⟨nzin (by omega) (by decide), ncl (by omega), hS.2.1 i j hi hj⟩
theorem op_says (hI : IM I μ) (hW : mOK μ) (a b : Int32) : OQ (fun J => x_G_says J a b) (fun J => x_D_says J a b) I := by
  have z : ¬ (1 : Int32) = 0 := by decide
  rcases two_two hI.1 hI.2.2.2 hW a b with ⟨h1, h2⟩ | ⟨i, j, hi, hj, _, ea, eb, h1, h2⟩
  · exact OQ.same (v := -1) (by show x_G_says I a b = _; rw [x_G_says, if_pos h1]) (by show x_D_says I a b = _; rw [x_D_says, if_pos h2])
  · obtain ⟨d1, d2, d3⟩ := d_word hI.2.1 hW.1 hi hj
    refine OQ.same (v := nI (mT μ i j)) ?_ ?_
    · show x_G_says I a b = _
      rw [x_G_says, h1, if_neg z, ea, eb, wordOf_in hI.1 hW.1 hi hj]
    · show x_D_says I a b = _
      rw [x_D_says, h2, if_neg z, ea, eb, if_pos d1, d2, d3]
theorem fineOf_in {J : Nat → Nat → Int32} {c : Nat} (hc : c < 6) : f_R_fineOf J (nI c) = J 14 c := by
  rw [f_R_fineOf, guard_in (g := fun j => J 14 j) (N := 6) hc (by decide)]
theorem dbread_in {J : Nat → Nat → Int32} {f : Nat} (hf : f ≤ 9) : f_D_breadOf J (nI f) = nI (br f) := bread_in (I := J) hf
theorem op_fine (hI : IM I μ) (hW : mOK μ) (c w : Int32) : OQ (fun J => x_G_fine J c w) (fun J => x_D_fine J c w) I := by
  have h6 := hW.1.1
  have z : ¬ (1 : Int32) = 0 := by decide
  rcases two_has hI.1 hI.2.2.2 hW c with ⟨h1, h2⟩ | ⟨k, hk, e, h1, h2⟩
  · exact OQ.same (v := -1) (by show x_G_fine I c w = _; rw [x_G_fine, if_pos h1]) (by show x_D_fine I c w = _; rw [x_D_fine, if_pos h2])
  · rcases two_out w (b := 1) (B := 1) (by omega) rfl with ⟨h3, h4⟩ | ⟨j, hj, e2, h3, h4⟩
    · exact OQ.same (v := -1) (by show x_G_fine I c w = _; rw [x_G_fine, h1, if_neg z, h3, if_neg z]) (by show x_D_fine I c w = _; rw [x_D_fine, h2, if_neg z, h4, if_pos rfl])
    · by_cases b : (mG μ).testBit k = true
      · exact OQ.same (v := -2) (by show x_G_fine I c w = _; rw [x_G_fine, h1, if_neg z, h3, if_pos rfl, e, isGone_in hI.1 hW.1 hk, if_pos b, if_neg z]) (by show x_D_fine I c w = _; rw [x_D_fine, h2, if_neg z, h4, if_neg z, e, isAway_in hI.2.1 hW.1 hk, if_pos b, if_neg z])
      · have hp : k ∈ mPres μ := pres_in hW hk (bitf b)
        obtain ⟨J, j0, j1, j2, j3, j4, j5, j6⟩ := x_pass hI.1 hW.1 mo4
        have kJ := KP.round j1
        have hJ := hI.keep kJ
        obtain ⟨K, k0, k1, k2, k3, k4, k5, k6⟩ := x_today hW.1 hJ.2.1 hJ.2.2.1 hJ.2.2.2
        obtain ⟨f, hf, ff⟩ := fine_in μ (g := 6) (c := k) (s := mS μ) hp (by omega)
        have e1 : J 14 k = nI f := by rw [j6]; exact ff _
        have e3 : K 73 k = nI f := by rw [k5]; exact ff _
        refine ⟨if nI j = 0 then nI f else nI (br f), J, K, ?_, ?_, kJ.trans k1.kp⟩
        · show x_G_fine I c w = _
          rw [x_G_fine, h1, if_neg z, h3, if_pos rfl, e, isGone_in hI.1 hW.1 hk, if_neg b, if_pos rfl, j0, Option.bind_some, fineOf_in (by omega)]
          dsimp only
          rw [e1, bread_in hf, e2]
          split <;> rfl
        · show x_D_fine J c w = _
          have h2' : f_D_isOne J c = 1 := by
            rw [← h2, f_D_isOne, f_D_isOne, hJ.2.2.2, hI.2.2.2]
            rfl
          rw [x_D_fine, h2', if_neg z, h4, if_neg z, e, isAway_in hJ.2.1 hW.1 hk, if_neg b, if_pos rfl, k0, Option.bind_some, ncl (by omega)]
          have zk : zinb (nI k) 6 = true := nzin (by omega) (by decide)
          simp only [zk, if_true]
          rw [e3, dbread_in hf, e2]
          split <;> rfl
theorem op_mouths (hI : IM I μ) (hW : mOK μ) (c : Int32) : OQ (fun J => x_G_mouths J c) (fun J => x_D_mouths J c) I := by
  have h6 := hW.1.1
  have z : ¬ (1 : Int32) = 0 := by decide
  rcases two_has hI.1 hI.2.2.2 hW c with ⟨h1, h2⟩ | ⟨k, hk, e, h1, h2⟩
  · exact OQ.same (v := -1) (by show x_G_mouths I c = _; rw [x_G_mouths, if_pos h1]) (by show x_D_mouths I c = _; rw [x_D_mouths, if_pos h2])
  · by_cases b : (mG μ).testBit k = true
    · exact OQ.same (v := -2) (by show x_G_mouths I c = _; rw [x_G_mouths, h1, if_neg z, e, isGone_in hI.1 hW.1 hk, if_pos b, if_neg z]) (by show x_D_mouths I c = _; rw [x_D_mouths, h2, if_neg z, e, isAway_in hI.2.1 hW.1 hk, if_pos b, if_neg z])
    · have hp : k ∈ mPres μ := pres_in hW hk (bitf b)
      obtain ⟨a, r, hl⟩ := List.append_of_mem hp
      have hd := pres_nodup hW.1
      rw [hl] at hd
      have hd1 := List.nodup_append.mp hd
      have ka : k ∉ a := fun y => hd1.2.2 k y k List.mem_cons_self rfl
      have kr : k ∉ r := (List.nodup_cons.mp hd1.2.1).1
      have hlen := mPres_len hW.1
      have hm : ∀ w ∈ a ++ k :: r, w < mN μ := fun w hw => (mPres_mem hW.1 (by rw [hl]; exact hw)).1
      obtain ⟨J, j0, j1, j2, j3, j4, j5⟩ := x_line hI.1 hW.1 mo4
      have kJ := KP.round j1
      have hJ := hI.keep kJ
      rw [hl] at j2 j3 hlen
      obtain ⟨K, k0, k1, k2, k3, k4, k5, k6⟩ := x_today hW.1 hJ.2.1 hJ.2.2.1 hJ.2.2.2
      have p0 := l_place (I := J) a 0 1000 j2 (by rw [Nat.zero_add]; exact j3) (by omega) (fun w hw => by have := hm w hw; omega) ka (by simp at hlen; omega)
      rw [nI_0, Nat.zero_add] at p0
      have hlen2 : a.length + (r.length + 1) = (a ++ k :: r).length := by simp
      have p1 := x_mouth (p := a.length) (c := k) (r := r) hJ.1 hW.1 (by have := RA.right j2; rw [Nat.zero_add] at this; exact this) (by rw [hlen2]; exact j3) (by omega) (fun w hw => hm w (List.mem_append_right _ hw))
      refine ⟨nI (mo μ k 3 0 0 r), J, K, ?_, ?_, kJ.trans k1.kp⟩
      · show x_G_mouths I c = _
        rw [x_G_mouths, h1, if_neg z, e, isGone_in hI.1 hW.1 hk, if_neg b, if_pos rfl, j0, Option.bind_some, x_R_placeIn, p0, Option.bind_some, p1, Option.bind_some]
      · show x_D_mouths J c = _
        have h2' : f_D_isOne J c = 1 := by
          rw [← h2, f_D_isOne, f_D_isOne, hJ.2.2.2, hI.2.2.2]
          rfl
        rw [x_D_mouths, h2', if_neg z, e, isAway_in hJ.2.1 hW.1 hk, if_neg b, if_pos rfl, k0, Option.bind_some, if_pos (nzin (k := k) (N := 6) (by omega) (by decide)), ncl (by omega)]
        dsimp only
        rw [k6, hl, gm_in μ kr (by omega)]
end PAsk
