/-! THE PURE PART: the reference grinds -/
theorem mPres_nodup {μ : MS} (hW : mWF μ) (g : Nat) : (lineOf μ g).Nodup := by
  unfold lineOf
  refine List.Pairwise.filter _ ?_
  rw [List.pairwise_map]
  refine List.Pairwise.imp_of_mem ?_ (List.pairwise_lt_range' (s := 0) (n := mN μ))
  intro a b ha hb h e
  rw [List.mem_range'_1] at ha hb
  have := hW.2.2.2.1 a b (by omega) (by omega) e
  omega
def rg (I : Nat → Nat → Int32) (s : Nat) (F G : Nat → Int32) : Nat → Nat → Int32 := zrow (zrow (zui I 63 19 (nI s)) 73 F) 74 G
section PRg
variable {I : Nat → Nat → Int32} {s : Nat} {F G : Nat → Int32}
theorem rg_ne {a : Nat} (h1 : a ≠ 63) (h2 : a ≠ 73) (h3 : a ≠ 74) : rg I s F G a = I a := by
  rw [rg, zrow_ne _ _ h3, zrow_ne _ _ h2, zui_ne _ _ _ h1]
theorem rg_63 {j : Nat} (h : j ≠ 19) : rg I s F G 63 j = I 63 j := by
  rw [rg, zrow_ne _ _ (by decide), zrow_ne _ _ (by decide), zui_self, pk_un h]
theorem rg_s : rg I s F G 63 19 = nI s := by
  rw [rg, zrow_ne _ _ (by decide), zrow_ne _ _ (by decide), zui_self, pk_us]
theorem rg_73 : rg I s F G 73 = F := by
  rw [rg, zrow_ne _ _ (by decide), zrow_self]
theorem rg_74 : rg I s F G 74 = G := by
  rw [rg, zrow_self]
theorem rg_ext {J : Nat → Nat → Int32} (h : ∀ a, a ≠ 63 → a ≠ 73 → a ≠ 74 → J a = I a) (h1 : ∀ j, j ≠ 19 → J 63 j = I 63 j) (h2 : J 63 19 = nI s) (h3 : J 73 = F) (h4 : J 74 = G) : J = rg I s F G := by
  funext a
  by_cases a3 : a = 74
  · rw [a3, rg_74, h4]
  · by_cases a2 : a = 73
    · rw [a2, rg_73, h3]
    · by_cases a1 : a = 63
      · rw [a1]
        funext j
        by_cases hj : j = 19
        · rw [hj, rg_s, h2]
        · rw [rg_63 hj, h1 j hj]
      · rw [rg_ne a1 a2 a3, h a a1 a2 a3]
theorem rg_rg {t : Nat} {F' G' : Nat → Int32} : rg (rg I s F G) t F' G' = rg I t F' G' := rg_ext (fun a h1 h2 h3 => by rw [rg_ne h1 h2 h3, rg_ne h1 h2 h3]) (fun j hj => by rw [rg_63 hj, rg_63 hj]) rg_s rg_73 rg_74
theorem rg_self (h : I 63 19 = nI s) : I = rg I s (I 73) (I 74) := rg_ext (fun _ _ _ _ => rfl) (fun _ _ => rfl) h rfl rfl
end PRg
theorem d_wear {α : Type} (K : (Nat → Nat → Int32) → α) {J M : Nat → Nat → Int32} {s f : Nat} (h9 : s ≤ 9) (hf : f ≤ 9) (hJ : J 63 19 = nI s) : (if nI f ≤ J 63 19 then (if J 63 19 ≤ nI f then K (zui M 63 19 (J 63 19 + 0)) else K (zui M 63 19 (J 63 19 + -1))) else K (zui M 63 19 (J 63 19 + 1))) = K (zui M 63 19 (nI (mwear s f))) := by
  rw [hJ, mwear]
  by_cases h1 : s < f
  · rw [if_neg (fun z => by have := (nle (by omega) (by omega)).mp z; omega), if_pos h1, show nI s + 1 = nI (s + 1) from nI_add s 1]
  · rw [if_pos ((nle (by omega) (by omega)).mpr (by omega)), if_neg h1]
    by_cases h2 : f < s
    · rw [if_neg (fun z => by have := (nle (by omega) (by omega)).mp z; omega), if_pos h2]
      have e : nI s + -1 = nI (s - 1) := by
        have := pk_m1 (s - 1)
        rw [show s - 1 + 1 = s by omega] at this
        exact this
      rw [e]
    · rw [if_pos ((nle (by omega) (by omega)).mpr (by omega)), if_neg h2, Int32.add_zero]
/-- whose words count for each -/
def gm (μ : MS) (g : Nat) : List Nat → (Nat → Int32) → Nat → Int32
  | [], F => F
  | c :: r, F => if c = g then gm μ g r F else gm μ g r (upd F c (nI (mo μ c 3 0 0 r)))
section PGrinds
variable {μ : MS}
theorem d_step {p c s fuel : Nat} {r : List Nat} {x1 : Int32} {I : Nat → Nat → Int32} (hW : mWF μ) (hS : RS (I 68) μ) (hK : RK (I 65) μ) (hr : RA (I 72) p (c :: r)) (hs : I 63 16 = nI (p + (r.length + 1))) (h6 : p + (r.length + 1) ≤ 6) (hm : ∀ w ∈ c :: r, w < mN μ) (hd : r.Nodup) (h4 : I 63 19 = nI s) (h9 : s ≤ 9) (hg : ¬ nI c = x1) : l_D_grinds_34 (fuel + 1) I x1 (nI p) = l_D_grinds_34 fuel (rg I (mwear s (mf μ c s r)) (upd (I 73) c (nI (mf μ c s r))) (upd (I 74) c (nI (mo μ c 3 0 0 r)))) x1 (nI (p + 1)) := by
  have h66 := hW.1
  have hc := hm c List.mem_cons_self
  have zp : zinb (nI p) 6 = true := nzin (by omega) (by decide)
  have zc : zinb (nI c) 6 = true := nzin (by omega) (by decide)
  have cp : (nI p).toNatClampNeg = p := ncl (by omega)
  have cc : (nI c).toNatClampNeg = c := ncl (by omega)
  have jr : (zui I 74 c (nI (mo μ c 3 0 0 r))) 72 p = nI c := by rw [zui_ne _ _ _ (by decide)]; exact hr.1
  have js : (zui I 74 c (nI (mo μ c 3 0 0 r))) 63 19 = nI s := by rw [zui_ne _ _ _ (by decide)]; exact h4
  have fin : ∀ f : Nat, zui (zui (zui I 74 c (nI (mo μ c 3 0 0 r))) 73 c (nI f)) 63 19 (nI (mwear s f)) = rg I (mwear s f) (upd (I 73) c (nI f)) (upd (I 74) c (nI (mo μ c 3 0 0 r))) := by
    intro f
    refine rg_ext ?_ ?_ ?_ ?_ ?_
    · intro a a1 a2 a3
      rw [zui_ne _ _ _ a1, zui_ne _ _ _ a2, zui_ne _ _ _ a3]
    · intro j hj
      rw [zui_self, pk_un hj, zui_ne _ _ _ (by decide), zui_ne _ _ _ (by decide)]
    · rw [zui_self, pk_us]
    · rw [zui_ne _ _ _ (by decide), zui_self, zui_ne _ _ _ (by decide)]
    · rw [zui_ne _ _ _ (by decide), zui_ne _ _ _ (by decide), zui_self]
  have hx : (if 0 ≤ nI s + ms μ (mo μ c 3 0 0 r) c (mN μ) then (if nI s + ms μ (mo μ c 3 0 0 r) c (mN μ) ≤ 9 then nI s + ms μ (mo μ c 3 0 0 r) c (mN μ) else 9) else 0) = nI (mf μ c s r) := by
    rw [clamp_le]
    exact mf_eq μ c s r
  have hf := mf_le μ c s r
  rw [l_D_grinds_34, hs, if_neg (fun z => by have := (nle (by omega) (by omega)).mp z; omega), if_pos zp, cp, hr.1, if_neg hg, x_counts hW hS hK hr hs h6 hm hd, Option.bind_some, show nI p + 1 = nI (p + 1) from nI_add p 1]
  dsimp only
  simp only [h4, jr, zp, zc, cc, if_true]
  generalize hX : nI s + ms μ (mo μ c 3 0 0 r) c (mN μ) = x at hx ⊢
  generalize hff : mf μ c s r = f at hx hf ⊢
  by_cases c0 : 0 ≤ x
  · rw [if_pos c0] at hx ⊢
    by_cases c9 : x ≤ 9
    · rw [if_pos c9] at hx ⊢
      rw [hx, d_wear (fun M => l_D_grinds_34 fuel M x1 (nI (p + 1))) h9 hf js, fin]
    · rw [if_neg c9] at hx ⊢
      have e9 : f = 9 := (neq (b := 9) (by omega) (by omega)).mp hx.symm
      rw [e9, ← fin 9]
      exact d_wear (fun M => l_D_grinds_34 fuel M x1 (nI (p + 1))) (f := 9) h9 (by omega) js
  · rw [if_neg c0] at hx ⊢
    have e0 : f = 0 := (neq (b := 0) (by omega) (by omega)).mp hx.symm
    rw [e0, ← fin 0]
    exact d_wear (fun M => l_D_grinds_34 fuel M x1 (nI (p + 1))) (f := 0) h9 (by omega) js
theorem l_dgrinds {x1 : Int32} {g : Nat} (hW : mWF μ) (hg : ∀ c, c < 6 → (nI c = x1 ↔ c = g)) : ∀ (r : List Nat) (p s fuel : Nat) (I : Nat → Nat → Int32), RS (I 68) μ → RK (I 65) μ → RA (I 72) p r → I 63 16 = nI (p + r.length) → p + r.length ≤ 6 → (∀ w ∈ r, w < mN μ) → r.Nodup → I 63 19 = nI s → s ≤ 9 → r.length < fuel → l_D_grinds_34 fuel I x1 (nI p) = some (0, rg I (gr μ g r s).2 (gf (gr μ g r s).1 (I 73)) (gm μ g r (I 74)))
  | [], p, s, fuel + 1, I, _, _, _, hs, h6, _, _, h4, _, _ => by
    rw [l_D_grinds_34, hs, if_pos ((nle (by simp at h6 ⊢; omega) (by simp at h6 ⊢; omega)).mpr (by simp)), gr, gf, gm, ← rg_self h4]
  | c :: r, p, s, fuel + 1, I, hS, hK, hr, hs, h6, hm, hd, h4, h9, hf => by
    have h66 := hW.1
    have hc := hm c List.mem_cons_self
    have hl : (c :: r).length = r.length + 1 := rfl
    have hs1 : I 63 16 = nI (p + (r.length + 1)) := hs
    have h61 : p + (r.length + 1) ≤ 6 := h6
    have hs2 : I 63 16 = nI (p + 1 + r.length) := by rw [hs1]; congr 1; omega
    have hf2 : r.length < fuel := by rw [hl] at hf; omega
    have h62 : p + 1 + r.length ≤ 6 := by omega
    have hm2 : ∀ x ∈ r, x < mN μ := fun x hx => hm x (List.mem_cons_of_mem _ hx)
    have hd2 : r.Nodup := (List.nodup_cons.mp hd).2
    by_cases cg : c = g
    · have e : gr μ g (c :: r) s = gr μ g r s := by rw [gr, if_pos cg]
      have e2 : gm μ g (c :: r) (I 74) = gm μ g r (I 74) := by rw [gm, if_pos cg]
      rw [e, e2, l_D_grinds_34, hs1, if_neg (fun z => by have := (nle (by omega) (by omega)).mp z; omega), if_pos (nzin (k := p) (N := 6) (by omega) (by decide)), ncl (by omega), hr.1, if_pos ((hg c (by omega)).mpr cg), show nI p + 1 = nI (p + 1) from nI_add p 1]
      exact l_dgrinds hW hg r (p + 1) s fuel I hS hK hr.2 hs2 h62 hm2 hd2 h4 h9 hf2
    · have e : gr μ g (c :: r) s = ((c, mf μ c s r) :: (gr μ g r (mwear s (mf μ c s r))).1, (gr μ g r (mwear s (mf μ c s r))).2) := by rw [gr, if_neg cg]
      have e2 : gm μ g (c :: r) (I 74) = gm μ g r (upd (I 74) c (nI (mo μ c 3 0 0 r))) := by rw [gm, if_neg cg]
      rw [e, e2, d_step hW hS hK hr hs1 h61 hm hd2 h4 h9 (fun z => cg ((hg c (by omega)).mp z))]
      have ih := l_dgrinds hW hg r (p + 1) (mwear s (mf μ c s r)) fuel (rg I (mwear s (mf μ c s r)) (upd (I 73) c (nI (mf μ c s r))) (upd (I 74) c (nI (mo μ c 3 0 0 r)))) (by rw [rg_ne (by decide) (by decide) (by decide)]; exact hS) (by rw [rg_ne (by decide) (by decide) (by decide)]; exact hK) (by rw [rg_ne (by decide) (by decide) (by decide)]; exact hr.2) (by rw [rg_63 (by decide)]; exact hs2) h62 hm2 hd2 rg_s (mwear_le h9 (mf_le _ _ _ _)) hf2
      rw [ih, rg_rg, rg_73, rg_74, gf]
def noR (F : Nat → Int32) : Nat → Int32 := fun j => if j < 6 then -1 else F j
theorem l_dfill {x1 : Int32} : ∀ (d i fuel : Nat) (I : Nat → Nat → Int32), i + d = 6 → d < fuel → l_D_grinds_13 fuel I x1 (nI i) = l_D_grinds_34 1000 (zrow I 73 (fun j => if i ≤ j ∧ j < 6 then -1 else I 73 j)) x1 0
  | 0, i, fuel + 1, I, hi, _ => by
    have e : (fun j => if i ≤ j ∧ j < 6 then -1 else I 73 j) = I 73 := funext fun j => if_neg (by omega)
    have e2 : zrow I 73 (I 73) = I := by
      funext x
      by_cases h : x = 73
      · rw [h, zrow_self]
      · rw [zrow_ne _ _ h]
    rw [l_D_grinds_13, if_pos (show (6 : Int32) ≤ nI i from (nle (a := 6) (by omega) (by omega)).mpr (by omega)), e, e2]
  | d + 1, i, fuel + 1, I, hi, hf => by
    rw [l_D_grinds_13, if_neg (show ¬ (6 : Int32) ≤ nI i from fun z => by have := (nle (a := 6) (by omega) (by omega)).mp z; omega), if_pos (nzin (by omega) (by decide)), ncl (by omega), show nI i + 1 = nI (i + 1) from nI_add i 1, l_dfill d (i + 1) fuel (zui I 73 i (-1)) (by omega) (by omega), zrow_zui, zui_self]
    have e : (fun j => if i + 1 ≤ j ∧ j < 6 then -1 else upd (I 73) i (-1) j) = fun j => if i ≤ j ∧ j < 6 then -1 else I 73 j := by
      funext j
      by_cases hj : j = i
      · rw [hj, if_neg (by omega), if_pos (by omega), pk_us]
      · rw [pk_un hj]
        by_cases hj2 : i ≤ j ∧ j < 6
        · rw [if_pos hj2, if_pos (by omega)]
        · rw [if_neg hj2, if_neg (by omega)]
    rw [e]
theorem x_grinds {x1 : Int32} {g : Nat} {l : List Nat} {I : Nat → Nat → Int32} (hW : mWF μ) (hS : RS (I 68) μ) (hK : RK (I 65) μ) (hr : RA (I 72) 0 l) (hs : I 63 16 = nI l.length) (h6 : l.length ≤ 6) (hm : ∀ w ∈ l, w < mN μ) (hd : l.Nodup) (hg : ∀ c, c < 6 → (nI c = x1 ↔ c = g)) : x_D_grinds I x1 = some (0, rg I (gr μ g l (mS μ)).2 (gf (gr μ g l (mS μ)).1 (noR (I 73))) (gm μ g l (I 74))) := by
  have e0 : ∀ F : Nat → Int32, zrow (zui I 63 19 (nI (mS μ))) 73 F = rg I (mS μ) F (I 74) := fun F => rg_ext (fun a a1 a2 _ => by rw [zrow_ne _ _ a2, zui_ne _ _ _ a1]) (fun j hj => by rw [zrow_ne _ _ (by decide), zui_self, pk_un hj]) (by rw [zrow_ne _ _ (by decide), zui_self, pk_us]) (zrow_self _ _ _) (by rw [zrow_ne _ _ (by decide), zui_ne _ _ _ (by decide)])
  have h := l_dfill (x1 := x1) 6 0 1000 (zui I 63 19 (nI (mS μ))) (by omega) (by omega)
  have e1 : (fun j => if 0 ≤ j ∧ j < 6 then -1 else (zui I 63 19 (nI (mS μ))) 73 j) = noR (I 73) := by
    funext j
    rw [zui_ne _ _ _ (by decide)]
    unfold noR
    by_cases hj : j < 6
    · rw [if_pos hj, if_pos ⟨Nat.zero_le j, hj⟩]
    · rw [if_neg hj, if_neg (fun z => hj z.2)]
  rw [e1, nI_0, e0] at h
  have h2 := l_dgrinds hW hg l 0 (mS μ) 1000 (rg I (mS μ) (noR (I 73)) (I 74)) (by rw [rg_ne (by decide) (by decide) (by decide)]; exact hS) (by rw [rg_ne (by decide) (by decide) (by decide)]; exact hK) (by rw [rg_ne (by decide) (by decide) (by decide)]; exact hr) (by rw [rg_63 (by decide), Nat.zero_add]; exact hs) (by omega) hm hd rg_s hW.2.2.2.2.2.2 (by omega)
  rw [nI_0, rg_rg, rg_73, rg_74] at h2
  rw [x_D_grinds, hS.2.2.2.1, h, h2]
theorem noBody : ∀ c, c < 6 → (nI c = -1 ↔ c = 6) := by
  intro c hc
  constructor
  · intro z
    exfalso
    have h1 := nneg (a := c) (by omega)
    rw [z] at h1
    exact h1 (by decide)
  · intro z
    omega
/-- only what a day writes is other -/
def Day (I J : Nat → Nat → Int32) : Prop := (∀ a, a ≠ 63 → a ≠ 72 → a ≠ 73 → a ≠ 74 → J a = I a) ∧ (∀ j, j ≠ 16 → j ≠ 19 → J 63 j = I 63 j)
theorem x_today {I : Nat → Nat → Int32} (hW : mWF μ) (hS : RS (I 68) μ) (hK : RK (I 65) μ) (hn : I 63 2 = nI (mN μ)) : ∃ J, x_D_today I = some (0, J) ∧ Day I J ∧ RA (J 72) 0 (mPres μ) ∧ J 63 16 = nI (mPres μ).length ∧ J 63 19 = nI (dayOf μ).2 ∧ J 73 = gf (dayOf μ).1 (noR (I 73)) ∧ J 74 = gm μ 6 (mPres μ) (I 74) := by
  have h66 := hW.1
  obtain ⟨E, e, e1, e2, e3, e4⟩ := x_stands hW hW.g64 hS hn
  rw [lineOf_pres] at e3 e4
  have hl := mPres_len hW
  have hd : (mPres μ).Nodup := by
    have := mPres_nodup hW (mG μ)
    rw [lineOf_pres] at this
    exact this
  have h := x_grinds (x1 := -1) (g := 6) (I := E) hW (by rw [e1 68 (by decide) (by decide)]; exact hS) (by rw [e1 65 (by decide) (by decide)]; exact hK) e3 e4 (by omega) (fun w hw => (mPres_mem hW hw).1) hd noBody
  refine ⟨rg E (gr μ 6 (mPres μ) (mS μ)).2 (gf (gr μ 6 (mPres μ) (mS μ)).1 (noR (E 73))) (gm μ 6 (mPres μ) (E 74)), by rw [x_D_today, hS.2.2.1, e, Option.bind_some, h, Option.bind_some], ⟨?_, ?_⟩, ?_, ?_, ?_, ?_, ?_⟩
  · intro a a1 a2 a3 a4
    rw [rg_ne a1 a3 a4, e1 a a1 a2]
  · intro j j1 j2
    rw [rg_63 j2, e2 j j1]
  · rw [rg_ne (by decide) (by decide) (by decide)]
    exact e3
  · rw [rg_63 (by decide)]
    exact e4
  · rw [rg_s]
    rfl
  · rw [rg_73, e1 73 (by decide) (by decide)]
    rfl
  · rw [rg_74, e1 74 (by decide) (by decide)]
end PGrinds
