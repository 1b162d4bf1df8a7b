/-! THE SHELVES, for every rotation and length (printed) -/
theorem zself2 {I : Nat → Nat → Int32} {a j : Nat} {v : Int32} (h : I a j = v) : I = zui I a j v := (zself I h).symm
def zput19 (r k : Nat) (I : Nat → Nat → Int32) : Nat → Nat → Int32 := if k = 8 then zput (zslot ((r + 1) % 8) 7) 8 19 (zui I 19 1 7) else zput (zslot r k) (k + 1) 19 I
def ztake19 (r k : Nat) (I : Nat → Nat → Int32) : Nat → Nat → Int32 := zui (g_M_copy 4 5 6 7 (zslot r (k - 1)) (zslot r (k - 1) + 1) (zslot r (k - 1) + 2) (zslot r (k - 1) + 3) I) 19 1 (nI (k - 1))
def zput53 (k : Nat) (I : Nat → Nat → Int32) : Nat → Nat → Int32 := zput (55 + 4 * k) (k + 1) 53 I
def ztake53 (k : Nat) (I : Nat → Nat → Int32) : Nat → Nat → Int32 := zui (g_M_copy 4 5 6 7 (55 + 4 * (k - 1)) (55 + 4 * (k - 1) + 1) (55 + 4 * (k - 1) + 2) (55 + 4 * (k - 1) + 3) I) 53 1 (nI (k - 1))
theorem zHe {I J : Nat → Nat → Int32} {P : Nat → Nat → Option Nat} (h : I = J) : zH I P = zH J P := by rw [h]
theorem Wf.to {X : Nat × (Nat → Int32)} {y : Nat} {L : List (Option Value)} {h h1 h2 : ZH} {r : Option Value} (k : Wf X y L h r h1) (e : h1 = h2) : Wf X y L h r h2 := e ▸ k
theorem wf_put_0_0 {X : Nat × (Nat → Int32)} (I : Nat → Nat → Int32) (h : I 19 1 = nI 0) : Wf X 65 [some (.ref 19), some (.ref 4), none] (zH I (zPr 0)) none (zH (zput19 0 0 I) (zPr (zrotn 0 0))) := by
  have e := sp_put19_0_0 (X := X) I
  rw [← zself2 (show I 19 1 = 0 from h)] at e
  exact e.to (zHe (by show zui _ 19 1 (I 19 1 + 1) = zui _ 19 1 (nI 1); rw [h]; rfl))
theorem wf_put_0_1 {X : Nat × (Nat → Int32)} (I : Nat → Nat → Int32) (h : I 19 1 = nI 1) : Wf X 65 [some (.ref 19), some (.ref 4), none] (zH I (zPr 0)) none (zH (zput19 0 1 I) (zPr (zrotn 0 1))) := by
  have e := sp_put19_0_1 (X := X) I
  rw [← zself2 (show I 19 1 = 1 from h)] at e
  exact e.to (zHe (by show zui _ 19 1 (I 19 1 + 1) = zui _ 19 1 (nI 2); rw [h]; rfl))
theorem wf_put_0_2 {X : Nat × (Nat → Int32)} (I : Nat → Nat → Int32) (h : I 19 1 = nI 2) : Wf X 65 [some (.ref 19), some (.ref 4), none] (zH I (zPr 0)) none (zH (zput19 0 2 I) (zPr (zrotn 0 2))) := by
  have e := sp_put19_0_2 (X := X) I
  rw [← zself2 (show I 19 1 = 2 from h)] at e
  exact e.to (zHe (by show zui _ 19 1 (I 19 1 + 1) = zui _ 19 1 (nI 3); rw [h]; rfl))
theorem wf_put_0_3 {X : Nat × (Nat → Int32)} (I : Nat → Nat → Int32) (h : I 19 1 = nI 3) : Wf X 65 [some (.ref 19), some (.ref 4), none] (zH I (zPr 0)) none (zH (zput19 0 3 I) (zPr (zrotn 0 3))) := by
  have e := sp_put19_0_3 (X := X) I
  rw [← zself2 (show I 19 1 = 3 from h)] at e
  exact e.to (zHe (by show zui _ 19 1 (I 19 1 + 1) = zui _ 19 1 (nI 4); rw [h]; rfl))
theorem wf_put_0_4 {X : Nat × (Nat → Int32)} (I : Nat → Nat → Int32) (h : I 19 1 = nI 4) : Wf X 65 [some (.ref 19), some (.ref 4), none] (zH I (zPr 0)) none (zH (zput19 0 4 I) (zPr (zrotn 0 4))) := by
  have e := sp_put19_0_4 (X := X) I
  rw [← zself2 (show I 19 1 = 4 from h)] at e
  exact e.to (zHe (by show zui _ 19 1 (I 19 1 + 1) = zui _ 19 1 (nI 5); rw [h]; rfl))
theorem wf_put_0_5 {X : Nat × (Nat → Int32)} (I : Nat → Nat → Int32) (h : I 19 1 = nI 5) : Wf X 65 [some (.ref 19), some (.ref 4), none] (zH I (zPr 0)) none (zH (zput19 0 5 I) (zPr (zrotn 0 5))) := by
  have e := sp_put19_0_5 (X := X) I
  rw [← zself2 (show I 19 1 = 5 from h)] at e
  exact e.to (zHe (by show zui _ 19 1 (I 19 1 + 1) = zui _ 19 1 (nI 6); rw [h]; rfl))
theorem wf_put_0_6 {X : Nat × (Nat → Int32)} (I : Nat → Nat → Int32) (h : I 19 1 = nI 6) : Wf X 65 [some (.ref 19), some (.ref 4), none] (zH I (zPr 0)) none (zH (zput19 0 6 I) (zPr (zrotn 0 6))) := by
  have e := sp_put19_0_6 (X := X) I
  rw [← zself2 (show I 19 1 = 6 from h)] at e
  exact e.to (zHe (by show zui _ 19 1 (I 19 1 + 1) = zui _ 19 1 (nI 7); rw [h]; rfl))
theorem wf_put_0_7 {X : Nat × (Nat → Int32)} (I : Nat → Nat → Int32) (h : I 19 1 = nI 7) : Wf X 65 [some (.ref 19), some (.ref 4), none] (zH I (zPr 0)) none (zH (zput19 0 7 I) (zPr (zrotn 0 7))) := by
  have e := sp_put19_0_7 (X := X) I
  rw [← zself2 (show I 19 1 = 7 from h)] at e
  exact e.to (zHe (by show zui _ 19 1 (I 19 1 + 1) = zui _ 19 1 (nI 8); rw [h]; rfl))
theorem wf_put_0_8 {X : Nat × (Nat → Int32)} (I : Nat → Nat → Int32) (h : I 19 1 = nI 8) : Wf X 65 [some (.ref 19), some (.ref 4), none] (zH I (zPr 0)) none (zH (zput19 0 8 I) (zPr (zrotn 0 8))) := by
  have e := sp_put19_0_8 (X := X) I
  rw [← zself2 (show I 19 1 = 8 from h)] at e
  exact e.to (zHe (by show zui _ 19 1 (7 + 1) = zui _ 19 1 (nI 8); rfl))
theorem wf_put_1_0 {X : Nat × (Nat → Int32)} (I : Nat → Nat → Int32) (h : I 19 1 = nI 0) : Wf X 65 [some (.ref 19), some (.ref 4), none] (zH I (zPr 1)) none (zH (zput19 1 0 I) (zPr (zrotn 1 0))) := by
  have e := sp_put19_1_0 (X := X) I
  rw [← zself2 (show I 19 1 = 0 from h)] at e
  exact e.to (zHe (by show zui _ 19 1 (I 19 1 + 1) = zui _ 19 1 (nI 1); rw [h]; rfl))
theorem wf_put_1_1 {X : Nat × (Nat → Int32)} (I : Nat → Nat → Int32) (h : I 19 1 = nI 1) : Wf X 65 [some (.ref 19), some (.ref 4), none] (zH I (zPr 1)) none (zH (zput19 1 1 I) (zPr (zrotn 1 1))) := by
  have e := sp_put19_1_1 (X := X) I
  rw [← zself2 (show I 19 1 = 1 from h)] at e
  exact e.to (zHe (by show zui _ 19 1 (I 19 1 + 1) = zui _ 19 1 (nI 2); rw [h]; rfl))
theorem wf_put_1_2 {X : Nat × (Nat → Int32)} (I : Nat → Nat → Int32) (h : I 19 1 = nI 2) : Wf X 65 [some (.ref 19), some (.ref 4), none] (zH I (zPr 1)) none (zH (zput19 1 2 I) (zPr (zrotn 1 2))) := by
  have e := sp_put19_1_2 (X := X) I
  rw [← zself2 (show I 19 1 = 2 from h)] at e
  exact e.to (zHe (by show zui _ 19 1 (I 19 1 + 1) = zui _ 19 1 (nI 3); rw [h]; rfl))
theorem wf_put_1_3 {X : Nat × (Nat → Int32)} (I : Nat → Nat → Int32) (h : I 19 1 = nI 3) : Wf X 65 [some (.ref 19), some (.ref 4), none] (zH I (zPr 1)) none (zH (zput19 1 3 I) (zPr (zrotn 1 3))) := by
  have e := sp_put19_1_3 (X := X) I
  rw [← zself2 (show I 19 1 = 3 from h)] at e
  exact e.to (zHe (by show zui _ 19 1 (I 19 1 + 1) = zui _ 19 1 (nI 4); rw [h]; rfl))
theorem wf_put_1_4 {X : Nat × (Nat → Int32)} (I : Nat → Nat → Int32) (h : I 19 1 = nI 4) : Wf X 65 [some (.ref 19), some (.ref 4), none] (zH I (zPr 1)) none (zH (zput19 1 4 I) (zPr (zrotn 1 4))) := by
  have e := sp_put19_1_4 (X := X) I
  rw [← zself2 (show I 19 1 = 4 from h)] at e
  exact e.to (zHe (by show zui _ 19 1 (I 19 1 + 1) = zui _ 19 1 (nI 5); rw [h]; rfl))
theorem wf_put_1_5 {X : Nat × (Nat → Int32)} (I : Nat → Nat → Int32) (h : I 19 1 = nI 5) : Wf X 65 [some (.ref 19), some (.ref 4), none] (zH I (zPr 1)) none (zH (zput19 1 5 I) (zPr (zrotn 1 5))) := by
  have e := sp_put19_1_5 (X := X) I
  rw [← zself2 (show I 19 1 = 5 from h)] at e
  exact e.to (zHe (by show zui _ 19 1 (I 19 1 + 1) = zui _ 19 1 (nI 6); rw [h]; rfl))
theorem wf_put_1_6 {X : Nat × (Nat → Int32)} (I : Nat → Nat → Int32) (h : I 19 1 = nI 6) : Wf X 65 [some (.ref 19), some (.ref 4), none] (zH I (zPr 1)) none (zH (zput19 1 6 I) (zPr (zrotn 1 6))) := by
  have e := sp_put19_1_6 (X := X) I
  rw [← zself2 (show I 19 1 = 6 from h)] at e
  exact e.to (zHe (by show zui _ 19 1 (I 19 1 + 1) = zui _ 19 1 (nI 7); rw [h]; rfl))
theorem wf_put_1_7 {X : Nat × (Nat → Int32)} (I : Nat → Nat → Int32) (h : I 19 1 = nI 7) : Wf X 65 [some (.ref 19), some (.ref 4), none] (zH I (zPr 1)) none (zH (zput19 1 7 I) (zPr (zrotn 1 7))) := by
  have e := sp_put19_1_7 (X := X) I
  rw [← zself2 (show I 19 1 = 7 from h)] at e
  exact e.to (zHe (by show zui _ 19 1 (I 19 1 + 1) = zui _ 19 1 (nI 8); rw [h]; rfl))
theorem wf_put_1_8 {X : Nat × (Nat → Int32)} (I : Nat → Nat → Int32) (h : I 19 1 = nI 8) : Wf X 65 [some (.ref 19), some (.ref 4), none] (zH I (zPr 1)) none (zH (zput19 1 8 I) (zPr (zrotn 1 8))) := by
  have e := sp_put19_1_8 (X := X) I
  rw [← zself2 (show I 19 1 = 8 from h)] at e
  exact e.to (zHe (by show zui _ 19 1 (7 + 1) = zui _ 19 1 (nI 8); rfl))
theorem wf_put_2_0 {X : Nat × (Nat → Int32)} (I : Nat → Nat → Int32) (h : I 19 1 = nI 0) : Wf X 65 [some (.ref 19), some (.ref 4), none] (zH I (zPr 2)) none (zH (zput19 2 0 I) (zPr (zrotn 2 0))) := by
  have e := sp_put19_2_0 (X := X) I
  rw [← zself2 (show I 19 1 = 0 from h)] at e
  exact e.to (zHe (by show zui _ 19 1 (I 19 1 + 1) = zui _ 19 1 (nI 1); rw [h]; rfl))
theorem wf_put_2_1 {X : Nat × (Nat → Int32)} (I : Nat → Nat → Int32) (h : I 19 1 = nI 1) : Wf X 65 [some (.ref 19), some (.ref 4), none] (zH I (zPr 2)) none (zH (zput19 2 1 I) (zPr (zrotn 2 1))) := by
  have e := sp_put19_2_1 (X := X) I
  rw [← zself2 (show I 19 1 = 1 from h)] at e
  exact e.to (zHe (by show zui _ 19 1 (I 19 1 + 1) = zui _ 19 1 (nI 2); rw [h]; rfl))
theorem wf_put_2_2 {X : Nat × (Nat → Int32)} (I : Nat → Nat → Int32) (h : I 19 1 = nI 2) : Wf X 65 [some (.ref 19), some (.ref 4), none] (zH I (zPr 2)) none (zH (zput19 2 2 I) (zPr (zrotn 2 2))) := by
  have e := sp_put19_2_2 (X := X) I
  rw [← zself2 (show I 19 1 = 2 from h)] at e
  exact e.to (zHe (by show zui _ 19 1 (I 19 1 + 1) = zui _ 19 1 (nI 3); rw [h]; rfl))
theorem wf_put_2_3 {X : Nat × (Nat → Int32)} (I : Nat → Nat → Int32) (h : I 19 1 = nI 3) : Wf X 65 [some (.ref 19), some (.ref 4), none] (zH I (zPr 2)) none (zH (zput19 2 3 I) (zPr (zrotn 2 3))) := by
  have e := sp_put19_2_3 (X := X) I
  rw [← zself2 (show I 19 1 = 3 from h)] at e
  exact e.to (zHe (by show zui _ 19 1 (I 19 1 + 1) = zui _ 19 1 (nI 4); rw [h]; rfl))
theorem wf_put_2_4 {X : Nat × (Nat → Int32)} (I : Nat → Nat → Int32) (h : I 19 1 = nI 4) : Wf X 65 [some (.ref 19), some (.ref 4), none] (zH I (zPr 2)) none (zH (zput19 2 4 I) (zPr (zrotn 2 4))) := by
  have e := sp_put19_2_4 (X := X) I
  rw [← zself2 (show I 19 1 = 4 from h)] at e
  exact e.to (zHe (by show zui _ 19 1 (I 19 1 + 1) = zui _ 19 1 (nI 5); rw [h]; rfl))
theorem wf_put_2_5 {X : Nat × (Nat → Int32)} (I : Nat → Nat → Int32) (h : I 19 1 = nI 5) : Wf X 65 [some (.ref 19), some (.ref 4), none] (zH I (zPr 2)) none (zH (zput19 2 5 I) (zPr (zrotn 2 5))) := by
  have e := sp_put19_2_5 (X := X) I
  rw [← zself2 (show I 19 1 = 5 from h)] at e
  exact e.to (zHe (by show zui _ 19 1 (I 19 1 + 1) = zui _ 19 1 (nI 6); rw [h]; rfl))
theorem wf_put_2_6 {X : Nat × (Nat → Int32)} (I : Nat → Nat → Int32) (h : I 19 1 = nI 6) : Wf X 65 [some (.ref 19), some (.ref 4), none] (zH I (zPr 2)) none (zH (zput19 2 6 I) (zPr (zrotn 2 6))) := by
  have e := sp_put19_2_6 (X := X) I
  rw [← zself2 (show I 19 1 = 6 from h)] at e
  exact e.to (zHe (by show zui _ 19 1 (I 19 1 + 1) = zui _ 19 1 (nI 7); rw [h]; rfl))
theorem wf_put_2_7 {X : Nat × (Nat → Int32)} (I : Nat → Nat → Int32) (h : I 19 1 = nI 7) : Wf X 65 [some (.ref 19), some (.ref 4), none] (zH I (zPr 2)) none (zH (zput19 2 7 I) (zPr (zrotn 2 7))) := by
  have e := sp_put19_2_7 (X := X) I
  rw [← zself2 (show I 19 1 = 7 from h)] at e
  exact e.to (zHe (by show zui _ 19 1 (I 19 1 + 1) = zui _ 19 1 (nI 8); rw [h]; rfl))
theorem wf_put_2_8 {X : Nat × (Nat → Int32)} (I : Nat → Nat → Int32) (h : I 19 1 = nI 8) : Wf X 65 [some (.ref 19), some (.ref 4), none] (zH I (zPr 2)) none (zH (zput19 2 8 I) (zPr (zrotn 2 8))) := by
  have e := sp_put19_2_8 (X := X) I
  rw [← zself2 (show I 19 1 = 8 from h)] at e
  exact e.to (zHe (by show zui _ 19 1 (7 + 1) = zui _ 19 1 (nI 8); rfl))
theorem wf_put_3_0 {X : Nat × (Nat → Int32)} (I : Nat → Nat → Int32) (h : I 19 1 = nI 0) : Wf X 65 [some (.ref 19), some (.ref 4), none] (zH I (zPr 3)) none (zH (zput19 3 0 I) (zPr (zrotn 3 0))) := by
  have e := sp_put19_3_0 (X := X) I
  rw [← zself2 (show I 19 1 = 0 from h)] at e
  exact e.to (zHe (by show zui _ 19 1 (I 19 1 + 1) = zui _ 19 1 (nI 1); rw [h]; rfl))
theorem wf_put_3_1 {X : Nat × (Nat → Int32)} (I : Nat → Nat → Int32) (h : I 19 1 = nI 1) : Wf X 65 [some (.ref 19), some (.ref 4), none] (zH I (zPr 3)) none (zH (zput19 3 1 I) (zPr (zrotn 3 1))) := by
  have e := sp_put19_3_1 (X := X) I
  rw [← zself2 (show I 19 1 = 1 from h)] at e
  exact e.to (zHe (by show zui _ 19 1 (I 19 1 + 1) = zui _ 19 1 (nI 2); rw [h]; rfl))
theorem wf_put_3_2 {X : Nat × (Nat → Int32)} (I : Nat → Nat → Int32) (h : I 19 1 = nI 2) : Wf X 65 [some (.ref 19), some (.ref 4), none] (zH I (zPr 3)) none (zH (zput19 3 2 I) (zPr (zrotn 3 2))) := by
  have e := sp_put19_3_2 (X := X) I
  rw [← zself2 (show I 19 1 = 2 from h)] at e
  exact e.to (zHe (by show zui _ 19 1 (I 19 1 + 1) = zui _ 19 1 (nI 3); rw [h]; rfl))
theorem wf_put_3_3 {X : Nat × (Nat → Int32)} (I : Nat → Nat → Int32) (h : I 19 1 = nI 3) : Wf X 65 [some (.ref 19), some (.ref 4), none] (zH I (zPr 3)) none (zH (zput19 3 3 I) (zPr (zrotn 3 3))) := by
  have e := sp_put19_3_3 (X := X) I
  rw [← zself2 (show I 19 1 = 3 from h)] at e
  exact e.to (zHe (by show zui _ 19 1 (I 19 1 + 1) = zui _ 19 1 (nI 4); rw [h]; rfl))
theorem wf_put_3_4 {X : Nat × (Nat → Int32)} (I : Nat → Nat → Int32) (h : I 19 1 = nI 4) : Wf X 65 [some (.ref 19), some (.ref 4), none] (zH I (zPr 3)) none (zH (zput19 3 4 I) (zPr (zrotn 3 4))) := by
  have e := sp_put19_3_4 (X := X) I
  rw [← zself2 (show I 19 1 = 4 from h)] at e
  exact e.to (zHe (by show zui _ 19 1 (I 19 1 + 1) = zui _ 19 1 (nI 5); rw [h]; rfl))
theorem wf_put_3_5 {X : Nat × (Nat → Int32)} (I : Nat → Nat → Int32) (h : I 19 1 = nI 5) : Wf X 65 [some (.ref 19), some (.ref 4), none] (zH I (zPr 3)) none (zH (zput19 3 5 I) (zPr (zrotn 3 5))) := by
  have e := sp_put19_3_5 (X := X) I
  rw [← zself2 (show I 19 1 = 5 from h)] at e
  exact e.to (zHe (by show zui _ 19 1 (I 19 1 + 1) = zui _ 19 1 (nI 6); rw [h]; rfl))
theorem wf_put_3_6 {X : Nat × (Nat → Int32)} (I : Nat → Nat → Int32) (h : I 19 1 = nI 6) : Wf X 65 [some (.ref 19), some (.ref 4), none] (zH I (zPr 3)) none (zH (zput19 3 6 I) (zPr (zrotn 3 6))) := by
  have e := sp_put19_3_6 (X := X) I
  rw [← zself2 (show I 19 1 = 6 from h)] at e
  exact e.to (zHe (by show zui _ 19 1 (I 19 1 + 1) = zui _ 19 1 (nI 7); rw [h]; rfl))
theorem wf_put_3_7 {X : Nat × (Nat → Int32)} (I : Nat → Nat → Int32) (h : I 19 1 = nI 7) : Wf X 65 [some (.ref 19), some (.ref 4), none] (zH I (zPr 3)) none (zH (zput19 3 7 I) (zPr (zrotn 3 7))) := by
  have e := sp_put19_3_7 (X := X) I
  rw [← zself2 (show I 19 1 = 7 from h)] at e
  exact e.to (zHe (by show zui _ 19 1 (I 19 1 + 1) = zui _ 19 1 (nI 8); rw [h]; rfl))
theorem wf_put_3_8 {X : Nat × (Nat → Int32)} (I : Nat → Nat → Int32) (h : I 19 1 = nI 8) : Wf X 65 [some (.ref 19), some (.ref 4), none] (zH I (zPr 3)) none (zH (zput19 3 8 I) (zPr (zrotn 3 8))) := by
  have e := sp_put19_3_8 (X := X) I
  rw [← zself2 (show I 19 1 = 8 from h)] at e
  exact e.to (zHe (by show zui _ 19 1 (7 + 1) = zui _ 19 1 (nI 8); rfl))
theorem wf_put_4_0 {X : Nat × (Nat → Int32)} (I : Nat → Nat → Int32) (h : I 19 1 = nI 0) : Wf X 65 [some (.ref 19), some (.ref 4), none] (zH I (zPr 4)) none (zH (zput19 4 0 I) (zPr (zrotn 4 0))) := by
  have e := sp_put19_4_0 (X := X) I
  rw [← zself2 (show I 19 1 = 0 from h)] at e
  exact e.to (zHe (by show zui _ 19 1 (I 19 1 + 1) = zui _ 19 1 (nI 1); rw [h]; rfl))
theorem wf_put_4_1 {X : Nat × (Nat → Int32)} (I : Nat → Nat → Int32) (h : I 19 1 = nI 1) : Wf X 65 [some (.ref 19), some (.ref 4), none] (zH I (zPr 4)) none (zH (zput19 4 1 I) (zPr (zrotn 4 1))) := by
  have e := sp_put19_4_1 (X := X) I
  rw [← zself2 (show I 19 1 = 1 from h)] at e
  exact e.to (zHe (by show zui _ 19 1 (I 19 1 + 1) = zui _ 19 1 (nI 2); rw [h]; rfl))
theorem wf_put_4_2 {X : Nat × (Nat → Int32)} (I : Nat → Nat → Int32) (h : I 19 1 = nI 2) : Wf X 65 [some (.ref 19), some (.ref 4), none] (zH I (zPr 4)) none (zH (zput19 4 2 I) (zPr (zrotn 4 2))) := by
  have e := sp_put19_4_2 (X := X) I
  rw [← zself2 (show I 19 1 = 2 from h)] at e
  exact e.to (zHe (by show zui _ 19 1 (I 19 1 + 1) = zui _ 19 1 (nI 3); rw [h]; rfl))
theorem wf_put_4_3 {X : Nat × (Nat → Int32)} (I : Nat → Nat → Int32) (h : I 19 1 = nI 3) : Wf X 65 [some (.ref 19), some (.ref 4), none] (zH I (zPr 4)) none (zH (zput19 4 3 I) (zPr (zrotn 4 3))) := by
  have e := sp_put19_4_3 (X := X) I
  rw [← zself2 (show I 19 1 = 3 from h)] at e
  exact e.to (zHe (by show zui _ 19 1 (I 19 1 + 1) = zui _ 19 1 (nI 4); rw [h]; rfl))
theorem wf_put_4_4 {X : Nat × (Nat → Int32)} (I : Nat → Nat → Int32) (h : I 19 1 = nI 4) : Wf X 65 [some (.ref 19), some (.ref 4), none] (zH I (zPr 4)) none (zH (zput19 4 4 I) (zPr (zrotn 4 4))) := by
  have e := sp_put19_4_4 (X := X) I
  rw [← zself2 (show I 19 1 = 4 from h)] at e
  exact e.to (zHe (by show zui _ 19 1 (I 19 1 + 1) = zui _ 19 1 (nI 5); rw [h]; rfl))
theorem wf_put_4_5 {X : Nat × (Nat → Int32)} (I : Nat → Nat → Int32) (h : I 19 1 = nI 5) : Wf X 65 [some (.ref 19), some (.ref 4), none] (zH I (zPr 4)) none (zH (zput19 4 5 I) (zPr (zrotn 4 5))) := by
  have e := sp_put19_4_5 (X := X) I
  rw [← zself2 (show I 19 1 = 5 from h)] at e
  exact e.to (zHe (by show zui _ 19 1 (I 19 1 + 1) = zui _ 19 1 (nI 6); rw [h]; rfl))
theorem wf_put_4_6 {X : Nat × (Nat → Int32)} (I : Nat → Nat → Int32) (h : I 19 1 = nI 6) : Wf X 65 [some (.ref 19), some (.ref 4), none] (zH I (zPr 4)) none (zH (zput19 4 6 I) (zPr (zrotn 4 6))) := by
  have e := sp_put19_4_6 (X := X) I
  rw [← zself2 (show I 19 1 = 6 from h)] at e
  exact e.to (zHe (by show zui _ 19 1 (I 19 1 + 1) = zui _ 19 1 (nI 7); rw [h]; rfl))
theorem wf_put_4_7 {X : Nat × (Nat → Int32)} (I : Nat → Nat → Int32) (h : I 19 1 = nI 7) : Wf X 65 [some (.ref 19), some (.ref 4), none] (zH I (zPr 4)) none (zH (zput19 4 7 I) (zPr (zrotn 4 7))) := by
  have e := sp_put19_4_7 (X := X) I
  rw [← zself2 (show I 19 1 = 7 from h)] at e
  exact e.to (zHe (by show zui _ 19 1 (I 19 1 + 1) = zui _ 19 1 (nI 8); rw [h]; rfl))
theorem wf_put_4_8 {X : Nat × (Nat → Int32)} (I : Nat → Nat → Int32) (h : I 19 1 = nI 8) : Wf X 65 [some (.ref 19), some (.ref 4), none] (zH I (zPr 4)) none (zH (zput19 4 8 I) (zPr (zrotn 4 8))) := by
  have e := sp_put19_4_8 (X := X) I
  rw [← zself2 (show I 19 1 = 8 from h)] at e
  exact e.to (zHe (by show zui _ 19 1 (7 + 1) = zui _ 19 1 (nI 8); rfl))
theorem wf_put_5_0 {X : Nat × (Nat → Int32)} (I : Nat → Nat → Int32) (h : I 19 1 = nI 0) : Wf X 65 [some (.ref 19), some (.ref 4), none] (zH I (zPr 5)) none (zH (zput19 5 0 I) (zPr (zrotn 5 0))) := by
  have e := sp_put19_5_0 (X := X) I
  rw [← zself2 (show I 19 1 = 0 from h)] at e
  exact e.to (zHe (by show zui _ 19 1 (I 19 1 + 1) = zui _ 19 1 (nI 1); rw [h]; rfl))
theorem wf_put_5_1 {X : Nat × (Nat → Int32)} (I : Nat → Nat → Int32) (h : I 19 1 = nI 1) : Wf X 65 [some (.ref 19), some (.ref 4), none] (zH I (zPr 5)) none (zH (zput19 5 1 I) (zPr (zrotn 5 1))) := by
  have e := sp_put19_5_1 (X := X) I
  rw [← zself2 (show I 19 1 = 1 from h)] at e
  exact e.to (zHe (by show zui _ 19 1 (I 19 1 + 1) = zui _ 19 1 (nI 2); rw [h]; rfl))
theorem wf_put_5_2 {X : Nat × (Nat → Int32)} (I : Nat → Nat → Int32) (h : I 19 1 = nI 2) : Wf X 65 [some (.ref 19), some (.ref 4), none] (zH I (zPr 5)) none (zH (zput19 5 2 I) (zPr (zrotn 5 2))) := by
  have e := sp_put19_5_2 (X := X) I
  rw [← zself2 (show I 19 1 = 2 from h)] at e
  exact e.to (zHe (by show zui _ 19 1 (I 19 1 + 1) = zui _ 19 1 (nI 3); rw [h]; rfl))
theorem wf_put_5_3 {X : Nat × (Nat → Int32)} (I : Nat → Nat → Int32) (h : I 19 1 = nI 3) : Wf X 65 [some (.ref 19), some (.ref 4), none] (zH I (zPr 5)) none (zH (zput19 5 3 I) (zPr (zrotn 5 3))) := by
  have e := sp_put19_5_3 (X := X) I
  rw [← zself2 (show I 19 1 = 3 from h)] at e
  exact e.to (zHe (by show zui _ 19 1 (I 19 1 + 1) = zui _ 19 1 (nI 4); rw [h]; rfl))
theorem wf_put_5_4 {X : Nat × (Nat → Int32)} (I : Nat → Nat → Int32) (h : I 19 1 = nI 4) : Wf X 65 [some (.ref 19), some (.ref 4), none] (zH I (zPr 5)) none (zH (zput19 5 4 I) (zPr (zrotn 5 4))) := by
  have e := sp_put19_5_4 (X := X) I
  rw [← zself2 (show I 19 1 = 4 from h)] at e
  exact e.to (zHe (by show zui _ 19 1 (I 19 1 + 1) = zui _ 19 1 (nI 5); rw [h]; rfl))
theorem wf_put_5_5 {X : Nat × (Nat → Int32)} (I : Nat → Nat → Int32) (h : I 19 1 = nI 5) : Wf X 65 [some (.ref 19), some (.ref 4), none] (zH I (zPr 5)) none (zH (zput19 5 5 I) (zPr (zrotn 5 5))) := by
  have e := sp_put19_5_5 (X := X) I
  rw [← zself2 (show I 19 1 = 5 from h)] at e
  exact e.to (zHe (by show zui _ 19 1 (I 19 1 + 1) = zui _ 19 1 (nI 6); rw [h]; rfl))
theorem wf_put_5_6 {X : Nat × (Nat → Int32)} (I : Nat → Nat → Int32) (h : I 19 1 = nI 6) : Wf X 65 [some (.ref 19), some (.ref 4), none] (zH I (zPr 5)) none (zH (zput19 5 6 I) (zPr (zrotn 5 6))) := by
  have e := sp_put19_5_6 (X := X) I
  rw [← zself2 (show I 19 1 = 6 from h)] at e
  exact e.to (zHe (by show zui _ 19 1 (I 19 1 + 1) = zui _ 19 1 (nI 7); rw [h]; rfl))
theorem wf_put_5_7 {X : Nat × (Nat → Int32)} (I : Nat → Nat → Int32) (h : I 19 1 = nI 7) : Wf X 65 [some (.ref 19), some (.ref 4), none] (zH I (zPr 5)) none (zH (zput19 5 7 I) (zPr (zrotn 5 7))) := by
  have e := sp_put19_5_7 (X := X) I
  rw [← zself2 (show I 19 1 = 7 from h)] at e
  exact e.to (zHe (by show zui _ 19 1 (I 19 1 + 1) = zui _ 19 1 (nI 8); rw [h]; rfl))
theorem wf_put_5_8 {X : Nat × (Nat → Int32)} (I : Nat → Nat → Int32) (h : I 19 1 = nI 8) : Wf X 65 [some (.ref 19), some (.ref 4), none] (zH I (zPr 5)) none (zH (zput19 5 8 I) (zPr (zrotn 5 8))) := by
  have e := sp_put19_5_8 (X := X) I
  rw [← zself2 (show I 19 1 = 8 from h)] at e
  exact e.to (zHe (by show zui _ 19 1 (7 + 1) = zui _ 19 1 (nI 8); rfl))
theorem wf_put_6_0 {X : Nat × (Nat → Int32)} (I : Nat → Nat → Int32) (h : I 19 1 = nI 0) : Wf X 65 [some (.ref 19), some (.ref 4), none] (zH I (zPr 6)) none (zH (zput19 6 0 I) (zPr (zrotn 6 0))) := by
  have e := sp_put19_6_0 (X := X) I
  rw [← zself2 (show I 19 1 = 0 from h)] at e
  exact e.to (zHe (by show zui _ 19 1 (I 19 1 + 1) = zui _ 19 1 (nI 1); rw [h]; rfl))
theorem wf_put_6_1 {X : Nat × (Nat → Int32)} (I : Nat → Nat → Int32) (h : I 19 1 = nI 1) : Wf X 65 [some (.ref 19), some (.ref 4), none] (zH I (zPr 6)) none (zH (zput19 6 1 I) (zPr (zrotn 6 1))) := by
  have e := sp_put19_6_1 (X := X) I
  rw [← zself2 (show I 19 1 = 1 from h)] at e
  exact e.to (zHe (by show zui _ 19 1 (I 19 1 + 1) = zui _ 19 1 (nI 2); rw [h]; rfl))
theorem wf_put_6_2 {X : Nat × (Nat → Int32)} (I : Nat → Nat → Int32) (h : I 19 1 = nI 2) : Wf X 65 [some (.ref 19), some (.ref 4), none] (zH I (zPr 6)) none (zH (zput19 6 2 I) (zPr (zrotn 6 2))) := by
  have e := sp_put19_6_2 (X := X) I
  rw [← zself2 (show I 19 1 = 2 from h)] at e
  exact e.to (zHe (by show zui _ 19 1 (I 19 1 + 1) = zui _ 19 1 (nI 3); rw [h]; rfl))
theorem wf_put_6_3 {X : Nat × (Nat → Int32)} (I : Nat → Nat → Int32) (h : I 19 1 = nI 3) : Wf X 65 [some (.ref 19), some (.ref 4), none] (zH I (zPr 6)) none (zH (zput19 6 3 I) (zPr (zrotn 6 3))) := by
  have e := sp_put19_6_3 (X := X) I
  rw [← zself2 (show I 19 1 = 3 from h)] at e
  exact e.to (zHe (by show zui _ 19 1 (I 19 1 + 1) = zui _ 19 1 (nI 4); rw [h]; rfl))
theorem wf_put_6_4 {X : Nat × (Nat → Int32)} (I : Nat → Nat → Int32) (h : I 19 1 = nI 4) : Wf X 65 [some (.ref 19), some (.ref 4), none] (zH I (zPr 6)) none (zH (zput19 6 4 I) (zPr (zrotn 6 4))) := by
  have e := sp_put19_6_4 (X := X) I
  rw [← zself2 (show I 19 1 = 4 from h)] at e
  exact e.to (zHe (by show zui _ 19 1 (I 19 1 + 1) = zui _ 19 1 (nI 5); rw [h]; rfl))
theorem wf_put_6_5 {X : Nat × (Nat → Int32)} (I : Nat → Nat → Int32) (h : I 19 1 = nI 5) : Wf X 65 [some (.ref 19), some (.ref 4), none] (zH I (zPr 6)) none (zH (zput19 6 5 I) (zPr (zrotn 6 5))) := by
  have e := sp_put19_6_5 (X := X) I
  rw [← zself2 (show I 19 1 = 5 from h)] at e
  exact e.to (zHe (by show zui _ 19 1 (I 19 1 + 1) = zui _ 19 1 (nI 6); rw [h]; rfl))
theorem wf_put_6_6 {X : Nat × (Nat → Int32)} (I : Nat → Nat → Int32) (h : I 19 1 = nI 6) : Wf X 65 [some (.ref 19), some (.ref 4), none] (zH I (zPr 6)) none (zH (zput19 6 6 I) (zPr (zrotn 6 6))) := by
  have e := sp_put19_6_6 (X := X) I
  rw [← zself2 (show I 19 1 = 6 from h)] at e
  exact e.to (zHe (by show zui _ 19 1 (I 19 1 + 1) = zui _ 19 1 (nI 7); rw [h]; rfl))
theorem wf_put_6_7 {X : Nat × (Nat → Int32)} (I : Nat → Nat → Int32) (h : I 19 1 = nI 7) : Wf X 65 [some (.ref 19), some (.ref 4), none] (zH I (zPr 6)) none (zH (zput19 6 7 I) (zPr (zrotn 6 7))) := by
  have e := sp_put19_6_7 (X := X) I
  rw [← zself2 (show I 19 1 = 7 from h)] at e
  exact e.to (zHe (by show zui _ 19 1 (I 19 1 + 1) = zui _ 19 1 (nI 8); rw [h]; rfl))
theorem wf_put_6_8 {X : Nat × (Nat → Int32)} (I : Nat → Nat → Int32) (h : I 19 1 = nI 8) : Wf X 65 [some (.ref 19), some (.ref 4), none] (zH I (zPr 6)) none (zH (zput19 6 8 I) (zPr (zrotn 6 8))) := by
  have e := sp_put19_6_8 (X := X) I
  rw [← zself2 (show I 19 1 = 8 from h)] at e
  exact e.to (zHe (by show zui _ 19 1 (7 + 1) = zui _ 19 1 (nI 8); rfl))
theorem wf_put_7_0 {X : Nat × (Nat → Int32)} (I : Nat → Nat → Int32) (h : I 19 1 = nI 0) : Wf X 65 [some (.ref 19), some (.ref 4), none] (zH I (zPr 7)) none (zH (zput19 7 0 I) (zPr (zrotn 7 0))) := by
  have e := sp_put19_7_0 (X := X) I
  rw [← zself2 (show I 19 1 = 0 from h)] at e
  exact e.to (zHe (by show zui _ 19 1 (I 19 1 + 1) = zui _ 19 1 (nI 1); rw [h]; rfl))
theorem wf_put_7_1 {X : Nat × (Nat → Int32)} (I : Nat → Nat → Int32) (h : I 19 1 = nI 1) : Wf X 65 [some (.ref 19), some (.ref 4), none] (zH I (zPr 7)) none (zH (zput19 7 1 I) (zPr (zrotn 7 1))) := by
  have e := sp_put19_7_1 (X := X) I
  rw [← zself2 (show I 19 1 = 1 from h)] at e
  exact e.to (zHe (by show zui _ 19 1 (I 19 1 + 1) = zui _ 19 1 (nI 2); rw [h]; rfl))
theorem wf_put_7_2 {X : Nat × (Nat → Int32)} (I : Nat → Nat → Int32) (h : I 19 1 = nI 2) : Wf X 65 [some (.ref 19), some (.ref 4), none] (zH I (zPr 7)) none (zH (zput19 7 2 I) (zPr (zrotn 7 2))) := by
  have e := sp_put19_7_2 (X := X) I
  rw [← zself2 (show I 19 1 = 2 from h)] at e
  exact e.to (zHe (by show zui _ 19 1 (I 19 1 + 1) = zui _ 19 1 (nI 3); rw [h]; rfl))
theorem wf_put_7_3 {X : Nat × (Nat → Int32)} (I : Nat → Nat → Int32) (h : I 19 1 = nI 3) : Wf X 65 [some (.ref 19), some (.ref 4), none] (zH I (zPr 7)) none (zH (zput19 7 3 I) (zPr (zrotn 7 3))) := by
  have e := sp_put19_7_3 (X := X) I
  rw [← zself2 (show I 19 1 = 3 from h)] at e
  exact e.to (zHe (by show zui _ 19 1 (I 19 1 + 1) = zui _ 19 1 (nI 4); rw [h]; rfl))
theorem wf_put_7_4 {X : Nat × (Nat → Int32)} (I : Nat → Nat → Int32) (h : I 19 1 = nI 4) : Wf X 65 [some (.ref 19), some (.ref 4), none] (zH I (zPr 7)) none (zH (zput19 7 4 I) (zPr (zrotn 7 4))) := by
  have e := sp_put19_7_4 (X := X) I
  rw [← zself2 (show I 19 1 = 4 from h)] at e
  exact e.to (zHe (by show zui _ 19 1 (I 19 1 + 1) = zui _ 19 1 (nI 5); rw [h]; rfl))
theorem wf_put_7_5 {X : Nat × (Nat → Int32)} (I : Nat → Nat → Int32) (h : I 19 1 = nI 5) : Wf X 65 [some (.ref 19), some (.ref 4), none] (zH I (zPr 7)) none (zH (zput19 7 5 I) (zPr (zrotn 7 5))) := by
  have e := sp_put19_7_5 (X := X) I
  rw [← zself2 (show I 19 1 = 5 from h)] at e
  exact e.to (zHe (by show zui _ 19 1 (I 19 1 + 1) = zui _ 19 1 (nI 6); rw [h]; rfl))
theorem wf_put_7_6 {X : Nat × (Nat → Int32)} (I : Nat → Nat → Int32) (h : I 19 1 = nI 6) : Wf X 65 [some (.ref 19), some (.ref 4), none] (zH I (zPr 7)) none (zH (zput19 7 6 I) (zPr (zrotn 7 6))) := by
  have e := sp_put19_7_6 (X := X) I
  rw [← zself2 (show I 19 1 = 6 from h)] at e
  exact e.to (zHe (by show zui _ 19 1 (I 19 1 + 1) = zui _ 19 1 (nI 7); rw [h]; rfl))
theorem wf_put_7_7 {X : Nat × (Nat → Int32)} (I : Nat → Nat → Int32) (h : I 19 1 = nI 7) : Wf X 65 [some (.ref 19), some (.ref 4), none] (zH I (zPr 7)) none (zH (zput19 7 7 I) (zPr (zrotn 7 7))) := by
  have e := sp_put19_7_7 (X := X) I
  rw [← zself2 (show I 19 1 = 7 from h)] at e
  exact e.to (zHe (by show zui _ 19 1 (I 19 1 + 1) = zui _ 19 1 (nI 8); rw [h]; rfl))
theorem wf_put_7_8 {X : Nat × (Nat → Int32)} (I : Nat → Nat → Int32) (h : I 19 1 = nI 8) : Wf X 65 [some (.ref 19), some (.ref 4), none] (zH I (zPr 7)) none (zH (zput19 7 8 I) (zPr (zrotn 7 8))) := by
  have e := sp_put19_7_8 (X := X) I
  rw [← zself2 (show I 19 1 = 8 from h)] at e
  exact e.to (zHe (by show zui _ 19 1 (7 + 1) = zui _ 19 1 (nI 8); rfl))
theorem wf_take_0_0 {X : Nat × (Nat → Int32)} (I : Nat → Nat → Int32) (h : I 19 1 = nI 0) : Wf X 79 [some (.ref 19), some (.ref 4), none] (zH I (zPr 0)) (some (.int 0)) (zH I (zPr 0)) := by
  have e := sp_take19_0_0 (X := X) I
  rw [← zself2 (show I 19 1 = 0 from h)] at e
  exact e
theorem wf_take_0_1 {X : Nat × (Nat → Int32)} (I : Nat → Nat → Int32) (h : I 19 1 = nI 1) : Wf X 79 [some (.ref 19), some (.ref 4), none] (zH I (zPr 0)) (some (.int 1)) (zH (ztake19 0 1 I) (zPr 0)) := by
  have e := sp_take19_0_1 (X := X) I
  rw [← zself2 (show I 19 1 = 1 from h)] at e
  exact e.to (zHe (by show zui _ 19 1 (I 19 1 - 1) = zui _ 19 1 (nI 0); rw [h]; rfl))
theorem wf_take_0_2 {X : Nat × (Nat → Int32)} (I : Nat → Nat → Int32) (h : I 19 1 = nI 2) : Wf X 79 [some (.ref 19), some (.ref 4), none] (zH I (zPr 0)) (some (.int 1)) (zH (ztake19 0 2 I) (zPr 0)) := by
  have e := sp_take19_0_2 (X := X) I
  rw [← zself2 (show I 19 1 = 2 from h)] at e
  exact e.to (zHe (by show zui _ 19 1 (I 19 1 - 1) = zui _ 19 1 (nI 1); rw [h]; rfl))
theorem wf_take_0_3 {X : Nat × (Nat → Int32)} (I : Nat → Nat → Int32) (h : I 19 1 = nI 3) : Wf X 79 [some (.ref 19), some (.ref 4), none] (zH I (zPr 0)) (some (.int 1)) (zH (ztake19 0 3 I) (zPr 0)) := by
  have e := sp_take19_0_3 (X := X) I
  rw [← zself2 (show I 19 1 = 3 from h)] at e
  exact e.to (zHe (by show zui _ 19 1 (I 19 1 - 1) = zui _ 19 1 (nI 2); rw [h]; rfl))
theorem wf_take_0_4 {X : Nat × (Nat → Int32)} (I : Nat → Nat → Int32) (h : I 19 1 = nI 4) : Wf X 79 [some (.ref 19), some (.ref 4), none] (zH I (zPr 0)) (some (.int 1)) (zH (ztake19 0 4 I) (zPr 0)) := by
  have e := sp_take19_0_4 (X := X) I
  rw [← zself2 (show I 19 1 = 4 from h)] at e
  exact e.to (zHe (by show zui _ 19 1 (I 19 1 - 1) = zui _ 19 1 (nI 3); rw [h]; rfl))
theorem wf_take_0_5 {X : Nat × (Nat → Int32)} (I : Nat → Nat → Int32) (h : I 19 1 = nI 5) : Wf X 79 [some (.ref 19), some (.ref 4), none] (zH I (zPr 0)) (some (.int 1)) (zH (ztake19 0 5 I) (zPr 0)) := by
  have e := sp_take19_0_5 (X := X) I
  rw [← zself2 (show I 19 1 = 5 from h)] at e
  exact e.to (zHe (by show zui _ 19 1 (I 19 1 - 1) = zui _ 19 1 (nI 4); rw [h]; rfl))
theorem wf_take_0_6 {X : Nat × (Nat → Int32)} (I : Nat → Nat → Int32) (h : I 19 1 = nI 6) : Wf X 79 [some (.ref 19), some (.ref 4), none] (zH I (zPr 0)) (some (.int 1)) (zH (ztake19 0 6 I) (zPr 0)) := by
  have e := sp_take19_0_6 (X := X) I
  rw [← zself2 (show I 19 1 = 6 from h)] at e
  exact e.to (zHe (by show zui _ 19 1 (I 19 1 - 1) = zui _ 19 1 (nI 5); rw [h]; rfl))
theorem wf_take_0_7 {X : Nat × (Nat → Int32)} (I : Nat → Nat → Int32) (h : I 19 1 = nI 7) : Wf X 79 [some (.ref 19), some (.ref 4), none] (zH I (zPr 0)) (some (.int 1)) (zH (ztake19 0 7 I) (zPr 0)) := by
  have e := sp_take19_0_7 (X := X) I
  rw [← zself2 (show I 19 1 = 7 from h)] at e
  exact e.to (zHe (by show zui _ 19 1 (I 19 1 - 1) = zui _ 19 1 (nI 6); rw [h]; rfl))
theorem wf_take_0_8 {X : Nat × (Nat → Int32)} (I : Nat → Nat → Int32) (h : I 19 1 = nI 8) : Wf X 79 [some (.ref 19), some (.ref 4), none] (zH I (zPr 0)) (some (.int 1)) (zH (ztake19 0 8 I) (zPr 0)) := by
  have e := sp_take19_0_8 (X := X) I
  rw [← zself2 (show I 19 1 = 8 from h)] at e
  exact e.to (zHe (by show zui _ 19 1 (I 19 1 - 1) = zui _ 19 1 (nI 7); rw [h]; rfl))
theorem wf_take_1_0 {X : Nat × (Nat → Int32)} (I : Nat → Nat → Int32) (h : I 19 1 = nI 0) : Wf X 79 [some (.ref 19), some (.ref 4), none] (zH I (zPr 1)) (some (.int 0)) (zH I (zPr 1)) := by
  have e := sp_take19_1_0 (X := X) I
  rw [← zself2 (show I 19 1 = 0 from h)] at e
  exact e
theorem wf_take_1_1 {X : Nat × (Nat → Int32)} (I : Nat → Nat → Int32) (h : I 19 1 = nI 1) : Wf X 79 [some (.ref 19), some (.ref 4), none] (zH I (zPr 1)) (some (.int 1)) (zH (ztake19 1 1 I) (zPr 1)) := by
  have e := sp_take19_1_1 (X := X) I
  rw [← zself2 (show I 19 1 = 1 from h)] at e
  exact e.to (zHe (by show zui _ 19 1 (I 19 1 - 1) = zui _ 19 1 (nI 0); rw [h]; rfl))
theorem wf_take_1_2 {X : Nat × (Nat → Int32)} (I : Nat → Nat → Int32) (h : I 19 1 = nI 2) : Wf X 79 [some (.ref 19), some (.ref 4), none] (zH I (zPr 1)) (some (.int 1)) (zH (ztake19 1 2 I) (zPr 1)) := by
  have e := sp_take19_1_2 (X := X) I
  rw [← zself2 (show I 19 1 = 2 from h)] at e
  exact e.to (zHe (by show zui _ 19 1 (I 19 1 - 1) = zui _ 19 1 (nI 1); rw [h]; rfl))
theorem wf_take_1_3 {X : Nat × (Nat → Int32)} (I : Nat → Nat → Int32) (h : I 19 1 = nI 3) : Wf X 79 [some (.ref 19), some (.ref 4), none] (zH I (zPr 1)) (some (.int 1)) (zH (ztake19 1 3 I) (zPr 1)) := by
  have e := sp_take19_1_3 (X := X) I
  rw [← zself2 (show I 19 1 = 3 from h)] at e
  exact e.to (zHe (by show zui _ 19 1 (I 19 1 - 1) = zui _ 19 1 (nI 2); rw [h]; rfl))
theorem wf_take_1_4 {X : Nat × (Nat → Int32)} (I : Nat → Nat → Int32) (h : I 19 1 = nI 4) : Wf X 79 [some (.ref 19), some (.ref 4), none] (zH I (zPr 1)) (some (.int 1)) (zH (ztake19 1 4 I) (zPr 1)) := by
  have e := sp_take19_1_4 (X := X) I
  rw [← zself2 (show I 19 1 = 4 from h)] at e
  exact e.to (zHe (by show zui _ 19 1 (I 19 1 - 1) = zui _ 19 1 (nI 3); rw [h]; rfl))
theorem wf_take_1_5 {X : Nat × (Nat → Int32)} (I : Nat → Nat → Int32) (h : I 19 1 = nI 5) : Wf X 79 [some (.ref 19), some (.ref 4), none] (zH I (zPr 1)) (some (.int 1)) (zH (ztake19 1 5 I) (zPr 1)) := by
  have e := sp_take19_1_5 (X := X) I
  rw [← zself2 (show I 19 1 = 5 from h)] at e
  exact e.to (zHe (by show zui _ 19 1 (I 19 1 - 1) = zui _ 19 1 (nI 4); rw [h]; rfl))
theorem wf_take_1_6 {X : Nat × (Nat → Int32)} (I : Nat → Nat → Int32) (h : I 19 1 = nI 6) : Wf X 79 [some (.ref 19), some (.ref 4), none] (zH I (zPr 1)) (some (.int 1)) (zH (ztake19 1 6 I) (zPr 1)) := by
  have e := sp_take19_1_6 (X := X) I
  rw [← zself2 (show I 19 1 = 6 from h)] at e
  exact e.to (zHe (by show zui _ 19 1 (I 19 1 - 1) = zui _ 19 1 (nI 5); rw [h]; rfl))
theorem wf_take_1_7 {X : Nat × (Nat → Int32)} (I : Nat → Nat → Int32) (h : I 19 1 = nI 7) : Wf X 79 [some (.ref 19), some (.ref 4), none] (zH I (zPr 1)) (some (.int 1)) (zH (ztake19 1 7 I) (zPr 1)) := by
  have e := sp_take19_1_7 (X := X) I
  rw [← zself2 (show I 19 1 = 7 from h)] at e
  exact e.to (zHe (by show zui _ 19 1 (I 19 1 - 1) = zui _ 19 1 (nI 6); rw [h]; rfl))
theorem wf_take_1_8 {X : Nat × (Nat → Int32)} (I : Nat → Nat → Int32) (h : I 19 1 = nI 8) : Wf X 79 [some (.ref 19), some (.ref 4), none] (zH I (zPr 1)) (some (.int 1)) (zH (ztake19 1 8 I) (zPr 1)) := by
  have e := sp_take19_1_8 (X := X) I
  rw [← zself2 (show I 19 1 = 8 from h)] at e
  exact e.to (zHe (by show zui _ 19 1 (I 19 1 - 1) = zui _ 19 1 (nI 7); rw [h]; rfl))
theorem wf_take_2_0 {X : Nat × (Nat → Int32)} (I : Nat → Nat → Int32) (h : I 19 1 = nI 0) : Wf X 79 [some (.ref 19), some (.ref 4), none] (zH I (zPr 2)) (some (.int 0)) (zH I (zPr 2)) := by
  have e := sp_take19_2_0 (X := X) I
  rw [← zself2 (show I 19 1 = 0 from h)] at e
  exact e
theorem wf_take_2_1 {X : Nat × (Nat → Int32)} (I : Nat → Nat → Int32) (h : I 19 1 = nI 1) : Wf X 79 [some (.ref 19), some (.ref 4), none] (zH I (zPr 2)) (some (.int 1)) (zH (ztake19 2 1 I) (zPr 2)) := by
  have e := sp_take19_2_1 (X := X) I
  rw [← zself2 (show I 19 1 = 1 from h)] at e
  exact e.to (zHe (by show zui _ 19 1 (I 19 1 - 1) = zui _ 19 1 (nI 0); rw [h]; rfl))
theorem wf_take_2_2 {X : Nat × (Nat → Int32)} (I : Nat → Nat → Int32) (h : I 19 1 = nI 2) : Wf X 79 [some (.ref 19), some (.ref 4), none] (zH I (zPr 2)) (some (.int 1)) (zH (ztake19 2 2 I) (zPr 2)) := by
  have e := sp_take19_2_2 (X := X) I
  rw [← zself2 (show I 19 1 = 2 from h)] at e
  exact e.to (zHe (by show zui _ 19 1 (I 19 1 - 1) = zui _ 19 1 (nI 1); rw [h]; rfl))
theorem wf_take_2_3 {X : Nat × (Nat → Int32)} (I : Nat → Nat → Int32) (h : I 19 1 = nI 3) : Wf X 79 [some (.ref 19), some (.ref 4), none] (zH I (zPr 2)) (some (.int 1)) (zH (ztake19 2 3 I) (zPr 2)) := by
  have e := sp_take19_2_3 (X := X) I
  rw [← zself2 (show I 19 1 = 3 from h)] at e
  exact e.to (zHe (by show zui _ 19 1 (I 19 1 - 1) = zui _ 19 1 (nI 2); rw [h]; rfl))
theorem wf_take_2_4 {X : Nat × (Nat → Int32)} (I : Nat → Nat → Int32) (h : I 19 1 = nI 4) : Wf X 79 [some (.ref 19), some (.ref 4), none] (zH I (zPr 2)) (some (.int 1)) (zH (ztake19 2 4 I) (zPr 2)) := by
  have e := sp_take19_2_4 (X := X) I
  rw [← zself2 (show I 19 1 = 4 from h)] at e
  exact e.to (zHe (by show zui _ 19 1 (I 19 1 - 1) = zui _ 19 1 (nI 3); rw [h]; rfl))
theorem wf_take_2_5 {X : Nat × (Nat → Int32)} (I : Nat → Nat → Int32) (h : I 19 1 = nI 5) : Wf X 79 [some (.ref 19), some (.ref 4), none] (zH I (zPr 2)) (some (.int 1)) (zH (ztake19 2 5 I) (zPr 2)) := by
  have e := sp_take19_2_5 (X := X) I
  rw [← zself2 (show I 19 1 = 5 from h)] at e
  exact e.to (zHe (by show zui _ 19 1 (I 19 1 - 1) = zui _ 19 1 (nI 4); rw [h]; rfl))
theorem wf_take_2_6 {X : Nat × (Nat → Int32)} (I : Nat → Nat → Int32) (h : I 19 1 = nI 6) : Wf X 79 [some (.ref 19), some (.ref 4), none] (zH I (zPr 2)) (some (.int 1)) (zH (ztake19 2 6 I) (zPr 2)) := by
  have e := sp_take19_2_6 (X := X) I
  rw [← zself2 (show I 19 1 = 6 from h)] at e
  exact e.to (zHe (by show zui _ 19 1 (I 19 1 - 1) = zui _ 19 1 (nI 5); rw [h]; rfl))
theorem wf_take_2_7 {X : Nat × (Nat → Int32)} (I : Nat → Nat → Int32) (h : I 19 1 = nI 7) : Wf X 79 [some (.ref 19), some (.ref 4), none] (zH I (zPr 2)) (some (.int 1)) (zH (ztake19 2 7 I) (zPr 2)) := by
  have e := sp_take19_2_7 (X := X) I
  rw [← zself2 (show I 19 1 = 7 from h)] at e
  exact e.to (zHe (by show zui _ 19 1 (I 19 1 - 1) = zui _ 19 1 (nI 6); rw [h]; rfl))
theorem wf_take_2_8 {X : Nat × (Nat → Int32)} (I : Nat → Nat → Int32) (h : I 19 1 = nI 8) : Wf X 79 [some (.ref 19), some (.ref 4), none] (zH I (zPr 2)) (some (.int 1)) (zH (ztake19 2 8 I) (zPr 2)) := by
  have e := sp_take19_2_8 (X := X) I
  rw [← zself2 (show I 19 1 = 8 from h)] at e
  exact e.to (zHe (by show zui _ 19 1 (I 19 1 - 1) = zui _ 19 1 (nI 7); rw [h]; rfl))
theorem wf_take_3_0 {X : Nat × (Nat → Int32)} (I : Nat → Nat → Int32) (h : I 19 1 = nI 0) : Wf X 79 [some (.ref 19), some (.ref 4), none] (zH I (zPr 3)) (some (.int 0)) (zH I (zPr 3)) := by
  have e := sp_take19_3_0 (X := X) I
  rw [← zself2 (show I 19 1 = 0 from h)] at e
  exact e
theorem wf_take_3_1 {X : Nat × (Nat → Int32)} (I : Nat → Nat → Int32) (h : I 19 1 = nI 1) : Wf X 79 [some (.ref 19), some (.ref 4), none] (zH I (zPr 3)) (some (.int 1)) (zH (ztake19 3 1 I) (zPr 3)) := by
  have e := sp_take19_3_1 (X := X) I
  rw [← zself2 (show I 19 1 = 1 from h)] at e
  exact e.to (zHe (by show zui _ 19 1 (I 19 1 - 1) = zui _ 19 1 (nI 0); rw [h]; rfl))
theorem wf_take_3_2 {X : Nat × (Nat → Int32)} (I : Nat → Nat → Int32) (h : I 19 1 = nI 2) : Wf X 79 [some (.ref 19), some (.ref 4), none] (zH I (zPr 3)) (some (.int 1)) (zH (ztake19 3 2 I) (zPr 3)) := by
  have e := sp_take19_3_2 (X := X) I
  rw [← zself2 (show I 19 1 = 2 from h)] at e
  exact e.to (zHe (by show zui _ 19 1 (I 19 1 - 1) = zui _ 19 1 (nI 1); rw [h]; rfl))
theorem wf_take_3_3 {X : Nat × (Nat → Int32)} (I : Nat → Nat → Int32) (h : I 19 1 = nI 3) : Wf X 79 [some (.ref 19), some (.ref 4), none] (zH I (zPr 3)) (some (.int 1)) (zH (ztake19 3 3 I) (zPr 3)) := by
  have e := sp_take19_3_3 (X := X) I
  rw [← zself2 (show I 19 1 = 3 from h)] at e
  exact e.to (zHe (by show zui _ 19 1 (I 19 1 - 1) = zui _ 19 1 (nI 2); rw [h]; rfl))
theorem wf_take_3_4 {X : Nat × (Nat → Int32)} (I : Nat → Nat → Int32) (h : I 19 1 = nI 4) : Wf X 79 [some (.ref 19), some (.ref 4), none] (zH I (zPr 3)) (some (.int 1)) (zH (ztake19 3 4 I) (zPr 3)) := by
  have e := sp_take19_3_4 (X := X) I
  rw [← zself2 (show I 19 1 = 4 from h)] at e
  exact e.to (zHe (by show zui _ 19 1 (I 19 1 - 1) = zui _ 19 1 (nI 3); rw [h]; rfl))
theorem wf_take_3_5 {X : Nat × (Nat → Int32)} (I : Nat → Nat → Int32) (h : I 19 1 = nI 5) : Wf X 79 [some (.ref 19), some (.ref 4), none] (zH I (zPr 3)) (some (.int 1)) (zH (ztake19 3 5 I) (zPr 3)) := by
  have e := sp_take19_3_5 (X := X) I
  rw [← zself2 (show I 19 1 = 5 from h)] at e
  exact e.to (zHe (by show zui _ 19 1 (I 19 1 - 1) = zui _ 19 1 (nI 4); rw [h]; rfl))
theorem wf_take_3_6 {X : Nat × (Nat → Int32)} (I : Nat → Nat → Int32) (h : I 19 1 = nI 6) : Wf X 79 [some (.ref 19), some (.ref 4), none] (zH I (zPr 3)) (some (.int 1)) (zH (ztake19 3 6 I) (zPr 3)) := by
  have e := sp_take19_3_6 (X := X) I
  rw [← zself2 (show I 19 1 = 6 from h)] at e
  exact e.to (zHe (by show zui _ 19 1 (I 19 1 - 1) = zui _ 19 1 (nI 5); rw [h]; rfl))
theorem wf_take_3_7 {X : Nat × (Nat → Int32)} (I : Nat → Nat → Int32) (h : I 19 1 = nI 7) : Wf X 79 [some (.ref 19), some (.ref 4), none] (zH I (zPr 3)) (some (.int 1)) (zH (ztake19 3 7 I) (zPr 3)) := by
  have e := sp_take19_3_7 (X := X) I
  rw [← zself2 (show I 19 1 = 7 from h)] at e
  exact e.to (zHe (by show zui _ 19 1 (I 19 1 - 1) = zui _ 19 1 (nI 6); rw [h]; rfl))
theorem wf_take_3_8 {X : Nat × (Nat → Int32)} (I : Nat → Nat → Int32) (h : I 19 1 = nI 8) : Wf X 79 [some (.ref 19), some (.ref 4), none] (zH I (zPr 3)) (some (.int 1)) (zH (ztake19 3 8 I) (zPr 3)) := by
  have e := sp_take19_3_8 (X := X) I
  rw [← zself2 (show I 19 1 = 8 from h)] at e
  exact e.to (zHe (by show zui _ 19 1 (I 19 1 - 1) = zui _ 19 1 (nI 7); rw [h]; rfl))
theorem wf_take_4_0 {X : Nat × (Nat → Int32)} (I : Nat → Nat → Int32) (h : I 19 1 = nI 0) : Wf X 79 [some (.ref 19), some (.ref 4), none] (zH I (zPr 4)) (some (.int 0)) (zH I (zPr 4)) := by
  have e := sp_take19_4_0 (X := X) I
  rw [← zself2 (show I 19 1 = 0 from h)] at e
  exact e
theorem wf_take_4_1 {X : Nat × (Nat → Int32)} (I : Nat → Nat → Int32) (h : I 19 1 = nI 1) : Wf X 79 [some (.ref 19), some (.ref 4), none] (zH I (zPr 4)) (some (.int 1)) (zH (ztake19 4 1 I) (zPr 4)) := by
  have e := sp_take19_4_1 (X := X) I
  rw [← zself2 (show I 19 1 = 1 from h)] at e
  exact e.to (zHe (by show zui _ 19 1 (I 19 1 - 1) = zui _ 19 1 (nI 0); rw [h]; rfl))
theorem wf_take_4_2 {X : Nat × (Nat → Int32)} (I : Nat → Nat → Int32) (h : I 19 1 = nI 2) : Wf X 79 [some (.ref 19), some (.ref 4), none] (zH I (zPr 4)) (some (.int 1)) (zH (ztake19 4 2 I) (zPr 4)) := by
  have e := sp_take19_4_2 (X := X) I
  rw [← zself2 (show I 19 1 = 2 from h)] at e
  exact e.to (zHe (by show zui _ 19 1 (I 19 1 - 1) = zui _ 19 1 (nI 1); rw [h]; rfl))
theorem wf_take_4_3 {X : Nat × (Nat → Int32)} (I : Nat → Nat → Int32) (h : I 19 1 = nI 3) : Wf X 79 [some (.ref 19), some (.ref 4), none] (zH I (zPr 4)) (some (.int 1)) (zH (ztake19 4 3 I) (zPr 4)) := by
  have e := sp_take19_4_3 (X := X) I
  rw [← zself2 (show I 19 1 = 3 from h)] at e
  exact e.to (zHe (by show zui _ 19 1 (I 19 1 - 1) = zui _ 19 1 (nI 2); rw [h]; rfl))
theorem wf_take_4_4 {X : Nat × (Nat → Int32)} (I : Nat → Nat → Int32) (h : I 19 1 = nI 4) : Wf X 79 [some (.ref 19), some (.ref 4), none] (zH I (zPr 4)) (some (.int 1)) (zH (ztake19 4 4 I) (zPr 4)) := by
  have e := sp_take19_4_4 (X := X) I
  rw [← zself2 (show I 19 1 = 4 from h)] at e
  exact e.to (zHe (by show zui _ 19 1 (I 19 1 - 1) = zui _ 19 1 (nI 3); rw [h]; rfl))
theorem wf_take_4_5 {X : Nat × (Nat → Int32)} (I : Nat → Nat → Int32) (h : I 19 1 = nI 5) : Wf X 79 [some (.ref 19), some (.ref 4), none] (zH I (zPr 4)) (some (.int 1)) (zH (ztake19 4 5 I) (zPr 4)) := by
  have e := sp_take19_4_5 (X := X) I
  rw [← zself2 (show I 19 1 = 5 from h)] at e
  exact e.to (zHe (by show zui _ 19 1 (I 19 1 - 1) = zui _ 19 1 (nI 4); rw [h]; rfl))
theorem wf_take_4_6 {X : Nat × (Nat → Int32)} (I : Nat → Nat → Int32) (h : I 19 1 = nI 6) : Wf X 79 [some (.ref 19), some (.ref 4), none] (zH I (zPr 4)) (some (.int 1)) (zH (ztake19 4 6 I) (zPr 4)) := by
  have e := sp_take19_4_6 (X := X) I
  rw [← zself2 (show I 19 1 = 6 from h)] at e
  exact e.to (zHe (by show zui _ 19 1 (I 19 1 - 1) = zui _ 19 1 (nI 5); rw [h]; rfl))
theorem wf_take_4_7 {X : Nat × (Nat → Int32)} (I : Nat → Nat → Int32) (h : I 19 1 = nI 7) : Wf X 79 [some (.ref 19), some (.ref 4), none] (zH I (zPr 4)) (some (.int 1)) (zH (ztake19 4 7 I) (zPr 4)) := by
  have e := sp_take19_4_7 (X := X) I
  rw [← zself2 (show I 19 1 = 7 from h)] at e
  exact e.to (zHe (by show zui _ 19 1 (I 19 1 - 1) = zui _ 19 1 (nI 6); rw [h]; rfl))
theorem wf_take_4_8 {X : Nat × (Nat → Int32)} (I : Nat → Nat → Int32) (h : I 19 1 = nI 8) : Wf X 79 [some (.ref 19), some (.ref 4), none] (zH I (zPr 4)) (some (.int 1)) (zH (ztake19 4 8 I) (zPr 4)) := by
  have e := sp_take19_4_8 (X := X) I
  rw [← zself2 (show I 19 1 = 8 from h)] at e
  exact e.to (zHe (by show zui _ 19 1 (I 19 1 - 1) = zui _ 19 1 (nI 7); rw [h]; rfl))
theorem wf_take_5_0 {X : Nat × (Nat → Int32)} (I : Nat → Nat → Int32) (h : I 19 1 = nI 0) : Wf X 79 [some (.ref 19), some (.ref 4), none] (zH I (zPr 5)) (some (.int 0)) (zH I (zPr 5)) := by
  have e := sp_take19_5_0 (X := X) I
  rw [← zself2 (show I 19 1 = 0 from h)] at e
  exact e
theorem wf_take_5_1 {X : Nat × (Nat → Int32)} (I : Nat → Nat → Int32) (h : I 19 1 = nI 1) : Wf X 79 [some (.ref 19), some (.ref 4), none] (zH I (zPr 5)) (some (.int 1)) (zH (ztake19 5 1 I) (zPr 5)) := by
  have e := sp_take19_5_1 (X := X) I
  rw [← zself2 (show I 19 1 = 1 from h)] at e
  exact e.to (zHe (by show zui _ 19 1 (I 19 1 - 1) = zui _ 19 1 (nI 0); rw [h]; rfl))
theorem wf_take_5_2 {X : Nat × (Nat → Int32)} (I : Nat → Nat → Int32) (h : I 19 1 = nI 2) : Wf X 79 [some (.ref 19), some (.ref 4), none] (zH I (zPr 5)) (some (.int 1)) (zH (ztake19 5 2 I) (zPr 5)) := by
  have e := sp_take19_5_2 (X := X) I
  rw [← zself2 (show I 19 1 = 2 from h)] at e
  exact e.to (zHe (by show zui _ 19 1 (I 19 1 - 1) = zui _ 19 1 (nI 1); rw [h]; rfl))
theorem wf_take_5_3 {X : Nat × (Nat → Int32)} (I : Nat → Nat → Int32) (h : I 19 1 = nI 3) : Wf X 79 [some (.ref 19), some (.ref 4), none] (zH I (zPr 5)) (some (.int 1)) (zH (ztake19 5 3 I) (zPr 5)) := by
  have e := sp_take19_5_3 (X := X) I
  rw [← zself2 (show I 19 1 = 3 from h)] at e
  exact e.to (zHe (by show zui _ 19 1 (I 19 1 - 1) = zui _ 19 1 (nI 2); rw [h]; rfl))
theorem wf_take_5_4 {X : Nat × (Nat → Int32)} (I : Nat → Nat → Int32) (h : I 19 1 = nI 4) : Wf X 79 [some (.ref 19), some (.ref 4), none] (zH I (zPr 5)) (some (.int 1)) (zH (ztake19 5 4 I) (zPr 5)) := by
  have e := sp_take19_5_4 (X := X) I
  rw [← zself2 (show I 19 1 = 4 from h)] at e
  exact e.to (zHe (by show zui _ 19 1 (I 19 1 - 1) = zui _ 19 1 (nI 3); rw [h]; rfl))
theorem wf_take_5_5 {X : Nat × (Nat → Int32)} (I : Nat → Nat → Int32) (h : I 19 1 = nI 5) : Wf X 79 [some (.ref 19), some (.ref 4), none] (zH I (zPr 5)) (some (.int 1)) (zH (ztake19 5 5 I) (zPr 5)) := by
  have e := sp_take19_5_5 (X := X) I
  rw [← zself2 (show I 19 1 = 5 from h)] at e
  exact e.to (zHe (by show zui _ 19 1 (I 19 1 - 1) = zui _ 19 1 (nI 4); rw [h]; rfl))
theorem wf_take_5_6 {X : Nat × (Nat → Int32)} (I : Nat → Nat → Int32) (h : I 19 1 = nI 6) : Wf X 79 [some (.ref 19), some (.ref 4), none] (zH I (zPr 5)) (some (.int 1)) (zH (ztake19 5 6 I) (zPr 5)) := by
  have e := sp_take19_5_6 (X := X) I
  rw [← zself2 (show I 19 1 = 6 from h)] at e
  exact e.to (zHe (by show zui _ 19 1 (I 19 1 - 1) = zui _ 19 1 (nI 5); rw [h]; rfl))
theorem wf_take_5_7 {X : Nat × (Nat → Int32)} (I : Nat → Nat → Int32) (h : I 19 1 = nI 7) : Wf X 79 [some (.ref 19), some (.ref 4), none] (zH I (zPr 5)) (some (.int 1)) (zH (ztake19 5 7 I) (zPr 5)) := by
  have e := sp_take19_5_7 (X := X) I
  rw [← zself2 (show I 19 1 = 7 from h)] at e
  exact e.to (zHe (by show zui _ 19 1 (I 19 1 - 1) = zui _ 19 1 (nI 6); rw [h]; rfl))
theorem wf_take_5_8 {X : Nat × (Nat → Int32)} (I : Nat → Nat → Int32) (h : I 19 1 = nI 8) : Wf X 79 [some (.ref 19), some (.ref 4), none] (zH I (zPr 5)) (some (.int 1)) (zH (ztake19 5 8 I) (zPr 5)) := by
  have e := sp_take19_5_8 (X := X) I
  rw [← zself2 (show I 19 1 = 8 from h)] at e
  exact e.to (zHe (by show zui _ 19 1 (I 19 1 - 1) = zui _ 19 1 (nI 7); rw [h]; rfl))
theorem wf_take_6_0 {X : Nat × (Nat → Int32)} (I : Nat → Nat → Int32) (h : I 19 1 = nI 0) : Wf X 79 [some (.ref 19), some (.ref 4), none] (zH I (zPr 6)) (some (.int 0)) (zH I (zPr 6)) := by
  have e := sp_take19_6_0 (X := X) I
  rw [← zself2 (show I 19 1 = 0 from h)] at e
  exact e
theorem wf_take_6_1 {X : Nat × (Nat → Int32)} (I : Nat → Nat → Int32) (h : I 19 1 = nI 1) : Wf X 79 [some (.ref 19), some (.ref 4), none] (zH I (zPr 6)) (some (.int 1)) (zH (ztake19 6 1 I) (zPr 6)) := by
  have e := sp_take19_6_1 (X := X) I
  rw [← zself2 (show I 19 1 = 1 from h)] at e
  exact e.to (zHe (by show zui _ 19 1 (I 19 1 - 1) = zui _ 19 1 (nI 0); rw [h]; rfl))
theorem wf_take_6_2 {X : Nat × (Nat → Int32)} (I : Nat → Nat → Int32) (h : I 19 1 = nI 2) : Wf X 79 [some (.ref 19), some (.ref 4), none] (zH I (zPr 6)) (some (.int 1)) (zH (ztake19 6 2 I) (zPr 6)) := by
  have e := sp_take19_6_2 (X := X) I
  rw [← zself2 (show I 19 1 = 2 from h)] at e
  exact e.to (zHe (by show zui _ 19 1 (I 19 1 - 1) = zui _ 19 1 (nI 1); rw [h]; rfl))
theorem wf_take_6_3 {X : Nat × (Nat → Int32)} (I : Nat → Nat → Int32) (h : I 19 1 = nI 3) : Wf X 79 [some (.ref 19), some (.ref 4), none] (zH I (zPr 6)) (some (.int 1)) (zH (ztake19 6 3 I) (zPr 6)) := by
  have e := sp_take19_6_3 (X := X) I
  rw [← zself2 (show I 19 1 = 3 from h)] at e
  exact e.to (zHe (by show zui _ 19 1 (I 19 1 - 1) = zui _ 19 1 (nI 2); rw [h]; rfl))
theorem wf_take_6_4 {X : Nat × (Nat → Int32)} (I : Nat → Nat → Int32) (h : I 19 1 = nI 4) : Wf X 79 [some (.ref 19), some (.ref 4), none] (zH I (zPr 6)) (some (.int 1)) (zH (ztake19 6 4 I) (zPr 6)) := by
  have e := sp_take19_6_4 (X := X) I
  rw [← zself2 (show I 19 1 = 4 from h)] at e
  exact e.to (zHe (by show zui _ 19 1 (I 19 1 - 1) = zui _ 19 1 (nI 3); rw [h]; rfl))
theorem wf_take_6_5 {X : Nat × (Nat → Int32)} (I : Nat → Nat → Int32) (h : I 19 1 = nI 5) : Wf X 79 [some (.ref 19), some (.ref 4), none] (zH I (zPr 6)) (some (.int 1)) (zH (ztake19 6 5 I) (zPr 6)) := by
  have e := sp_take19_6_5 (X := X) I
  rw [← zself2 (show I 19 1 = 5 from h)] at e
  exact e.to (zHe (by show zui _ 19 1 (I 19 1 - 1) = zui _ 19 1 (nI 4); rw [h]; rfl))
theorem wf_take_6_6 {X : Nat × (Nat → Int32)} (I : Nat → Nat → Int32) (h : I 19 1 = nI 6) : Wf X 79 [some (.ref 19), some (.ref 4), none] (zH I (zPr 6)) (some (.int 1)) (zH (ztake19 6 6 I) (zPr 6)) := by
  have e := sp_take19_6_6 (X := X) I
  rw [← zself2 (show I 19 1 = 6 from h)] at e
  exact e.to (zHe (by show zui _ 19 1 (I 19 1 - 1) = zui _ 19 1 (nI 5); rw [h]; rfl))
theorem wf_take_6_7 {X : Nat × (Nat → Int32)} (I : Nat → Nat → Int32) (h : I 19 1 = nI 7) : Wf X 79 [some (.ref 19), some (.ref 4), none] (zH I (zPr 6)) (some (.int 1)) (zH (ztake19 6 7 I) (zPr 6)) := by
  have e := sp_take19_6_7 (X := X) I
  rw [← zself2 (show I 19 1 = 7 from h)] at e
  exact e.to (zHe (by show zui _ 19 1 (I 19 1 - 1) = zui _ 19 1 (nI 6); rw [h]; rfl))
theorem wf_take_6_8 {X : Nat × (Nat → Int32)} (I : Nat → Nat → Int32) (h : I 19 1 = nI 8) : Wf X 79 [some (.ref 19), some (.ref 4), none] (zH I (zPr 6)) (some (.int 1)) (zH (ztake19 6 8 I) (zPr 6)) := by
  have e := sp_take19_6_8 (X := X) I
  rw [← zself2 (show I 19 1 = 8 from h)] at e
  exact e.to (zHe (by show zui _ 19 1 (I 19 1 - 1) = zui _ 19 1 (nI 7); rw [h]; rfl))
theorem wf_take_7_0 {X : Nat × (Nat → Int32)} (I : Nat → Nat → Int32) (h : I 19 1 = nI 0) : Wf X 79 [some (.ref 19), some (.ref 4), none] (zH I (zPr 7)) (some (.int 0)) (zH I (zPr 7)) := by
  have e := sp_take19_7_0 (X := X) I
  rw [← zself2 (show I 19 1 = 0 from h)] at e
  exact e
theorem wf_take_7_1 {X : Nat × (Nat → Int32)} (I : Nat → Nat → Int32) (h : I 19 1 = nI 1) : Wf X 79 [some (.ref 19), some (.ref 4), none] (zH I (zPr 7)) (some (.int 1)) (zH (ztake19 7 1 I) (zPr 7)) := by
  have e := sp_take19_7_1 (X := X) I
  rw [← zself2 (show I 19 1 = 1 from h)] at e
  exact e.to (zHe (by show zui _ 19 1 (I 19 1 - 1) = zui _ 19 1 (nI 0); rw [h]; rfl))
theorem wf_take_7_2 {X : Nat × (Nat → Int32)} (I : Nat → Nat → Int32) (h : I 19 1 = nI 2) : Wf X 79 [some (.ref 19), some (.ref 4), none] (zH I (zPr 7)) (some (.int 1)) (zH (ztake19 7 2 I) (zPr 7)) := by
  have e := sp_take19_7_2 (X := X) I
  rw [← zself2 (show I 19 1 = 2 from h)] at e
  exact e.to (zHe (by show zui _ 19 1 (I 19 1 - 1) = zui _ 19 1 (nI 1); rw [h]; rfl))
theorem wf_take_7_3 {X : Nat × (Nat → Int32)} (I : Nat → Nat → Int32) (h : I 19 1 = nI 3) : Wf X 79 [some (.ref 19), some (.ref 4), none] (zH I (zPr 7)) (some (.int 1)) (zH (ztake19 7 3 I) (zPr 7)) := by
  have e := sp_take19_7_3 (X := X) I
  rw [← zself2 (show I 19 1 = 3 from h)] at e
  exact e.to (zHe (by show zui _ 19 1 (I 19 1 - 1) = zui _ 19 1 (nI 2); rw [h]; rfl))
theorem wf_take_7_4 {X : Nat × (Nat → Int32)} (I : Nat → Nat → Int32) (h : I 19 1 = nI 4) : Wf X 79 [some (.ref 19), some (.ref 4), none] (zH I (zPr 7)) (some (.int 1)) (zH (ztake19 7 4 I) (zPr 7)) := by
  have e := sp_take19_7_4 (X := X) I
  rw [← zself2 (show I 19 1 = 4 from h)] at e
  exact e.to (zHe (by show zui _ 19 1 (I 19 1 - 1) = zui _ 19 1 (nI 3); rw [h]; rfl))
theorem wf_take_7_5 {X : Nat × (Nat → Int32)} (I : Nat → Nat → Int32) (h : I 19 1 = nI 5) : Wf X 79 [some (.ref 19), some (.ref 4), none] (zH I (zPr 7)) (some (.int 1)) (zH (ztake19 7 5 I) (zPr 7)) := by
  have e := sp_take19_7_5 (X := X) I
  rw [← zself2 (show I 19 1 = 5 from h)] at e
  exact e.to (zHe (by show zui _ 19 1 (I 19 1 - 1) = zui _ 19 1 (nI 4); rw [h]; rfl))
theorem wf_take_7_6 {X : Nat × (Nat → Int32)} (I : Nat → Nat → Int32) (h : I 19 1 = nI 6) : Wf X 79 [some (.ref 19), some (.ref 4), none] (zH I (zPr 7)) (some (.int 1)) (zH (ztake19 7 6 I) (zPr 7)) := by
  have e := sp_take19_7_6 (X := X) I
  rw [← zself2 (show I 19 1 = 6 from h)] at e
  exact e.to (zHe (by show zui _ 19 1 (I 19 1 - 1) = zui _ 19 1 (nI 5); rw [h]; rfl))
theorem wf_take_7_7 {X : Nat × (Nat → Int32)} (I : Nat → Nat → Int32) (h : I 19 1 = nI 7) : Wf X 79 [some (.ref 19), some (.ref 4), none] (zH I (zPr 7)) (some (.int 1)) (zH (ztake19 7 7 I) (zPr 7)) := by
  have e := sp_take19_7_7 (X := X) I
  rw [← zself2 (show I 19 1 = 7 from h)] at e
  exact e.to (zHe (by show zui _ 19 1 (I 19 1 - 1) = zui _ 19 1 (nI 6); rw [h]; rfl))
theorem wf_take_7_8 {X : Nat × (Nat → Int32)} (I : Nat → Nat → Int32) (h : I 19 1 = nI 8) : Wf X 79 [some (.ref 19), some (.ref 4), none] (zH I (zPr 7)) (some (.int 1)) (zH (ztake19 7 8 I) (zPr 7)) := by
  have e := sp_take19_7_8 (X := X) I
  rw [← zself2 (show I 19 1 = 8 from h)] at e
  exact e.to (zHe (by show zui _ 19 1 (I 19 1 - 1) = zui _ 19 1 (nI 7); rw [h]; rfl))
theorem wf_put {X : Nat × (Nat → Int32)} : ∀ (r k : Nat) (_ : r < 8) (_ : k < 9) (I : Nat → Nat → Int32) (_ : I 19 1 = nI k), Wf X 65 [some (.ref 19), some (.ref 4), none] (zH I (zPr r)) none (zH (zput19 r k I) (zPr (zrotn r k)))
  | 0, 0, _, _, I, h => wf_put_0_0 I h
  | 0, 1, _, _, I, h => wf_put_0_1 I h
  | 0, 2, _, _, I, h => wf_put_0_2 I h
  | 0, 3, _, _, I, h => wf_put_0_3 I h
  | 0, 4, _, _, I, h => wf_put_0_4 I h
  | 0, 5, _, _, I, h => wf_put_0_5 I h
  | 0, 6, _, _, I, h => wf_put_0_6 I h
  | 0, 7, _, _, I, h => wf_put_0_7 I h
  | 0, 8, _, _, I, h => wf_put_0_8 I h
  | 1, 0, _, _, I, h => wf_put_1_0 I h
  | 1, 1, _, _, I, h => wf_put_1_1 I h
  | 1, 2, _, _, I, h => wf_put_1_2 I h
  | 1, 3, _, _, I, h => wf_put_1_3 I h
  | 1, 4, _, _, I, h => wf_put_1_4 I h
  | 1, 5, _, _, I, h => wf_put_1_5 I h
  | 1, 6, _, _, I, h => wf_put_1_6 I h
  | 1, 7, _, _, I, h => wf_put_1_7 I h
  | 1, 8, _, _, I, h => wf_put_1_8 I h
  | 2, 0, _, _, I, h => wf_put_2_0 I h
  | 2, 1, _, _, I, h => wf_put_2_1 I h
  | 2, 2, _, _, I, h => wf_put_2_2 I h
  | 2, 3, _, _, I, h => wf_put_2_3 I h
  | 2, 4, _, _, I, h => wf_put_2_4 I h
  | 2, 5, _, _, I, h => wf_put_2_5 I h
  | 2, 6, _, _, I, h => wf_put_2_6 I h
  | 2, 7, _, _, I, h => wf_put_2_7 I h
  | 2, 8, _, _, I, h => wf_put_2_8 I h
  | 3, 0, _, _, I, h => wf_put_3_0 I h
  | 3, 1, _, _, I, h => wf_put_3_1 I h
  | 3, 2, _, _, I, h => wf_put_3_2 I h
  | 3, 3, _, _, I, h => wf_put_3_3 I h
  | 3, 4, _, _, I, h => wf_put_3_4 I h
  | 3, 5, _, _, I, h => wf_put_3_5 I h
  | 3, 6, _, _, I, h => wf_put_3_6 I h
  | 3, 7, _, _, I, h => wf_put_3_7 I h
  | 3, 8, _, _, I, h => wf_put_3_8 I h
  | 4, 0, _, _, I, h => wf_put_4_0 I h
  | 4, 1, _, _, I, h => wf_put_4_1 I h
  | 4, 2, _, _, I, h => wf_put_4_2 I h
  | 4, 3, _, _, I, h => wf_put_4_3 I h
  | 4, 4, _, _, I, h => wf_put_4_4 I h
  | 4, 5, _, _, I, h => wf_put_4_5 I h
  | 4, 6, _, _, I, h => wf_put_4_6 I h
  | 4, 7, _, _, I, h => wf_put_4_7 I h
  | 4, 8, _, _, I, h => wf_put_4_8 I h
  | 5, 0, _, _, I, h => wf_put_5_0 I h
  | 5, 1, _, _, I, h => wf_put_5_1 I h
  | 5, 2, _, _, I, h => wf_put_5_2 I h
  | 5, 3, _, _, I, h => wf_put_5_3 I h
  | 5, 4, _, _, I, h => wf_put_5_4 I h
  | 5, 5, _, _, I, h => wf_put_5_5 I h
  | 5, 6, _, _, I, h => wf_put_5_6 I h
  | 5, 7, _, _, I, h => wf_put_5_7 I h
  | 5, 8, _, _, I, h => wf_put_5_8 I h
  | 6, 0, _, _, I, h => wf_put_6_0 I h
  | 6, 1, _, _, I, h => wf_put_6_1 I h
  | 6, 2, _, _, I, h => wf_put_6_2 I h
  | 6, 3, _, _, I, h => wf_put_6_3 I h
  | 6, 4, _, _, I, h => wf_put_6_4 I h
  | 6, 5, _, _, I, h => wf_put_6_5 I h
  | 6, 6, _, _, I, h => wf_put_6_6 I h
  | 6, 7, _, _, I, h => wf_put_6_7 I h
  | 6, 8, _, _, I, h => wf_put_6_8 I h
  | 7, 0, _, _, I, h => wf_put_7_0 I h
  | 7, 1, _, _, I, h => wf_put_7_1 I h
  | 7, 2, _, _, I, h => wf_put_7_2 I h
  | 7, 3, _, _, I, h => wf_put_7_3 I h
  | 7, 4, _, _, I, h => wf_put_7_4 I h
  | 7, 5, _, _, I, h => wf_put_7_5 I h
  | 7, 6, _, _, I, h => wf_put_7_6 I h
  | 7, 7, _, _, I, h => wf_put_7_7 I h
  | 7, 8, _, _, I, h => wf_put_7_8 I h
  | r + 8, _, hr, _, _, _ => absurd hr (by omega)
  | r, k + 9, _, hk, _, _ => absurd hk (by omega)
theorem wf_take {X : Nat × (Nat → Int32)} : ∀ (r k : Nat) (_ : r < 8) (_ : k < 9) (I : Nat → Nat → Int32) (_ : I 19 1 = nI k), Wf X 79 [some (.ref 19), some (.ref 4), none] (zH I (zPr r)) (some (.int (if k = 0 then 0 else 1))) (zH (if k = 0 then I else ztake19 r k I) (zPr r))
  | 0, 0, _, _, I, h => wf_take_0_0 I h
  | 0, 1, _, _, I, h => wf_take_0_1 I h
  | 0, 2, _, _, I, h => wf_take_0_2 I h
  | 0, 3, _, _, I, h => wf_take_0_3 I h
  | 0, 4, _, _, I, h => wf_take_0_4 I h
  | 0, 5, _, _, I, h => wf_take_0_5 I h
  | 0, 6, _, _, I, h => wf_take_0_6 I h
  | 0, 7, _, _, I, h => wf_take_0_7 I h
  | 0, 8, _, _, I, h => wf_take_0_8 I h
  | 1, 0, _, _, I, h => wf_take_1_0 I h
  | 1, 1, _, _, I, h => wf_take_1_1 I h
  | 1, 2, _, _, I, h => wf_take_1_2 I h
  | 1, 3, _, _, I, h => wf_take_1_3 I h
  | 1, 4, _, _, I, h => wf_take_1_4 I h
  | 1, 5, _, _, I, h => wf_take_1_5 I h
  | 1, 6, _, _, I, h => wf_take_1_6 I h
  | 1, 7, _, _, I, h => wf_take_1_7 I h
  | 1, 8, _, _, I, h => wf_take_1_8 I h
  | 2, 0, _, _, I, h => wf_take_2_0 I h
  | 2, 1, _, _, I, h => wf_take_2_1 I h
  | 2, 2, _, _, I, h => wf_take_2_2 I h
  | 2, 3, _, _, I, h => wf_take_2_3 I h
  | 2, 4, _, _, I, h => wf_take_2_4 I h
  | 2, 5, _, _, I, h => wf_take_2_5 I h
  | 2, 6, _, _, I, h => wf_take_2_6 I h
  | 2, 7, _, _, I, h => wf_take_2_7 I h
  | 2, 8, _, _, I, h => wf_take_2_8 I h
  | 3, 0, _, _, I, h => wf_take_3_0 I h
  | 3, 1, _, _, I, h => wf_take_3_1 I h
  | 3, 2, _, _, I, h => wf_take_3_2 I h
  | 3, 3, _, _, I, h => wf_take_3_3 I h
  | 3, 4, _, _, I, h => wf_take_3_4 I h
  | 3, 5, _, _, I, h => wf_take_3_5 I h
  | 3, 6, _, _, I, h => wf_take_3_6 I h
  | 3, 7, _, _, I, h => wf_take_3_7 I h
  | 3, 8, _, _, I, h => wf_take_3_8 I h
  | 4, 0, _, _, I, h => wf_take_4_0 I h
  | 4, 1, _, _, I, h => wf_take_4_1 I h
  | 4, 2, _, _, I, h => wf_take_4_2 I h
  | 4, 3, _, _, I, h => wf_take_4_3 I h
  | 4, 4, _, _, I, h => wf_take_4_4 I h
  | 4, 5, _, _, I, h => wf_take_4_5 I h
  | 4, 6, _, _, I, h => wf_take_4_6 I h
  | 4, 7, _, _, I, h => wf_take_4_7 I h
  | 4, 8, _, _, I, h => wf_take_4_8 I h
  | 5, 0, _, _, I, h => wf_take_5_0 I h
  | 5, 1, _, _, I, h => wf_take_5_1 I h
  | 5, 2, _, _, I, h => wf_take_5_2 I h
  | 5, 3, _, _, I, h => wf_take_5_3 I h
  | 5, 4, _, _, I, h => wf_take_5_4 I h
  | 5, 5, _, _, I, h => wf_take_5_5 I h
  | 5, 6, _, _, I, h => wf_take_5_6 I h
  | 5, 7, _, _, I, h => wf_take_5_7 I h
  | 5, 8, _, _, I, h => wf_take_5_8 I h
  | 6, 0, _, _, I, h => wf_take_6_0 I h
  | 6, 1, _, _, I, h => wf_take_6_1 I h
  | 6, 2, _, _, I, h => wf_take_6_2 I h
  | 6, 3, _, _, I, h => wf_take_6_3 I h
  | 6, 4, _, _, I, h => wf_take_6_4 I h
  | 6, 5, _, _, I, h => wf_take_6_5 I h
  | 6, 6, _, _, I, h => wf_take_6_6 I h
  | 6, 7, _, _, I, h => wf_take_6_7 I h
  | 6, 8, _, _, I, h => wf_take_6_8 I h
  | 7, 0, _, _, I, h => wf_take_7_0 I h
  | 7, 1, _, _, I, h => wf_take_7_1 I h
  | 7, 2, _, _, I, h => wf_take_7_2 I h
  | 7, 3, _, _, I, h => wf_take_7_3 I h
  | 7, 4, _, _, I, h => wf_take_7_4 I h
  | 7, 5, _, _, I, h => wf_take_7_5 I h
  | 7, 6, _, _, I, h => wf_take_7_6 I h
  | 7, 7, _, _, I, h => wf_take_7_7 I h
  | 7, 8, _, _, I, h => wf_take_7_8 I h
  | r + 8, _, hr, _, _, _ => absurd hr (by omega)
  | r, k + 9, _, hk, _, _ => absurd hk (by omega)
theorem wf_putK_0 {X : Nat × (Nat → Int32)} (r : Nat) (I : Nat → Nat → Int32) (h : I 53 1 = nI 0) : Wf X 65 [some (.ref 53), some (.ref 4), none] (zH I (zPr r)) none (zH (zput53 0 I) (zPr r)) := by
  have e := sp_put53_k_0 (X := X) I r
  rw [← zself2 (show I 53 1 = 0 from h)] at e
  exact e.to (zHe (by show zui _ 53 1 (I 53 1 + 1) = zui _ 53 1 (nI 1); rw [h]; rfl))
theorem wf_putK_1 {X : Nat × (Nat → Int32)} (r : Nat) (I : Nat → Nat → Int32) (h : I 53 1 = nI 1) : Wf X 65 [some (.ref 53), some (.ref 4), none] (zH I (zPr r)) none (zH (zput53 1 I) (zPr r)) := by
  have e := sp_put53_k_1 (X := X) I r
  rw [← zself2 (show I 53 1 = 1 from h)] at e
  exact e.to (zHe (by show zui _ 53 1 (I 53 1 + 1) = zui _ 53 1 (nI 2); rw [h]; rfl))
theorem wf_takeK_0 {X : Nat × (Nat → Int32)} (r : Nat) (I : Nat → Nat → Int32) (h : I 53 1 = nI 0) : Wf X 79 [some (.ref 53), some (.ref 4), none] (zH I (zPr r)) (some (.int 0)) (zH I (zPr r)) := by
  have e := sp_take53_k_0 (X := X) I r
  rw [← zself2 (show I 53 1 = 0 from h)] at e
  exact e
theorem wf_takeK_1 {X : Nat × (Nat → Int32)} (r : Nat) (I : Nat → Nat → Int32) (h : I 53 1 = nI 1) : Wf X 79 [some (.ref 53), some (.ref 4), none] (zH I (zPr r)) (some (.int 1)) (zH (ztake53 1 I) (zPr r)) := by
  have e := sp_take53_k_1 (X := X) I r
  rw [← zself2 (show I 53 1 = 1 from h)] at e
  exact e.to (zHe (by show zui _ 53 1 (I 53 1 - 1) = zui _ 53 1 (nI 0); rw [h]; rfl))
theorem wf_takeK_2 {X : Nat × (Nat → Int32)} (r : Nat) (I : Nat → Nat → Int32) (h : I 53 1 = nI 2) : Wf X 79 [some (.ref 53), some (.ref 4), none] (zH I (zPr r)) (some (.int 1)) (zH (ztake53 2 I) (zPr r)) := by
  have e := sp_take53_k_2 (X := X) I r
  rw [← zself2 (show I 53 1 = 2 from h)] at e
  exact e.to (zHe (by show zui _ 53 1 (I 53 1 - 1) = zui _ 53 1 (nI 1); rw [h]; rfl))
theorem wf_putK {X : Nat × (Nat → Int32)} (r : Nat) : ∀ (k : Nat) (_ : k < 2) (I : Nat → Nat → Int32) (_ : I 53 1 = nI k), Wf X 65 [some (.ref 53), some (.ref 4), none] (zH I (zPr r)) none (zH (zput53 k I) (zPr r))
  | 0, _, I, h => wf_putK_0 r I h
  | 1, _, I, h => wf_putK_1 r I h
  | k + 2, hk, _, _ => absurd hk (by omega)
theorem wf_takeK {X : Nat × (Nat → Int32)} (r : Nat) : ∀ (k : Nat) (_ : k < 3) (I : Nat → Nat → Int32) (_ : I 53 1 = nI k), Wf X 79 [some (.ref 53), some (.ref 4), none] (zH I (zPr r)) (some (.int (if k = 0 then 0 else 1))) (zH (if k = 0 then I else ztake53 k I) (zPr r))
  | 0, _, I, h => wf_takeK_0 r I h
  | 1, _, I, h => wf_takeK_1 r I h
  | 2, _, I, h => wf_takeK_2 r I h
  | k + 3, hk, _, _ => absurd hk (by omega)
