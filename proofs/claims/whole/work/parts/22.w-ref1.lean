/-! THE REFERENCE (printed) -/
def f_D_in (I : Nat → Nat → Int32) (v a b : Int32) : Int32 := if v < a then 0 else (if b < v then 0 else 1)
theorem fb_D_in (I : Nat → Nat → Int32) (v a b : Int32) : f_D_in I v a b = 1 ∨ f_D_in I v a b = 0 := by
  unfold f_D_in
  (repeat' split) <;> first | exact Or.inl rfl | exact Or.inr rfl
set_option maxRecDepth 100000 in
theorem sp_D_in {X : Nat × (Nat → Int32)} (I : Nat → Nat → Int32) (P : Nat → Nat → Option Nat) (v a b : Int32) : Wf X 123 [some (.int v), some (.int a), some (.int b)] (zH I P) (some (.int (f_D_in I v a b))) (zH I P) := by
  unfold Wf
  refine wp_blk (pc' := 2) (L' := [some (.int v), some (.int a), some (.int b)]) (st' := [.int a, .int v]) (h' := zH I P) 2 rfl ?_
  refine wp_lt (a := v) (b := a) (s1 := (14, [some (.int v), some (.int a), some (.int b)], [], zH I P)) (s2 := (5, [some (.int v), some (.int a), some (.int b)], [], zH I P)) rfl (fun c1 => ?_) (fun c1 => ?_)
  · refine wp_blk (pc' := 15) (L' := [some (.int v), some (.int a), some (.int b)]) (st' := [.int 0]) (h' := zH I P) 1 rfl ?_
    exact wp_end rfl rfl ⟨by rw [f_D_in, if_pos c1], rfl⟩
  · refine wp_blk (pc' := 7) (L' := [some (.int v), some (.int a), some (.int b)]) (st' := [.int b, .int v]) (h' := zH I P) 2 rfl ?_
    refine wp_gt (a := v) (b := b) (s1 := (14, [some (.int v), some (.int a), some (.int b)], [], zH I P)) (s2 := (10, [some (.int v), some (.int a), some (.int b)], [], zH I P)) rfl (fun c2 => ?_) (fun c2 => ?_)
    · refine wp_blk (pc' := 15) (L' := [some (.int v), some (.int a), some (.int b)]) (st' := [.int 0]) (h' := zH I P) 1 rfl ?_
      exact wp_end rfl rfl ⟨by rw [f_D_in, if_neg c1, if_pos c2], rfl⟩
    · refine wp_blk (pc' := 15) (L' := [some (.int v), some (.int a), some (.int b)]) (st' := [.int 1]) (h' := zH I P) 2 rfl ?_
      exact wp_end rfl rfl ⟨by rw [f_D_in, if_neg c1, if_neg c2], rfl⟩
def f_D_isOne (I : Nat → Nat → Int32) (c : Int32) : Int32 := f_D_in I c 0 ((I 63 2) - 1)
theorem fb_D_isOne (I : Nat → Nat → Int32) (c : Int32) : f_D_isOne I c = 1 ∨ f_D_isOne I c = 0 := by
  unfold f_D_isOne
  (repeat' split) <;> first | exact Or.inl rfl | exact Or.inr rfl | exact fb_D_in I c 0 ((I 63 2) - 1)
set_option maxRecDepth 100000 in
theorem sp_D_isOne {X : Nat × (Nat → Int32)} (I : Nat → Nat → Int32) (P : Nat → Nat → Option Nat) (c : Int32) : Wf X 133 [some (.ref 63), some (.int c)] (zH I P) (some (.int (f_D_isOne I c))) (zH I P) := by
  unfold Wf
  refine wp_blk (pc' := 8) (L' := [some (.ref 63), some (.int c)]) (st' := [.int ((I 63 2) - 1), .int 0, .int c]) (h' := zH I P) 6 rfl ?_
  refine wp_callf (d := 123) (as := [.int c, .int 0, .int ((I 63 2) - 1)]) (rest := []) (Ld := [some (.int c), some (.int 0), some (.int ((I 63 2) - 1))]) (pc' := 11) (st' := [.int (f_D_in I c 0 ((I 63 2) - 1))]) (r := some (.int (f_D_in I c 0 ((I 63 2) - 1)))) (h1 := zH I P) rfl rfl rfl rfl rfl rfl rfl rfl rfl (sp_D_in I P c 0 ((I 63 2) - 1)) ?_
  exact wp_endb rfl rfl (fb_D_in I c 0 ((I 63 2) - 1)) ⟨rfl, rfl⟩
def f_D_areTwo (I : Nat → Nat → Int32) (a b : Int32) : Int32 := if f_D_isOne I a = 0 then 0 else (if f_D_isOne I b = 0 then 0 else (if a = b then 0 else 1))
theorem fb_D_areTwo (I : Nat → Nat → Int32) (a b : Int32) : f_D_areTwo I a b = 1 ∨ f_D_areTwo I a b = 0 := by
  unfold f_D_areTwo
  (repeat' split) <;> first | exact Or.inl rfl | exact Or.inr rfl
set_option maxRecDepth 100000 in
theorem sp_D_areTwo {X : Nat × (Nat → Int32)} (I : Nat → Nat → Int32) (P : Nat → Nat → Option Nat) (a b : Int32) : Wf X 137 [some (.ref 63), some (.int a), some (.int b)] (zH I P) (some (.int (f_D_areTwo I a b))) (zH I P) := by
  unfold Wf
  refine wp_blk (pc' := 2) (L' := [some (.ref 63), some (.int a), some (.int b)]) (st' := [.int a, .ref 63]) (h' := zH I P) 2 rfl ?_
  refine wp_callf (d := 133) (as := [.ref 63, .int a]) (rest := []) (Ld := [some (.ref 63), some (.int a)]) (pc' := 5) (st' := [.int (f_D_isOne I a)]) (r := some (.int (f_D_isOne I a))) (h1 := zH I P) rfl rfl rfl rfl rfl rfl rfl rfl rfl (sp_D_isOne I P a) ?_
  refine wp_eq (a := f_D_isOne I a) (b := 0) (s1 := (25, [some (.ref 63), some (.int a), some (.int b)], [], zH I P)) (s2 := (8, [some (.ref 63), some (.int a), some (.int b)], [], zH I P)) rfl (fun c1 => ?_) (fun c1 => ?_)
  · refine wp_blk (pc' := 26) (L' := [some (.ref 63), some (.int a), some (.int b)]) (st' := [.int 0]) (h' := zH I P) 1 rfl ?_
    exact wp_end rfl rfl ⟨by rw [f_D_areTwo, if_pos c1], rfl⟩
  · refine wp_blk (pc' := 10) (L' := [some (.ref 63), some (.int a), some (.int b)]) (st' := [.int b, .ref 63]) (h' := zH I P) 2 rfl ?_
    refine wp_callf (d := 133) (as := [.ref 63, .int b]) (rest := []) (Ld := [some (.ref 63), some (.int b)]) (pc' := 13) (st' := [.int (f_D_isOne I b)]) (r := some (.int (f_D_isOne I b))) (h1 := zH I P) rfl rfl rfl rfl rfl rfl rfl rfl rfl (sp_D_isOne I P b) ?_
    refine wp_eq (a := f_D_isOne I b) (b := 0) (s1 := (25, [some (.ref 63), some (.int a), some (.int b)], [], zH I P)) (s2 := (16, [some (.ref 63), some (.int a), some (.int b)], [], zH I P)) rfl (fun c2 => ?_) (fun c2 => ?_)
    · refine wp_blk (pc' := 26) (L' := [some (.ref 63), some (.int a), some (.int b)]) (st' := [.int 0]) (h' := zH I P) 1 rfl ?_
      exact wp_end rfl rfl ⟨by rw [f_D_areTwo, if_neg c1, if_pos c2], rfl⟩
    · refine wp_blk (pc' := 18) (L' := [some (.ref 63), some (.int a), some (.int b)]) (st' := [.int b, .int a]) (h' := zH I P) 2 rfl ?_
      refine wp_eq (a := a) (b := b) (s1 := (25, [some (.ref 63), some (.int a), some (.int b)], [], zH I P)) (s2 := (21, [some (.ref 63), some (.int a), some (.int b)], [], zH I P)) rfl (fun c3 => ?_) (fun c3 => ?_)
      · refine wp_blk (pc' := 26) (L' := [some (.ref 63), some (.int a), some (.int b)]) (st' := [.int 0]) (h' := zH I P) 1 rfl ?_
        exact wp_end rfl rfl ⟨by rw [f_D_areTwo, if_neg c1, if_neg c2, if_pos c3], rfl⟩
      · refine wp_blk (pc' := 26) (L' := [some (.ref 63), some (.int a), some (.int b)]) (st' := [.int 1]) (h' := zH I P) 2 rfl ?_
        exact wp_end rfl rfl ⟨by rw [f_D_areTwo, if_neg c1, if_neg c2, if_neg c3], rfl⟩
def f_D_isAway (I : Nat → Nat → Int32) (c : Int32) : Int32 := if ((I 68 42) >>> (c &&& 31)) &&& 1 = 1 then 1 else 0
theorem fb_D_isAway (I : Nat → Nat → Int32) (c : Int32) : f_D_isAway I c = 1 ∨ f_D_isAway I c = 0 := by
  unfold f_D_isAway
  (repeat' split) <;> first | exact Or.inl rfl | exact Or.inr rfl
set_option maxRecDepth 100000 in
theorem sp_D_isAway {X : Nat × (Nat → Int32)} (I : Nat → Nat → Int32) (P : Nat → Nat → Option Nat) (c : Int32) : Wf X 135 [some (.ref 63), some (.int c)] (zH I P) (some (.int (f_D_isAway I c))) (zH I P) := by
  unfold Wf
  refine wp_blk (pc' := 12) (L' := [some (.ref 63), some (.int c)]) (st' := [.int 1, .int (((I 68 42) >>> (c &&& 31)) &&& 1)]) (h' := zH I P) 9 rfl ?_
  refine wp_ne (a := ((I 68 42) >>> (c &&& 31)) &&& 1) (b := 1) (s1 := (19, [some (.ref 63), some (.int c)], [], zH I P)) (s2 := (15, [some (.ref 63), some (.int c)], [], zH I P)) rfl (fun c1 => ?_) (fun c1 => ?_)
  · refine wp_blk (pc' := 20) (L' := [some (.ref 63), some (.int c)]) (st' := [.int 0]) (h' := zH I P) 1 rfl ?_
    exact wp_end rfl rfl ⟨by rw [f_D_isAway, if_neg c1], rfl⟩
  · refine wp_blk (pc' := 20) (L' := [some (.ref 63), some (.int c)]) (st' := [.int 1]) (h' := zH I P) 2 rfl ?_
    exact wp_end rfl rfl ⟨by rw [f_D_isAway, if_pos c1], rfl⟩
def x_D_write (I : Nat → Nat → Int32) (l : Int32) : Option (Int32 × (Nat → Nat → Int32)) := if f_D_in I l 32 126 = 0 then (some (-1, I)) else (if I 63 1 = 200 then (some (-3, I)) else (if zinb (I 63 1) 200 = true then (some ((I 63 1) + 1, (zui (zui I 64 ((I 63 1).toNatClampNeg) l) 63 1 ((I 63 1) + 1)))) else none))
set_option maxRecDepth 100000 in
theorem xp_D_write {X : Nat × (Nat → Int32)} (I : Nat → Nat → Int32) (P : Nat → Nat → Option Nat) (l : Int32) (r : Int32 × (Nat → Nat → Int32)) (hx : x_D_write I l = some r) : Wf X 122 [some (.ref 63), some (.int l)] (zH I P) (some (.int r.1)) (zH r.2 P) := by
  unfold Wf
  unfold x_D_write at hx
  refine wp_blk (pc' := 5) (L' := [some (.ref 63), some (.int l)]) (st' := [.int 126, .int 32, .int l]) (h' := zH I P) 3 rfl ?_
  refine wp_callf (d := 123) (as := [.int l, .int 32, .int 126]) (rest := []) (Ld := [some (.int l), some (.int 32), some (.int 126)]) (pc' := 8) (st' := [.int (f_D_in I l 32 126)]) (r := some (.int (f_D_in I l 32 126))) (h1 := zH I P) rfl rfl rfl rfl rfl rfl rfl rfl rfl (sp_D_in I P l 32 126) ?_
  refine wp_ne (a := f_D_in I l 32 126) (b := 0) (s1 := (13, [some (.ref 63), some (.int l)], [], zH I P)) (s2 := (11, [some (.ref 63), some (.int l)], [], zH I P)) rfl (fun c1 => ?_) (fun c1 => ?_)
  · rw [if_neg c1] at hx
    refine wp_blk (pc' := 20) (L' := [some (.ref 63), some (.int l)]) (st' := [.int 200, .int (I 63 1)]) (h' := zH I P) 3 rfl ?_
    refine wp_ne (a := I 63 1) (b := 200) (s1 := (26, [some (.ref 63), some (.int l)], [], zH I P)) (s2 := (23, [some (.ref 63), some (.int l)], [], zH I P)) rfl (fun c2 => ?_) (fun c2 => ?_)
    · rw [if_neg c2] at hx
      refine wp_blk (pc' := 35) (L' := [some (.ref 63), some (.int l)]) (st' := [.int l, .int (I 63 1), .ref 64]) (h' := zH I P) 5 rfl ?_
      obtain ⟨c3, hx⟩ := zite hx
      refine wp_chk (P := zinb (I 63 1) 200 = true) (pc' := 36) (L' := [some (.ref 63), some (.int l)]) (st' := []) (h' := zH (zui I 64 ((I 63 1).toNatClampNeg) l) P) rfl c3 ?_
      refine wp_blk (pc' := 50) (L' := [some (.ref 63), some (.int l)]) (st' := [.int ((I 63 1) + 1)]) (h' := zH (zui (zui I 64 ((I 63 1).toNatClampNeg) l) 63 1 ((I 63 1) + 1)) P) 8 rfl ?_
      cases hx
      exact wp_end rfl rfl ⟨rfl, rfl⟩
    · rw [if_pos c2] at hx
      refine wp_blk (pc' := 25) (L' := [some (.ref 63), some (.int l)]) (st' := [.int (-3)]) (h' := zH I P) 1 rfl ?_
      cases hx
      exact wp_end rfl rfl ⟨rfl, rfl⟩
  · rw [if_pos c1] at hx
    refine wp_blk (pc' := 12) (L' := [some (.ref 63), some (.int l)]) (st' := [.int (-1)]) (h' := zH I P) 1 rfl ?_
    cases hx
    exact wp_end rfl rfl ⟨rfl, rfl⟩
def x_D_wipe (I : Nat → Nat → Int32) : Option (Int32 × (Nat → Nat → Int32)) := some (I 63 1, (zui I 63 1 0))
set_option maxRecDepth 100000 in
theorem xp_D_wipe {X : Nat × (Nat → Int32)} (I : Nat → Nat → Int32) (P : Nat → Nat → Option Nat) (r : Int32 × (Nat → Nat → Int32)) (hx : x_D_wipe I = some r) : Wf X 124 [some (.ref 63), none] (zH I P) (some (.int r.1)) (zH r.2 P) := by
  unfold Wf
  unfold x_D_wipe at hx
  refine wp_blk (pc' := 11) (L' := [some (.ref 63), some (.int (I 63 1))]) (st' := [.int (I 63 1)]) (h' := zH (zui I 63 1 0) P) 7 rfl ?_
  cases hx
  exact wp_end rfl rfl ⟨rfl, rfl⟩
def x_D_letterAt (I : Nat → Nat → Int32) (k : Int32) : Option (Int32 × (Nat → Nat → Int32)) := if I 63 1 ≤ k then (some (-1, I)) else (if zinb k 200 = true then (some (I 64 k.toNatClampNeg, I)) else none)
set_option maxRecDepth 100000 in
theorem xp_D_letterAt {X : Nat × (Nat → Int32)} (I : Nat → Nat → Int32) (P : Nat → Nat → Option Nat) (k : Int32) (r : Int32 × (Nat → Nat → Int32)) (hx : x_D_letterAt I k = some r) : Wf X 129 [some (.ref 63), some (.int k)] (zH I P) (some (.int r.1)) (zH r.2 P) := by
  unfold Wf
  unfold x_D_letterAt at hx
  refine wp_blk (pc' := 5) (L' := [some (.ref 63), some (.int k)]) (st' := [.int (I 63 1), .int k]) (h' := zH I P) 3 rfl ?_
  refine wp_ge (a := k) (b := I 63 1) (s1 := (17, [some (.ref 63), some (.int k)], [], zH I P)) (s2 := (8, [some (.ref 63), some (.int k)], [], zH I P)) rfl (fun c1 => ?_) (fun c1 => ?_)
  · rw [if_pos c1] at hx
    refine wp_blk (pc' := 18) (L' := [some (.ref 63), some (.int k)]) (st' := [.int (-1)]) (h' := zH I P) 1 rfl ?_
    cases hx
    exact wp_end rfl rfl ⟨rfl, rfl⟩
  · rw [if_neg c1] at hx
    refine wp_blk (pc' := 13) (L' := [some (.ref 63), some (.int k)]) (st' := [.int k, .ref 64]) (h' := zH I P) 3 rfl ?_
    obtain ⟨c2, hx⟩ := zite hx
    refine wp_chk (P := zinb k 200 = true) (pc' := 14) (L' := [some (.ref 63), some (.int k)]) (st' := [.int (I 64 k.toNatClampNeg)]) (h' := zH I P) rfl c2 ?_
    refine wp_blk (pc' := 18) (L' := [some (.ref 63), some (.int k)]) (st' := [.int (I 64 k.toNatClampNeg)]) (h' := zH I P) 1 rfl ?_
    cases hx
    exact wp_end rfl rfl ⟨rfl, rfl⟩
def f_D_isFigure (I : Nat → Nat → Int32) (v : Int32) : Int32 := f_D_in I v 48 57
theorem fb_D_isFigure (I : Nat → Nat → Int32) (v : Int32) : f_D_isFigure I v = 1 ∨ f_D_isFigure I v = 0 := by
  unfold f_D_isFigure
  (repeat' split) <;> first | exact Or.inl rfl | exact Or.inr rfl | exact fb_D_in I v 48 57
set_option maxRecDepth 100000 in
theorem sp_D_isFigure {X : Nat × (Nat → Int32)} (I : Nat → Nat → Int32) (P : Nat → Nat → Option Nat) (v : Int32) : Wf X 130 [some (.int v)] (zH I P) (some (.int (f_D_isFigure I v))) (zH I P) := by
  unfold Wf
  refine wp_blk (pc' := 5) (L' := [some (.int v)]) (st' := [.int 57, .int 48, .int v]) (h' := zH I P) 3 rfl ?_
  refine wp_callf (d := 123) (as := [.int v, .int 48, .int 57]) (rest := []) (Ld := [some (.int v), some (.int 48), some (.int 57)]) (pc' := 8) (st' := [.int (f_D_in I v 48 57)]) (r := some (.int (f_D_in I v 48 57))) (h1 := zH I P) rfl rfl rfl rfl rfl rfl rfl rfl rfl (sp_D_in I P v 48 57) ?_
  exact wp_endb rfl rfl (fb_D_in I v 48 57) ⟨rfl, rfl⟩
def x_D_number (I : Nat → Nat → Int32) (a b : Int32) : Option (Int32 × (Nat → Nat → Int32)) := (x_D_letterAt I (I 63 14)).bind (fun q1 => if f_D_isFigure q1.2 q1.1 = 0 then (some (-1, q1.2)) else ((x_D_letterAt q1.2 (q1.2 63 14)).bind (fun q2 => (x_D_letterAt (zui q2.2 63 14 ((q2.2 63 14) + 1)) ((q2.2 63 14) + 1)).bind (fun q3 => if f_D_isFigure q3.2 q3.1 = 0 then ((x_D_letterAt q3.2 (q3.2 63 14)).bind (fun q4 => if q4.1 = b then (if a < q2.1 - 48 then (some (-1, (zui q4.2 63 14 ((q4.2 63 14) + 1)))) else (some (q2.1 - 48, (zui q4.2 63 14 ((q4.2 63 14) + 1))))) else (some (-1, (zui q4.2 63 14 ((q4.2 63 14) + 1)))))) else ((x_D_letterAt q3.2 (q3.2 63 14)).bind (fun q5 => (x_D_letterAt (zui q5.2 63 14 ((q5.2 63 14) + 1)) ((q5.2 63 14) + 1)).bind (fun q6 => if q6.1 = b then (if a < ((10 * (q2.1 - 48)) + q5.1) - 48 then (some (-1, (zui q6.2 63 14 ((q6.2 63 14) + 1)))) else (some (((10 * (q2.1 - 48)) + q5.1) - 48, (zui q6.2 63 14 ((q6.2 63 14) + 1))))) else (some (-1, (zui q6.2 63 14 ((q6.2 63 14) + 1)))))))))))
set_option maxRecDepth 100000 in
theorem xp_D_number {X : Nat × (Nat → Int32)} (I : Nat → Nat → Int32) (P : Nat → Nat → Option Nat) (a b : Int32) (r : Int32 × (Nat → Nat → Int32)) (hx : x_D_number I a b = some r) : Wf X 128 [some (.ref 63), some (.int a), some (.int b), none, none] (zH I P) (some (.int r.1)) (zH r.2 P) := by
  unfold Wf
  unfold x_D_number at hx
  refine wp_blk (pc' := 5) (L' := [some (.ref 63), some (.int a), some (.int b), none, none]) (st' := [.int (I 63 14), .ref 63]) (h' := zH I P) 3 rfl ?_
  obtain ⟨y1, hy1, hx⟩ := zbind hx
  refine wp_callf (d := 129) (as := [.ref 63, .int (I 63 14)]) (rest := []) (Ld := [some (.ref 63), some (.int (I 63 14))]) (pc' := 8) (st' := [.int y1.1]) (r := some (.int y1.1)) (h1 := zH y1.2 P) rfl rfl rfl rfl rfl rfl rfl rfl rfl (xp_D_letterAt _ _ _ _ hy1) ?_
  refine wp_callf (d := 130) (as := [.int y1.1]) (rest := []) (Ld := [some (.int y1.1)]) (pc' := 11) (st' := [.int (f_D_isFigure y1.2 y1.1)]) (r := some (.int (f_D_isFigure y1.2 y1.1))) (h1 := zH y1.2 P) rfl rfl rfl rfl rfl rfl rfl rfl rfl (sp_D_isFigure y1.2 P y1.1) ?_
  refine wp_ne (a := f_D_isFigure y1.2 y1.1) (b := 0) (s1 := (16, [some (.ref 63), some (.int a), some (.int b), none, none], [], zH y1.2 P)) (s2 := (14, [some (.ref 63), some (.int a), some (.int b), none, none], [], zH y1.2 P)) rfl (fun c1 => ?_) (fun c1 => ?_)
  · rw [if_neg c1] at hx
    refine wp_blk (pc' := 21) (L' := [some (.ref 63), some (.int a), some (.int b), none, none]) (st' := [.int (y1.2 63 14), .ref 63]) (h' := zH y1.2 P) 3 rfl ?_
    obtain ⟨y2, hy2, hx⟩ := zbind hx
    refine wp_callf (d := 129) (as := [.ref 63, .int (y1.2 63 14)]) (rest := []) (Ld := [some (.ref 63), some (.int (y1.2 63 14))]) (pc' := 24) (st' := [.int y2.1]) (r := some (.int y2.1)) (h1 := zH y2.2 P) rfl rfl rfl rfl rfl rfl rfl rfl rfl (xp_D_letterAt _ _ _ _ hy2) ?_
    refine wp_blk (pc' := 43) (L' := [some (.ref 63), some (.int a), some (.int b), some (.int (y2.1 - 48)), none]) (st' := [.int ((y2.2 63 14) + 1), .ref 63]) (h' := zH (zui y2.2 63 14 ((y2.2 63 14) + 1)) P) 12 rfl ?_
    obtain ⟨y3, hy3, hx⟩ := zbind hx
    refine wp_callf (d := 129) (as := [.ref 63, .int ((y2.2 63 14) + 1)]) (rest := []) (Ld := [some (.ref 63), some (.int ((y2.2 63 14) + 1))]) (pc' := 46) (st' := [.int y3.1]) (r := some (.int y3.1)) (h1 := zH y3.2 P) rfl rfl rfl rfl rfl rfl rfl rfl rfl (xp_D_letterAt _ _ _ _ hy3) ?_
    refine wp_callf (d := 130) (as := [.int y3.1]) (rest := []) (Ld := [some (.int y3.1)]) (pc' := 49) (st' := [.int (f_D_isFigure y3.2 y3.1)]) (r := some (.int (f_D_isFigure y3.2 y3.1))) (h1 := zH y3.2 P) rfl rfl rfl rfl rfl rfl rfl rfl rfl (sp_D_isFigure y3.2 P y3.1) ?_
    refine wp_eq (a := f_D_isFigure y3.2 y3.1) (b := 0) (s1 := (79, [some (.ref 63), some (.int a), some (.int b), some (.int (y2.1 - 48)), none], [], zH y3.2 P)) (s2 := (52, [some (.ref 63), some (.int a), some (.int b), some (.int (y2.1 - 48)), none], [], zH y3.2 P)) rfl (fun c2 => ?_) (fun c2 => ?_)
    · rw [if_pos c2] at hx
      refine wp_blk (pc' := 84) (L' := [some (.ref 63), some (.int a), some (.int b), some (.int (y2.1 - 48)), none]) (st' := [.int (y3.2 63 14), .ref 63]) (h' := zH y3.2 P) 3 rfl ?_
      obtain ⟨y4, hy4, hx⟩ := zbind hx
      refine wp_callf (d := 129) (as := [.ref 63, .int (y3.2 63 14)]) (rest := []) (Ld := [some (.ref 63), some (.int (y3.2 63 14))]) (pc' := 87) (st' := [.int y4.1]) (r := some (.int y4.1)) (h1 := zH y4.2 P) rfl rfl rfl rfl rfl rfl rfl rfl rfl (xp_D_letterAt _ _ _ _ hy4) ?_
      refine wp_blk (pc' := 88) (L' := [some (.ref 63), some (.int a), some (.int b), some (.int (y2.1 - 48)), none]) (st' := [.int b, .int y4.1]) (h' := zH y4.2 P) 1 rfl ?_
      refine wp_ne (a := y4.1) (b := b) (s1 := (100, [some (.ref 63), some (.int a), some (.int b), some (.int (y2.1 - 48)), none], [], zH y4.2 P)) (s2 := (91, [some (.ref 63), some (.int a), some (.int b), some (.int (y2.1 - 48)), none], [], zH y4.2 P)) rfl (fun c3 => ?_) (fun c3 => ?_)
      · rw [if_neg c3] at hx
        refine wp_blk (pc' := 123) (L' := [some (.ref 63), some (.int a), some (.int b), some (.int (y2.1 - 48)), some (.int 0)]) (st' := [.int (-1)]) (h' := zH (zui y4.2 63 14 ((y4.2 63 14) + 1)) P) 11 rfl ?_
        cases hx
        exact wp_end rfl rfl ⟨rfl, rfl⟩
      · rw [if_pos c3] at hx
        refine wp_blk (pc' := 93) (L' := [some (.ref 63), some (.int a), some (.int b), some (.int (y2.1 - 48)), none]) (st' := [.int a, .int (y2.1 - 48)]) (h' := zH y4.2 P) 2 rfl ?_
        refine wp_gt (a := y2.1 - 48) (b := a) (s1 := (100, [some (.ref 63), some (.int a), some (.int b), some (.int (y2.1 - 48)), none], [], zH y4.2 P)) (s2 := (96, [some (.ref 63), some (.int a), some (.int b), some (.int (y2.1 - 48)), none], [], zH y4.2 P)) rfl (fun c4 => ?_) (fun c4 => ?_)
        · rw [if_pos c4] at hx
          refine wp_blk (pc' := 123) (L' := [some (.ref 63), some (.int a), some (.int b), some (.int (y2.1 - 48)), some (.int 0)]) (st' := [.int (-1)]) (h' := zH (zui y4.2 63 14 ((y4.2 63 14) + 1)) P) 11 rfl ?_
          cases hx
          exact wp_end rfl rfl ⟨rfl, rfl⟩
        · rw [if_neg c4] at hx
          refine wp_blk (pc' := 123) (L' := [some (.ref 63), some (.int a), some (.int b), some (.int (y2.1 - 48)), some (.int 1)]) (st' := [.int (y2.1 - 48)]) (h' := zH (zui y4.2 63 14 ((y4.2 63 14) + 1)) P) 13 rfl ?_
          cases hx
          exact wp_end rfl rfl ⟨rfl, rfl⟩
    · rw [if_neg c2] at hx
      refine wp_blk (pc' := 61) (L' := [some (.ref 63), some (.int a), some (.int b), some (.int (y2.1 - 48)), none]) (st' := [.int (y3.2 63 14), .ref 63, .int (10 * (y2.1 - 48))]) (h' := zH y3.2 P) 6 rfl ?_
      obtain ⟨y5, hy5, hx⟩ := zbind hx
      refine wp_callf (d := 129) (as := [.ref 63, .int (y3.2 63 14)]) (rest := [.int (10 * (y2.1 - 48))]) (Ld := [some (.ref 63), some (.int (y3.2 63 14))]) (pc' := 64) (st' := [.int y5.1, .int (10 * (y2.1 - 48))]) (r := some (.int y5.1)) (h1 := zH y5.2 P) rfl rfl rfl rfl rfl rfl rfl rfl rfl (xp_D_letterAt _ _ _ _ hy5) ?_
      refine wp_blk (pc' := 84) (L' := [some (.ref 63), some (.int a), some (.int b), some (.int (((10 * (y2.1 - 48)) + y5.1) - 48)), none]) (st' := [.int ((y5.2 63 14) + 1), .ref 63]) (h' := zH (zui y5.2 63 14 ((y5.2 63 14) + 1)) P) 13 rfl ?_
      obtain ⟨y6, hy6, hx⟩ := zbind hx
      refine wp_callf (d := 129) (as := [.ref 63, .int ((y5.2 63 14) + 1)]) (rest := []) (Ld := [some (.ref 63), some (.int ((y5.2 63 14) + 1))]) (pc' := 87) (st' := [.int y6.1]) (r := some (.int y6.1)) (h1 := zH y6.2 P) rfl rfl rfl rfl rfl rfl rfl rfl rfl (xp_D_letterAt _ _ _ _ hy6) ?_
      refine wp_blk (pc' := 88) (L' := [some (.ref 63), some (.int a), some (.int b), some (.int (((10 * (y2.1 - 48)) + y5.1) - 48)), none]) (st' := [.int b, .int y6.1]) (h' := zH y6.2 P) 1 rfl ?_
      refine wp_ne (a := y6.1) (b := b) (s1 := (100, [some (.ref 63), some (.int a), some (.int b), some (.int (((10 * (y2.1 - 48)) + y5.1) - 48)), none], [], zH y6.2 P)) (s2 := (91, [some (.ref 63), some (.int a), some (.int b), some (.int (((10 * (y2.1 - 48)) + y5.1) - 48)), none], [], zH y6.2 P)) rfl (fun c5 => ?_) (fun c5 => ?_)
      · rw [if_neg c5] at hx
        refine wp_blk (pc' := 123) (L' := [some (.ref 63), some (.int a), some (.int b), some (.int (((10 * (y2.1 - 48)) + y5.1) - 48)), some (.int 0)]) (st' := [.int (-1)]) (h' := zH (zui y6.2 63 14 ((y6.2 63 14) + 1)) P) 11 rfl ?_
        cases hx
        exact wp_end rfl rfl ⟨rfl, rfl⟩
      · rw [if_pos c5] at hx
        refine wp_blk (pc' := 93) (L' := [some (.ref 63), some (.int a), some (.int b), some (.int (((10 * (y2.1 - 48)) + y5.1) - 48)), none]) (st' := [.int a, .int (((10 * (y2.1 - 48)) + y5.1) - 48)]) (h' := zH y6.2 P) 2 rfl ?_
        refine wp_gt (a := ((10 * (y2.1 - 48)) + y5.1) - 48) (b := a) (s1 := (100, [some (.ref 63), some (.int a), some (.int b), some (.int (((10 * (y2.1 - 48)) + y5.1) - 48)), none], [], zH y6.2 P)) (s2 := (96, [some (.ref 63), some (.int a), some (.int b), some (.int (((10 * (y2.1 - 48)) + y5.1) - 48)), none], [], zH y6.2 P)) rfl (fun c6 => ?_) (fun c6 => ?_)
        · rw [if_pos c6] at hx
          refine wp_blk (pc' := 123) (L' := [some (.ref 63), some (.int a), some (.int b), some (.int (((10 * (y2.1 - 48)) + y5.1) - 48)), some (.int 0)]) (st' := [.int (-1)]) (h' := zH (zui y6.2 63 14 ((y6.2 63 14) + 1)) P) 11 rfl ?_
          cases hx
          exact wp_end rfl rfl ⟨rfl, rfl⟩
        · rw [if_neg c6] at hx
          refine wp_blk (pc' := 123) (L' := [some (.ref 63), some (.int a), some (.int b), some (.int (((10 * (y2.1 - 48)) + y5.1) - 48)), some (.int 1)]) (st' := [.int (((10 * (y2.1 - 48)) + y5.1) - 48)]) (h' := zH (zui y6.2 63 14 ((y6.2 63 14) + 1)) P) 13 rfl ?_
          cases hx
          exact wp_end rfl rfl ⟨rfl, rfl⟩
  · rw [if_pos c1] at hx
    refine wp_blk (pc' := 15) (L' := [some (.ref 63), some (.int a), some (.int b), none, none]) (st' := [.int (-1)]) (h' := zH y1.2 P) 1 rfl ?_
    cases hx
    exact wp_end rfl rfl ⟨rfl, rfl⟩
def l_D_begins_7 : Nat → (Nat → Nat → Int32) → Int32 → Option (Int32 × (Nat → Nat → Int32))
  | 0, _, _ => none
  | n + 1, I, x1 => if 45 ≤ x1 then (some (0, (zui I 67 43 4))) else (if 6 ≤ x1 then (if 42 ≤ x1 then (if zinb x1 45 = true then (l_D_begins_7 n (zui I 67 x1.toNatClampNeg 0) (x1 + 1)) else none) else (if zinb x1 45 = true then (l_D_begins_7 n (zui I 67 x1.toNatClampNeg 3) (x1 + 1)) else none)) else (if zinb x1 45 = true then (l_D_begins_7 n (zui I 67 x1.toNatClampNeg x1) (x1 + 1)) else none))
def x_D_begins (I : Nat → Nat → Int32) : Option (Int32 × (Nat → Nat → Int32)) := l_D_begins_7 1000 (zui I 63 4 0) 0
set_option maxRecDepth 100000 in
theorem lp_D_begins_7 {X : Nat × (Nat → Int32)} (P : Nat → Nat → Option Nat) : ∀ (n : Nat) (I : Nat → Nat → Int32) (x1 : Int32) (r : Int32 × (Nat → Nat → Int32)), l_D_begins_7 n I x1 = some r → Wp X 118 7 [some (.ref 63), some (.int x1)] [] (zH I P) (fun r2 h2 => r2 = none ∧ h2 = zH r.2 P) := by
  intro n
  induction n with
  | zero => intro I x1 r hx; cases hx
  | succ n ih =>
    intro I x1 r hx
    rw [l_D_begins_7] at hx
    refine wp_blk (pc' := 10) (L' := [some (.ref 63), some (.int x1)]) (st' := [.int 45, .int x1]) (h' := zH I P) 2 rfl ?_
    refine wp_ge (a := x1) (b := 45) (s1 := (46, [some (.ref 63), some (.int x1)], [], zH I P)) (s2 := (13, [some (.ref 63), some (.int x1)], [], zH I P)) rfl (fun c1 => ?_) (fun c1 => ?_)
    · rw [if_pos c1] at hx
      refine wp_blk (pc' := 54) (L' := [some (.ref 63), some (.int x1)]) (st' := []) (h' := zH (zui I 67 43 4) P) 5 rfl ?_
      cases hx
      exact wp_end rfl rfl ⟨rfl, rfl⟩
    · rw [if_neg c1] at hx
      refine wp_blk (pc' := 21) (L' := [some (.ref 63), some (.int x1)]) (st' := [.int 6, .int x1, .int x1, .ref 67]) (h' := zH I P) 5 rfl ?_
      refine wp_ge (a := x1) (b := 6) (s1 := (28, [some (.ref 63), some (.int x1)], [.int x1, .ref 67], zH I P)) (s2 := (24, [some (.ref 63), some (.int x1)], [.int x1, .ref 67], zH I P)) rfl (fun c2 => ?_) (fun c2 => ?_)
      · rw [if_pos c2] at hx
        refine wp_blk (pc' := 31) (L' := [some (.ref 63), some (.int x1)]) (st' := [.int 42, .int x1, .int x1, .ref 67]) (h' := zH I P) 2 rfl ?_
        refine wp_ge (a := x1) (b := 42) (s1 := (38, [some (.ref 63), some (.int x1)], [.int x1, .ref 67], zH I P)) (s2 := (34, [some (.ref 63), some (.int x1)], [.int x1, .ref 67], zH I P)) rfl (fun c3 => ?_) (fun c3 => ?_)
        · rw [if_pos c3] at hx
          refine wp_blk (pc' := 39) (L' := [some (.ref 63), some (.int x1)]) (st' := [.int 0, .int x1, .ref 67]) (h' := zH I P) 1 rfl ?_
          obtain ⟨c4, hx⟩ := zite hx
          refine wp_chk (P := zinb x1 45 = true) (pc' := 40) (L' := [some (.ref 63), some (.int x1)]) (st' := []) (h' := zH (zui I 67 x1.toNatClampNeg 0) P) rfl c4 ?_
          refine wp_blk (pc' := 7) (L' := [some (.ref 63), some (.int (x1 + 1))]) (st' := []) (h' := zH (zui I 67 x1.toNatClampNeg 0) P) 2 rfl ?_
          exact ih _ _ _ hx
        · rw [if_neg c3] at hx
          refine wp_blk (pc' := 39) (L' := [some (.ref 63), some (.int x1)]) (st' := [.int 3, .int x1, .ref 67]) (h' := zH I P) 2 rfl ?_
          obtain ⟨c5, hx⟩ := zite hx
          refine wp_chk (P := zinb x1 45 = true) (pc' := 40) (L' := [some (.ref 63), some (.int x1)]) (st' := []) (h' := zH (zui I 67 x1.toNatClampNeg 3) P) rfl c5 ?_
          refine wp_blk (pc' := 7) (L' := [some (.ref 63), some (.int (x1 + 1))]) (st' := []) (h' := zH (zui I 67 x1.toNatClampNeg 3) P) 2 rfl ?_
          exact ih _ _ _ hx
      · rw [if_neg c2] at hx
        refine wp_blk (pc' := 39) (L' := [some (.ref 63), some (.int x1)]) (st' := [.int x1, .int x1, .ref 67]) (h' := zH I P) 2 rfl ?_
        obtain ⟨c6, hx⟩ := zite hx
        refine wp_chk (P := zinb x1 45 = true) (pc' := 40) (L' := [some (.ref 63), some (.int x1)]) (st' := []) (h' := zH (zui I 67 x1.toNatClampNeg x1) P) rfl c6 ?_
        refine wp_blk (pc' := 7) (L' := [some (.ref 63), some (.int (x1 + 1))]) (st' := []) (h' := zH (zui I 67 x1.toNatClampNeg x1) P) 2 rfl ?_
        exact ih _ _ _ hx
set_option maxRecDepth 100000 in
theorem xp_D_begins {X : Nat × (Nat → Int32)} (I : Nat → Nat → Int32) (P : Nat → Nat → Option Nat) (r : Int32 × (Nat → Nat → Int32)) (hx : x_D_begins I = some r) : Wf X 118 [some (.ref 63), none] (zH I P) (none) (zH r.2 P) := by
  unfold Wf
  unfold x_D_begins at hx
  refine wp_blk (pc' := 7) (L' := [some (.ref 63), some (.int 0)]) (st' := []) (h' := zH (zui I 63 4 0) P) 5 rfl ?_
  exact lp_D_begins_7 P _ _ _ _ hx
def x_D_customerOf (I : Nat → Nat → Int32) (k : Int32) : Option (Int32 × (Nat → Nat → Int32)) := if zinb (I 63 4) 6 = true then (some (0, (zui (zui I 66 ((I 63 4).toNatClampNeg) k) 63 4 ((I 63 4) + 1)))) else none
set_option maxRecDepth 100000 in
theorem xp_D_customerOf {X : Nat × (Nat → Int32)} (I : Nat → Nat → Int32) (P : Nat → Nat → Option Nat) (k : Int32) (r : Int32 × (Nat → Nat → Int32)) (hx : x_D_customerOf I k = some r) : Wf X 119 [some (.ref 63), some (.int k)] (zH I P) (none) (zH r.2 P) := by
  unfold Wf
  unfold x_D_customerOf at hx
  refine wp_blk (pc' := 9) (L' := [some (.ref 63), some (.int k)]) (st' := [.int k, .int (I 63 4), .ref 66]) (h' := zH I P) 5 rfl ?_
  obtain ⟨c1, hx⟩ := zite hx
  refine wp_chk (P := zinb (I 63 4) 6 = true) (pc' := 10) (L' := [some (.ref 63), some (.int k)]) (st' := []) (h' := zH (zui I 66 ((I 63 4).toNatClampNeg) k) P) rfl c1 ?_
  refine wp_blk (pc' := 20) (L' := [some (.ref 63), some (.int k)]) (st' := []) (h' := zH (zui (zui I 66 ((I 63 4).toNatClampNeg) k) 63 4 ((I 63 4) + 1)) P) 6 rfl ?_
  cases hx
  exact wp_end rfl rfl ⟨rfl, rfl⟩
def x_D_wordOf (I : Nat → Nat → Int32) (i j v : Int32) : Option (Int32 × (Nat → Nat → Int32)) := if zinb ((6 + (6 * i)) + j) 45 = true then (some (0, (zui I 67 (((6 + (6 * i)) + j).toNatClampNeg) v))) else none
set_option maxRecDepth 100000 in
theorem xp_D_wordOf {X : Nat × (Nat → Int32)} (I : Nat → Nat → Int32) (P : Nat → Nat → Option Nat) (i j v : Int32) (r : Int32 × (Nat → Nat → Int32)) (hx : x_D_wordOf I i j v = some r) : Wf X 120 [some (.ref 63), some (.int i), some (.int j), some (.int v)] (zH I P) (none) (zH r.2 P) := by
  unfold Wf
  unfold x_D_wordOf at hx
  refine wp_blk (pc' := 14) (L' := [some (.ref 63), some (.int i), some (.int j), some (.int v)]) (st' := [.int v, .int ((6 + (6 * i)) + j), .ref 67]) (h' := zH I P) 10 rfl ?_
  obtain ⟨c1, hx⟩ := zite hx
  refine wp_chk (P := zinb ((6 + (6 * i)) + j) 45 = true) (pc' := 15) (L' := [some (.ref 63), some (.int i), some (.int j), some (.int v)]) (st' := []) (h' := zH (zui I 67 (((6 + (6 * i)) + j).toNatClampNeg) v) P) rfl c1 ?_
  cases hx
  exact wp_end rfl rfl ⟨rfl, rfl⟩
def x_D_readsItem (I : Nat → Nat → Int32) (l : Int32) : Option (Int32 × (Nat → Nat → Int32)) := if l = 97 then ((x_D_number I ((I 63 4) - 1) 59).bind (fun q1 => if 0 ≤ q1.1 then (if q1.1 < 0 then (some (0, (zui q1.2 67 42 ((q1.2 67 42) ||| (1 <<< (q1.1 &&& 31)))))) else (some (1, (zui q1.2 67 42 ((q1.2 67 42) ||| (1 <<< (q1.1 &&& 31))))))) else (if q1.1 < 0 then (some (0, (zui q1.2 67 42 ((q1.2 67 42) ||| 0)))) else (some (1, (zui q1.2 67 42 ((q1.2 67 42) ||| 0))))))) else (if l = 99 then ((x_D_number I 4 59).bind (fun q2 => if q2.1 < 0 then (some (0, q2.2)) else (if q2.2 63 4 = 6 then (some (0, q2.2)) else ((x_D_customerOf q2.2 q2.1).bind (fun q3 => some (1, q3.2)))))) else (if l = 111 then ((x_D_number I ((I 63 4) - 1) 44).bind (fun q4 => if 0 ≤ q4.1 then ((x_D_number q4.2 ((q4.2 63 4) - 1) 44).bind (fun q5 => if 0 ≤ q5.1 then ((x_D_number q5.2 6 59).bind (fun q6 => if q6.1 < 0 then (some (0, q6.2)) else (if q4.1 = q5.1 then (some (0, q6.2)) else ((x_D_wordOf q6.2 q4.1 q5.1 q6.1).bind (fun q7 => some (1, q7.2)))))) else (some (0, q5.2)))) else (some (0, q4.2)))) else (if l = 115 then ((x_D_number I 9 59).bind (fun q8 => if q8.1 < 0 then (some (0, (zui q8.2 67 43 q8.1))) else (some (1, (zui q8.2 67 43 q8.1))))) else (some (0, I)))))
set_option maxRecDepth 100000 in
theorem xp_D_readsItem {X : Nat × (Nat → Int32)} (I : Nat → Nat → Int32) (P : Nat → Nat → Option Nat) (l : Int32) (r : Int32 × (Nat → Nat → Int32)) (hx : x_D_readsItem I l = some r) : Wf X 127 [some (.ref 63), some (.int l), none, none, none] (zH I P) (some (.int r.1)) (zH r.2 P) := by
  unfold Wf
  unfold x_D_readsItem at hx
  refine wp_blk (pc' := 1) (L' := [some (.ref 63), some (.int l), none, none, none]) (st' := [.int l]) (h' := zH I P) 1 rfl ?_
  by_cases c1 : l = 97
  · rw [if_pos c1] at hx
    refine wp_swk (pc' := 179) (L' := [some (.ref 63), some (.int l), none, none, none]) (st' := []) (h' := zH I P) c1 rfl ?_
    refine wp_blk (pc' := 188) (L' := [some (.ref 63), some (.int l), none, none, none]) (st' := [.int 59, .int ((I 63 4) - 1), .ref 63]) (h' := zH I P) 6 rfl ?_
    obtain ⟨y1, hy1, hx⟩ := zbind hx
    refine wp_callf (d := 128) (as := [.ref 63, .int ((I 63 4) - 1), .int 59]) (rest := []) (Ld := [some (.ref 63), some (.int ((I 63 4) - 1)), some (.int 59), none, none]) (pc' := 191) (st' := [.int y1.1]) (r := some (.int y1.1)) (h1 := zH y1.2 P) rfl rfl rfl rfl rfl rfl rfl rfl rfl (xp_D_number _ _ _ _ _ hy1) ?_
    refine wp_blk (pc' := 201) (L' := [some (.ref 63), some (.int l), some (.int y1.1), none, none]) (st' := [.int y1.1, .int (y1.2 67 42), .int 42, .ref 67]) (h' := zH y1.2 P) 7 rfl ?_
    refine wp_ge (a := y1.1) (b := 0) (s1 := (208, [some (.ref 63), some (.int l), some (.int y1.1), none, none], [.int (y1.2 67 42), .int 42, .ref 67], zH y1.2 P)) (s2 := (204, [some (.ref 63), some (.int l), some (.int y1.1), none, none], [.int (y1.2 67 42), .int 42, .ref 67], zH y1.2 P)) rfl (fun c2 => ?_) (fun c2 => ?_)
    · rw [if_pos c2] at hx
      refine wp_blk (pc' := 214) (L' := [some (.ref 63), some (.int l), some (.int y1.1), none, none]) (st' := [.int y1.1]) (h' := zH (zui y1.2 67 42 ((y1.2 67 42) ||| (1 <<< (y1.1 &&& 31)))) P) 6 rfl ?_
      refine wp_lt (a := y1.1) (b := 0) (s1 := (221, [some (.ref 63), some (.int l), some (.int y1.1), none, none], [], zH (zui y1.2 67 42 ((y1.2 67 42) ||| (1 <<< (y1.1 &&& 31)))) P)) (s2 := (217, [some (.ref 63), some (.int l), some (.int y1.1), none, none], [], zH (zui y1.2 67 42 ((y1.2 67 42) ||| (1 <<< (y1.1 &&& 31)))) P)) rfl (fun c3 => ?_) (fun c3 => ?_)
      · rw [if_pos c3] at hx
        refine wp_blk (pc' := 222) (L' := [some (.ref 63), some (.int l), some (.int y1.1), none, none]) (st' := [.int 0]) (h' := zH (zui y1.2 67 42 ((y1.2 67 42) ||| (1 <<< (y1.1 &&& 31)))) P) 1 rfl ?_
        cases hx
        exact wp_end rfl rfl ⟨rfl, rfl⟩
      · rw [if_neg c3] at hx
        refine wp_blk (pc' := 222) (L' := [some (.ref 63), some (.int l), some (.int y1.1), none, none]) (st' := [.int 1]) (h' := zH (zui y1.2 67 42 ((y1.2 67 42) ||| (1 <<< (y1.1 &&& 31)))) P) 2 rfl ?_
        cases hx
        exact wp_end rfl rfl ⟨rfl, rfl⟩
    · rw [if_neg c2] at hx
      refine wp_blk (pc' := 214) (L' := [some (.ref 63), some (.int l), some (.int y1.1), none, none]) (st' := [.int y1.1]) (h' := zH (zui y1.2 67 42 ((y1.2 67 42) ||| 0)) P) 5 rfl ?_
      refine wp_lt (a := y1.1) (b := 0) (s1 := (221, [some (.ref 63), some (.int l), some (.int y1.1), none, none], [], zH (zui y1.2 67 42 ((y1.2 67 42) ||| 0)) P)) (s2 := (217, [some (.ref 63), some (.int l), some (.int y1.1), none, none], [], zH (zui y1.2 67 42 ((y1.2 67 42) ||| 0)) P)) rfl (fun c4 => ?_) (fun c4 => ?_)
      · rw [if_pos c4] at hx
        refine wp_blk (pc' := 222) (L' := [some (.ref 63), some (.int l), some (.int y1.1), none, none]) (st' := [.int 0]) (h' := zH (zui y1.2 67 42 ((y1.2 67 42) ||| 0)) P) 1 rfl ?_
        cases hx
        exact wp_end rfl rfl ⟨rfl, rfl⟩
      · rw [if_neg c4] at hx
        refine wp_blk (pc' := 222) (L' := [some (.ref 63), some (.int l), some (.int y1.1), none, none]) (st' := [.int 1]) (h' := zH (zui y1.2 67 42 ((y1.2 67 42) ||| 0)) P) 2 rfl ?_
        cases hx
        exact wp_end rfl rfl ⟨rfl, rfl⟩
  rw [if_neg c1] at hx
  by_cases c5 : l = 99
  · rw [if_pos c5] at hx
    refine wp_swk (pc' := 44) (L' := [some (.ref 63), some (.int l), none, none, none]) (st' := []) (h' := zH I P) c5 rfl ?_
    refine wp_blk (pc' := 48) (L' := [some (.ref 63), some (.int l), none, none, none]) (st' := [.int 59, .int 4, .ref 63]) (h' := zH I P) 3 rfl ?_
    obtain ⟨y2, hy2, hx⟩ := zbind hx
    refine wp_callf (d := 128) (as := [.ref 63, .int 4, .int 59]) (rest := []) (Ld := [some (.ref 63), some (.int 4), some (.int 59), none, none]) (pc' := 51) (st' := [.int y2.1]) (r := some (.int y2.1)) (h1 := zH y2.2 P) rfl rfl rfl rfl rfl rfl rfl rfl rfl (xp_D_number _ _ _ _ _ hy2) ?_
    refine wp_blk (pc' := 53) (L' := [some (.ref 63), some (.int l), some (.int y2.1), none, none]) (st' := [.int y2.1]) (h' := zH y2.2 P) 2 rfl ?_
    refine wp_lt (a := y2.1) (b := 0) (s1 := (65, [some (.ref 63), some (.int l), some (.int y2.1), none, none], [], zH y2.2 P)) (s2 := (56, [some (.ref 63), some (.int l), some (.int y2.1), none, none], [], zH y2.2 P)) rfl (fun c6 => ?_) (fun c6 => ?_)
    · rw [if_pos c6] at hx
      refine wp_blk (pc' := 66) (L' := [some (.ref 63), some (.int l), some (.int y2.1), none, none]) (st' := [.int 0]) (h' := zH y2.2 P) 1 rfl ?_
      cases hx
      exact wp_end rfl rfl ⟨rfl, rfl⟩
    · rw [if_neg c6] at hx
      refine wp_blk (pc' := 62) (L' := [some (.ref 63), some (.int l), some (.int y2.1), none, none]) (st' := [.int 6, .int (y2.2 63 4)]) (h' := zH y2.2 P) 3 rfl ?_
      refine wp_ne (a := y2.2 63 4) (b := 6) (s1 := (67, [some (.ref 63), some (.int l), some (.int y2.1), none, none], [], zH y2.2 P)) (s2 := (65, [some (.ref 63), some (.int l), some (.int y2.1), none, none], [], zH y2.2 P)) rfl (fun c7 => ?_) (fun c7 => ?_)
      · rw [if_neg c7] at hx
        refine wp_blk (pc' := 69) (L' := [some (.ref 63), some (.int l), some (.int y2.1), none, none]) (st' := [.int y2.1, .ref 63]) (h' := zH y2.2 P) 2 rfl ?_
        obtain ⟨y3, hy3, hx⟩ := zbind hx
        refine wp_callf (d := 119) (as := [.ref 63, .int y2.1]) (rest := []) (Ld := [some (.ref 63), some (.int y2.1)]) (pc' := 72) (st' := []) (r := none) (h1 := zH y3.2 P) rfl rfl rfl rfl rfl rfl rfl rfl rfl (xp_D_customerOf _ _ _ _ hy3) ?_
        refine wp_blk (pc' := 73) (L' := [some (.ref 63), some (.int l), some (.int y2.1), none, none]) (st' := [.int 1]) (h' := zH y3.2 P) 1 rfl ?_
        cases hx
        exact wp_end rfl rfl ⟨rfl, rfl⟩
      · rw [if_pos c7] at hx
        refine wp_blk (pc' := 66) (L' := [some (.ref 63), some (.int l), some (.int y2.1), none, none]) (st' := [.int 0]) (h' := zH y2.2 P) 1 rfl ?_
        cases hx
        exact wp_end rfl rfl ⟨rfl, rfl⟩
  rw [if_neg c5] at hx
  by_cases c8 : l = 111
  · rw [if_pos c8] at hx
    refine wp_swk (pc' := 74) (L' := [some (.ref 63), some (.int l), none, none, none]) (st' := []) (h' := zH I P) c8 rfl ?_
    refine wp_blk (pc' := 83) (L' := [some (.ref 63), some (.int l), none, none, none]) (st' := [.int 44, .int ((I 63 4) - 1), .ref 63]) (h' := zH I P) 6 rfl ?_
    obtain ⟨y4, hy4, hx⟩ := zbind hx
    refine wp_callf (d := 128) (as := [.ref 63, .int ((I 63 4) - 1), .int 44]) (rest := []) (Ld := [some (.ref 63), some (.int ((I 63 4) - 1)), some (.int 44), none, none]) (pc' := 86) (st' := [.int y4.1]) (r := some (.int y4.1)) (h1 := zH y4.2 P) rfl rfl rfl rfl rfl rfl rfl rfl rfl (xp_D_number _ _ _ _ _ hy4) ?_
    refine wp_blk (pc' := 88) (L' := [some (.ref 63), some (.int l), some (.int y4.1), none, none]) (st' := [.int y4.1]) (h' := zH y4.2 P) 2 rfl ?_
    refine wp_ge (a := y4.1) (b := 0) (s1 := (95, [some (.ref 63), some (.int l), some (.int y4.1), none, none], [], zH y4.2 P)) (s2 := (91, [some (.ref 63), some (.int l), some (.int y4.1), none, none], [], zH y4.2 P)) rfl (fun c9 => ?_) (fun c9 => ?_)
    · rw [if_pos c9] at hx
      refine wp_blk (pc' := 104) (L' := [some (.ref 63), some (.int l), some (.int y4.1), none, none]) (st' := [.int 44, .int ((y4.2 63 4) - 1), .ref 63]) (h' := zH y4.2 P) 6 rfl ?_
      obtain ⟨y5, hy5, hx⟩ := zbind hx
      refine wp_callf (d := 128) (as := [.ref 63, .int ((y4.2 63 4) - 1), .int 44]) (rest := []) (Ld := [some (.ref 63), some (.int ((y4.2 63 4) - 1)), some (.int 44), none, none]) (pc' := 107) (st' := [.int y5.1]) (r := some (.int y5.1)) (h1 := zH y5.2 P) rfl rfl rfl rfl rfl rfl rfl rfl rfl (xp_D_number _ _ _ _ _ hy5) ?_
      refine wp_blk (pc' := 109) (L' := [some (.ref 63), some (.int l), some (.int y4.1), some (.int y5.1), none]) (st' := [.int y5.1]) (h' := zH y5.2 P) 2 rfl ?_
      refine wp_ge (a := y5.1) (b := 0) (s1 := (116, [some (.ref 63), some (.int l), some (.int y4.1), some (.int y5.1), none], [], zH y5.2 P)) (s2 := (112, [some (.ref 63), some (.int l), some (.int y4.1), some (.int y5.1), none], [], zH y5.2 P)) rfl (fun c10 => ?_) (fun c10 => ?_)
      · rw [if_pos c10] at hx
        refine wp_blk (pc' := 121) (L' := [some (.ref 63), some (.int l), some (.int y4.1), some (.int y5.1), none]) (st' := [.int 59, .int 6, .ref 63]) (h' := zH y5.2 P) 3 rfl ?_
        obtain ⟨y6, hy6, hx⟩ := zbind hx
        refine wp_callf (d := 128) (as := [.ref 63, .int 6, .int 59]) (rest := []) (Ld := [some (.ref 63), some (.int 6), some (.int 59), none, none]) (pc' := 124) (st' := [.int y6.1]) (r := some (.int y6.1)) (h1 := zH y6.2 P) rfl rfl rfl rfl rfl rfl rfl rfl rfl (xp_D_number _ _ _ _ _ hy6) ?_
        refine wp_blk (pc' := 128) (L' := [some (.ref 63), some (.int l), some (.int y4.1), some (.int y5.1), some (.int y6.1)]) (st' := [.int y6.1]) (h' := zH y6.2 P) 2 rfl ?_
        refine wp_lt (a := y6.1) (b := 0) (s1 := (136, [some (.ref 63), some (.int l), some (.int y4.1), some (.int y5.1), some (.int y6.1)], [], zH y6.2 P)) (s2 := (131, [some (.ref 63), some (.int l), some (.int y4.1), some (.int y5.1), some (.int y6.1)], [], zH y6.2 P)) rfl (fun c11 => ?_) (fun c11 => ?_)
        · rw [if_pos c11] at hx
          refine wp_blk (pc' := 137) (L' := [some (.ref 63), some (.int l), some (.int y4.1), some (.int y5.1), some (.int y6.1)]) (st' := [.int 0]) (h' := zH y6.2 P) 1 rfl ?_
          cases hx
          exact wp_end rfl rfl ⟨rfl, rfl⟩
        · rw [if_neg c11] at hx
          refine wp_blk (pc' := 133) (L' := [some (.ref 63), some (.int l), some (.int y4.1), some (.int y5.1), some (.int y6.1)]) (st' := [.int y5.1, .int y4.1]) (h' := zH y6.2 P) 2 rfl ?_
          refine wp_ne (a := y4.1) (b := y5.1) (s1 := (138, [some (.ref 63), some (.int l), some (.int y4.1), some (.int y5.1), some (.int y6.1)], [], zH y6.2 P)) (s2 := (136, [some (.ref 63), some (.int l), some (.int y4.1), some (.int y5.1), some (.int y6.1)], [], zH y6.2 P)) rfl (fun c12 => ?_) (fun c12 => ?_)
          · rw [if_neg c12] at hx
            refine wp_blk (pc' := 143) (L' := [some (.ref 63), some (.int l), some (.int y4.1), some (.int y5.1), some (.int y6.1)]) (st' := [.int y6.1, .int y5.1, .int y4.1, .ref 63]) (h' := zH y6.2 P) 4 rfl ?_
            obtain ⟨y7, hy7, hx⟩ := zbind hx
            refine wp_callf (d := 120) (as := [.ref 63, .int y4.1, .int y5.1, .int y6.1]) (rest := []) (Ld := [some (.ref 63), some (.int y4.1), some (.int y5.1), some (.int y6.1)]) (pc' := 146) (st' := []) (r := none) (h1 := zH y7.2 P) rfl rfl rfl rfl rfl rfl rfl rfl rfl (xp_D_wordOf _ _ _ _ _ _ hy7) ?_
            refine wp_blk (pc' := 147) (L' := [some (.ref 63), some (.int l), some (.int y4.1), some (.int y5.1), some (.int y6.1)]) (st' := [.int 1]) (h' := zH y7.2 P) 1 rfl ?_
            cases hx
            exact wp_end rfl rfl ⟨rfl, rfl⟩
          · rw [if_pos c12] at hx
            refine wp_blk (pc' := 137) (L' := [some (.ref 63), some (.int l), some (.int y4.1), some (.int y5.1), some (.int y6.1)]) (st' := [.int 0]) (h' := zH y6.2 P) 1 rfl ?_
            cases hx
            exact wp_end rfl rfl ⟨rfl, rfl⟩
      · rw [if_neg c10] at hx
        refine wp_blk (pc' := 137) (L' := [some (.ref 63), some (.int l), some (.int y4.1), some (.int y5.1), some (.int (-1))]) (st' := [.int 0]) (h' := zH y5.2 P) 6 rfl ?_
        cases hx
        exact wp_end rfl rfl ⟨rfl, rfl⟩
    · rw [if_neg c9] at hx
      refine wp_blk (pc' := 137) (L' := [some (.ref 63), some (.int l), some (.int y4.1), some (.int (-1)), some (.int (-1))]) (st' := [.int 0]) (h' := zH y4.2 P) 11 rfl ?_
      cases hx
      exact wp_end rfl rfl ⟨rfl, rfl⟩
  rw [if_neg c8] at hx
  by_cases c13 : l = 115
  · rw [if_pos c13] at hx
    refine wp_swk (pc' := 148) (L' := [some (.ref 63), some (.int l), none, none, none]) (st' := []) (h' := zH I P) c13 rfl ?_
    refine wp_blk (pc' := 159) (L' := [some (.ref 63), some (.int l), none, none, none]) (st' := [.int 59, .int 9, .ref 63, .int 43, .ref 67]) (h' := zH I P) 6 rfl ?_
    obtain ⟨y8, hy8, hx⟩ := zbind hx
    refine wp_callf (d := 128) (as := [.ref 63, .int 9, .int 59]) (rest := [.int 43, .ref 67]) (Ld := [some (.ref 63), some (.int 9), some (.int 59), none, none]) (pc' := 162) (st' := [.int y8.1, .int 43, .ref 67]) (r := some (.int y8.1)) (h1 := zH y8.2 P) rfl rfl rfl rfl rfl rfl rfl rfl rfl (xp_D_number _ _ _ _ _ hy8) ?_
    refine wp_blk (pc' := 170) (L' := [some (.ref 63), some (.int l), none, none, none]) (st' := [.int y8.1]) (h' := zH (zui y8.2 67 43 y8.1) P) 5 rfl ?_
    refine wp_lt (a := y8.1) (b := 0) (s1 := (177, [some (.ref 63), some (.int l), none, none, none], [], zH (zui y8.2 67 43 y8.1) P)) (s2 := (173, [some (.ref 63), some (.int l), none, none, none], [], zH (zui y8.2 67 43 y8.1) P)) rfl (fun c14 => ?_) (fun c14 => ?_)
    · rw [if_pos c14] at hx
      refine wp_blk (pc' := 178) (L' := [some (.ref 63), some (.int l), none, none, none]) (st' := [.int 0]) (h' := zH (zui y8.2 67 43 y8.1) P) 1 rfl ?_
      cases hx
      exact wp_end rfl rfl ⟨rfl, rfl⟩
    · rw [if_neg c14] at hx
      refine wp_blk (pc' := 178) (L' := [some (.ref 63), some (.int l), none, none, none]) (st' := [.int 1]) (h' := zH (zui y8.2 67 43 y8.1) P) 2 rfl ?_
      cases hx
      exact wp_end rfl rfl ⟨rfl, rfl⟩
  rw [if_neg c13] at hx
  refine wp_lookD rfl rfl rfl (pc2 := 223) rfl (by decide) (by decide) (fun z hz => by simp at hz; rcases hz with rfl | rfl | rfl | rfl <;> first | exact lv_neT c1 rfl | exact lv_neT c5 rfl | exact lv_neT c8 rfl | exact lv_neT c13 rfl) ?_
  refine wp_blk (pc' := 224) (L' := [some (.ref 63), some (.int l), none, none, none]) (st' := [.int 0]) (h' := zH I P) 1 rfl ?_
  cases hx
  exact wp_end rfl rfl ⟨rfl, rfl⟩
def l_D_readsAll_9 : Nat → (Nat → Nat → Int32) → Option (Int32 × (Nat → Nat → Int32))
  | 0, _ => none
  | n + 1, I => if I 63 1 ≤ I 63 14 then (some (-4, I)) else (if zinb (I 63 14) 200 = true then ((x_D_readsItem (zui I 63 14 ((I 63 14) + 1)) (I 64 ((I 63 14).toNatClampNeg))).bind (fun q2 => if q2.1 = 0 then (some (I 63 14, q2.2)) else (l_D_readsAll_9 n q2.2))) else none)
def x_D_readsAll (I : Nat → Nat → Int32) : Option (Int32 × (Nat → Nat → Int32)) := (x_D_begins I).bind (fun q1 => l_D_readsAll_9 1000 (zui q1.2 63 14 0))
set_option maxRecDepth 100000 in
theorem lp_D_readsAll_9 {X : Nat × (Nat → Int32)} (P : Nat → Nat → Option Nat) : ∀ (n : Nat) (I : Nat → Nat → Int32) (r : Int32 × (Nat → Nat → Int32)), l_D_readsAll_9 n I = some r → Wp X 126 9 [some (.ref 63), none] [] (zH I P) (fun r2 h2 => r2 = some (.int r.1) ∧ h2 = zH r.2 P) := by
  intro n
  induction n with
  | zero => intro I r hx; cases hx
  | succ n ih =>
    intro I r hx
    rw [l_D_readsAll_9] at hx
    refine wp_blk (pc' := 17) (L' := [some (.ref 63), none]) (st' := [.int (I 63 1), .int (I 63 14)]) (h' := zH I P) 4 rfl ?_
    refine wp_ge (a := I 63 14) (b := I 63 1) (s1 := (53, [some (.ref 63), none], [], zH I P)) (s2 := (20, [some (.ref 63), none], [], zH I P)) rfl (fun c1 => ?_) (fun c1 => ?_)
    · rw [if_pos c1] at hx
      refine wp_blk (pc' := 55) (L' := [some (.ref 63), none]) (st' := [.int (-4)]) (h' := zH I P) 1 rfl ?_
      cases hx
      exact wp_end rfl rfl ⟨rfl, rfl⟩
    · rw [if_neg c1] at hx
      refine wp_blk (pc' := 41) (L' := [some (.ref 63), some (.int (I 63 14))]) (st' := [.int (I 63 14), .ref 64, .ref 63]) (h' := zH (zui I 63 14 ((I 63 14) + 1)) P) 13 rfl ?_
      obtain ⟨c2, hx⟩ := zite hx
      refine wp_chk (P := zinb (I 63 14) 200 = true) (pc' := 42) (L' := [some (.ref 63), some (.int (I 63 14))]) (st' := [.int (I 64 ((I 63 14).toNatClampNeg)), .ref 63]) (h' := zH (zui I 63 14 ((I 63 14) + 1)) P) rfl c2 ?_
      obtain ⟨y1, hy1, hx⟩ := zbind hx
      refine wp_callf (d := 127) (as := [.ref 63, .int (I 64 ((I 63 14).toNatClampNeg))]) (rest := []) (Ld := [some (.ref 63), some (.int (I 64 ((I 63 14).toNatClampNeg))), none, none, none]) (pc' := 45) (st' := [.int y1.1]) (r := some (.int y1.1)) (h1 := zH y1.2 P) rfl rfl rfl rfl rfl rfl rfl rfl rfl (xp_D_readsItem _ _ _ _ hy1) ?_
      refine wp_ne (a := y1.1) (b := 0) (s1 := (50, [some (.ref 63), some (.int (I 63 14))], [], zH y1.2 P)) (s2 := (48, [some (.ref 63), some (.int (I 63 14))], [], zH y1.2 P)) rfl (fun c3 => ?_) (fun c3 => ?_)
      · rw [if_neg c3] at hx
        refine wp_blk (pc' := 9) (L' := [some (.ref 63), some (.int (I 63 14))]) (st' := []) (h' := zH y1.2 P) 1 rfl ?_
        exact wp_forget (ih _  _ hx) (zle_c (zle_n zle_nil))
      · rw [if_pos c3] at hx
        refine wp_blk (pc' := 49) (L' := [some (.ref 63), some (.int (I 63 14))]) (st' := [.int (I 63 14)]) (h' := zH y1.2 P) 1 rfl ?_
        cases hx
        exact wp_end rfl rfl ⟨rfl, rfl⟩
set_option maxRecDepth 100000 in
theorem xp_D_readsAll {X : Nat × (Nat → Int32)} (I : Nat → Nat → Int32) (P : Nat → Nat → Option Nat) (r : Int32 × (Nat → Nat → Int32)) (hx : x_D_readsAll I = some r) : Wf X 126 [some (.ref 63), none] (zH I P) (some (.int r.1)) (zH r.2 P) := by
  unfold Wf
  unfold x_D_readsAll at hx
  refine wp_blk (pc' := 1) (L' := [some (.ref 63), none]) (st' := [.ref 63]) (h' := zH I P) 1 rfl ?_
  obtain ⟨y1, hy1, hx⟩ := zbind hx
  refine wp_callf (d := 118) (as := [.ref 63]) (rest := []) (Ld := [some (.ref 63), none]) (pc' := 4) (st' := []) (r := none) (h1 := zH y1.2 P) rfl rfl rfl rfl rfl rfl rfl rfl rfl (xp_D_begins _ _  _ hy1) ?_
  refine wp_blk (pc' := 9) (L' := [some (.ref 63), none]) (st' := []) (h' := zH (zui y1.2 63 14 0) P) 3 rfl ?_
  exact lp_D_readsAll_9 P _ _  _ hx
def x_D_fault (I : Nat → Nat → Int32) : Option (Int32 × (Nat → Nat → Int32)) := (x_D_readsAll I).bind (fun q1 => some (q1.1, q1.2))
set_option maxRecDepth 100000 in
theorem xp_D_fault {X : Nat × (Nat → Int32)} (I : Nat → Nat → Int32) (P : Nat → Nat → Option Nat) (r : Int32 × (Nat → Nat → Int32)) (hx : x_D_fault I = some r) : Wf X 125 [some (.ref 63)] (zH I P) (some (.int r.1)) (zH r.2 P) := by
  unfold Wf
  unfold x_D_fault at hx
  refine wp_blk (pc' := 1) (L' := [some (.ref 63)]) (st' := [.ref 63]) (h' := zH I P) 1 rfl ?_
  obtain ⟨y1, hy1, hx⟩ := zbind hx
  refine wp_callf (d := 126) (as := [.ref 63]) (rest := []) (Ld := [some (.ref 63), none]) (pc' := 4) (st' := [.int y1.1]) (r := some (.int y1.1)) (h1 := zH y1.2 P) rfl rfl rfl rfl rfl rfl rfl rfl rfl (xp_D_readsAll _ _  _ hy1) ?_
  cases hx
  exact wp_end rfl rfl ⟨rfl, rfl⟩
def l_D_lays_36 : Nat → (Nat → Nat → Int32) → Int32 → Option (Int32 × (Nat → Nat → Int32))
  | 0, _, _ => none
  | n + 1, I, x1 => if 45 ≤ x1 then (some (0, (zui (zui (zui I 63 9 0) 63 11 0) 63 13 0))) else (if zinb x1 45 = true then (if zinb x1 45 = true then (l_D_lays_36 n (zui I 68 x1.toNatClampNeg (I 67 x1.toNatClampNeg)) (x1 + 1)) else none) else none)
def l_D_lays_10 : Nat → (Nat → Nat → Int32) → Int32 → Option (Int32 × (Nat → Nat → Int32))
  | 0, _, _ => none
  | n + 1, I, x1 => if 6 ≤ x1 then (l_D_lays_36 1000 I 0) else (if zinb x1 6 = true then (if zinb x1 6 = true then (l_D_lays_10 n (zui I 65 x1.toNatClampNeg (I 66 x1.toNatClampNeg)) (x1 + 1)) else none) else none)
def x_D_lays (I : Nat → Nat → Int32) : Option (Int32 × (Nat → Nat → Int32)) := l_D_lays_10 1000 (zui I 63 2 (I 63 4)) 0
set_option maxRecDepth 100000 in
theorem lp_D_lays_36 {X : Nat × (Nat → Int32)} (P : Nat → Nat → Option Nat) : ∀ (n : Nat) (I : Nat → Nat → Int32) (x1 : Int32) (r : Int32 × (Nat → Nat → Int32)), l_D_lays_36 n I x1 = some r → Wp X 121 36 [some (.ref 63), some (.int x1)] [] (zH I P) (fun r2 h2 => r2 = none ∧ h2 = zH r.2 P) := by
  intro n
  induction n with
  | zero => intro I x1 r hx; cases hx
  | succ n ih =>
    intro I x1 r hx
    rw [l_D_lays_36] at hx
    refine wp_blk (pc' := 39) (L' := [some (.ref 63), some (.int x1)]) (st' := [.int 45, .int x1]) (h' := zH I P) 2 rfl ?_
    refine wp_ge (a := x1) (b := 45) (s1 := (60, [some (.ref 63), some (.int x1)], [], zH I P)) (s2 := (42, [some (.ref 63), some (.int x1)], [], zH I P)) rfl (fun c1 => ?_) (fun c1 => ?_)
    · rw [if_pos c1] at hx
      refine wp_blk (pc' := 75) (L' := [some (.ref 63), some (.int x1)]) (st' := []) (h' := zH (zui (zui (zui I 63 9 0) 63 11 0) 63 13 0) P) 9 rfl ?_
      cases hx
      exact wp_end rfl rfl ⟨rfl, rfl⟩
    · rw [if_neg c1] at hx
      refine wp_blk (pc' := 52) (L' := [some (.ref 63), some (.int x1)]) (st' := [.int x1, .ref 67, .int x1, .ref 68]) (h' := zH I P) 6 rfl ?_
      obtain ⟨c2, hx⟩ := zite hx
      refine wp_chk (P := zinb x1 45 = true) (pc' := 53) (L' := [some (.ref 63), some (.int x1)]) (st' := [.int (I 67 x1.toNatClampNeg), .int x1, .ref 68]) (h' := zH I P) rfl c2 ?_
      obtain ⟨c3, hx⟩ := zite hx
      refine wp_chk (P := zinb x1 45 = true) (pc' := 54) (L' := [some (.ref 63), some (.int x1)]) (st' := []) (h' := zH (zui I 68 x1.toNatClampNeg (I 67 x1.toNatClampNeg)) P) rfl c3 ?_
      refine wp_blk (pc' := 36) (L' := [some (.ref 63), some (.int (x1 + 1))]) (st' := []) (h' := zH (zui I 68 x1.toNatClampNeg (I 67 x1.toNatClampNeg)) P) 2 rfl ?_
      exact ih _ _ _ hx
set_option maxRecDepth 100000 in
theorem lp_D_lays_10 {X : Nat × (Nat → Int32)} (P : Nat → Nat → Option Nat) : ∀ (n : Nat) (I : Nat → Nat → Int32) (x1 : Int32) (r : Int32 × (Nat → Nat → Int32)), l_D_lays_10 n I x1 = some r → Wp X 121 10 [some (.ref 63), some (.int x1)] [] (zH I P) (fun r2 h2 => r2 = none ∧ h2 = zH r.2 P) := by
  intro n
  induction n with
  | zero => intro I x1 r hx; cases hx
  | succ n ih =>
    intro I x1 r hx
    rw [l_D_lays_10] at hx
    refine wp_blk (pc' := 13) (L' := [some (.ref 63), some (.int x1)]) (st' := [.int 6, .int x1]) (h' := zH I P) 2 rfl ?_
    refine wp_ge (a := x1) (b := 6) (s1 := (34, [some (.ref 63), some (.int x1)], [], zH I P)) (s2 := (16, [some (.ref 63), some (.int x1)], [], zH I P)) rfl (fun c1 => ?_) (fun c1 => ?_)
    · rw [if_pos c1] at hx
      refine wp_blk (pc' := 36) (L' := [some (.ref 63), some (.int 0)]) (st' := []) (h' := zH I P) 2 rfl ?_
      exact lp_D_lays_36 P _ _ _ _ hx
    · rw [if_neg c1] at hx
      refine wp_blk (pc' := 26) (L' := [some (.ref 63), some (.int x1)]) (st' := [.int x1, .ref 66, .int x1, .ref 65]) (h' := zH I P) 6 rfl ?_
      obtain ⟨c2, hx⟩ := zite hx
      refine wp_chk (P := zinb x1 6 = true) (pc' := 27) (L' := [some (.ref 63), some (.int x1)]) (st' := [.int (I 66 x1.toNatClampNeg), .int x1, .ref 65]) (h' := zH I P) rfl c2 ?_
      obtain ⟨c3, hx⟩ := zite hx
      refine wp_chk (P := zinb x1 6 = true) (pc' := 28) (L' := [some (.ref 63), some (.int x1)]) (st' := []) (h' := zH (zui I 65 x1.toNatClampNeg (I 66 x1.toNatClampNeg)) P) rfl c3 ?_
      refine wp_blk (pc' := 10) (L' := [some (.ref 63), some (.int (x1 + 1))]) (st' := []) (h' := zH (zui I 65 x1.toNatClampNeg (I 66 x1.toNatClampNeg)) P) 2 rfl ?_
      exact ih _ _ _ hx
set_option maxRecDepth 100000 in
theorem xp_D_lays {X : Nat × (Nat → Int32)} (I : Nat → Nat → Int32) (P : Nat → Nat → Option Nat) (r : Int32 × (Nat → Nat → Int32)) (hx : x_D_lays I = some r) : Wf X 121 [some (.ref 63), none] (zH I P) (none) (zH r.2 P) := by
  unfold Wf
  unfold x_D_lays at hx
  refine wp_blk (pc' := 10) (L' := [some (.ref 63), some (.int 0)]) (st' := []) (h' := zH (zui I 63 2 (I 63 4)) P) 6 rfl ?_
  exact lp_D_lays_10 P _ _ _ _ hx
def x_D_lay (I : Nat → Nat → Int32) : Option (Int32 × (Nat → Nat → Int32)) := (x_D_readsAll I).bind (fun q1 => if q1.1 = -4 then (if q1.2 63 4 = 0 then (some (-2, q1.2)) else ((x_D_lays q1.2).bind (fun q2 => some (q2.2 63 2, q2.2)))) else (some (-2, q1.2)))
set_option maxRecDepth 100000 in
theorem xp_D_lay {X : Nat × (Nat → Int32)} (I : Nat → Nat → Int32) (P : Nat → Nat → Option Nat) (r : Int32 × (Nat → Nat → Int32)) (hx : x_D_lay I = some r) : Wf X 131 [some (.ref 63)] (zH I P) (some (.int r.1)) (zH r.2 P) := by
  unfold Wf
  unfold x_D_lay at hx
  refine wp_blk (pc' := 1) (L' := [some (.ref 63)]) (st' := [.ref 63]) (h' := zH I P) 1 rfl ?_
  obtain ⟨y1, hy1, hx⟩ := zbind hx
  refine wp_callf (d := 126) (as := [.ref 63]) (rest := []) (Ld := [some (.ref 63), none]) (pc' := 4) (st' := [.int y1.1]) (r := some (.int y1.1)) (h1 := zH y1.2 P) rfl rfl rfl rfl rfl rfl rfl rfl rfl (xp_D_readsAll _ _  _ hy1) ?_
  refine wp_blk (pc' := 6) (L' := [some (.ref 63)]) (st' := [.int (-4), .int y1.1]) (h' := zH y1.2 P) 1 rfl ?_
  refine wp_ne (a := y1.1) (b := -4) (s1 := (16, [some (.ref 63)], [], zH y1.2 P)) (s2 := (9, [some (.ref 63)], [], zH y1.2 P)) rfl (fun c1 => ?_) (fun c1 => ?_)
  · rw [if_neg c1] at hx
    refine wp_blk (pc' := 18) (L' := [some (.ref 63)]) (st' := [.int (-2)]) (h' := zH y1.2 P) 1 rfl ?_
    cases hx
    exact wp_end rfl rfl ⟨rfl, rfl⟩
  · rw [if_pos c1] at hx
    refine wp_blk (pc' := 13) (L' := [some (.ref 63)]) (st' := [.int (y1.2 63 4)]) (h' := zH y1.2 P) 2 rfl ?_
    refine wp_ne (a := y1.2 63 4) (b := 0) (s1 := (19, [some (.ref 63)], [], zH y1.2 P)) (s2 := (16, [some (.ref 63)], [], zH y1.2 P)) rfl (fun c2 => ?_) (fun c2 => ?_)
    · rw [if_neg c2] at hx
      refine wp_blk (pc' := 20) (L' := [some (.ref 63)]) (st' := [.ref 63]) (h' := zH y1.2 P) 1 rfl ?_
      obtain ⟨y2, hy2, hx⟩ := zbind hx
      refine wp_callf (d := 121) (as := [.ref 63]) (rest := []) (Ld := [some (.ref 63), none]) (pc' := 23) (st' := []) (r := none) (h1 := zH y2.2 P) rfl rfl rfl rfl rfl rfl rfl rfl rfl (xp_D_lays _ _  _ hy2) ?_
      refine wp_blk (pc' := 27) (L' := [some (.ref 63)]) (st' := [.int (y2.2 63 2)]) (h' := zH y2.2 P) 2 rfl ?_
      cases hx
      exact wp_end rfl rfl ⟨rfl, rfl⟩
    · rw [if_pos c2] at hx
      refine wp_blk (pc' := 18) (L' := [some (.ref 63)]) (st' := [.int (-2)]) (h' := zH y1.2 P) 1 rfl ?_
      cases hx
      exact wp_end rfl rfl ⟨rfl, rfl⟩
def l_D_placeOf_4 : Nat → (Nat → Nat → Int32) → Int32 → Int32 → Int32 → Option (Int32 × (Nat → Nat → Int32))
  | 0, _, _, _, _ => none
  | n + 1, I, x1, x2, x3 => if I 63 2 ≤ x3 then (some (x2, I)) else (if zinb x3 45 = true then (if I 68 x3.toNatClampNeg = x1 then (l_D_placeOf_4 n I x1 x3 (x3 + 1)) else (l_D_placeOf_4 n I x1 x2 (x3 + 1))) else none)
def x_D_placeOf (I : Nat → Nat → Int32) (c : Int32) : Option (Int32 × (Nat → Nat → Int32)) := l_D_placeOf_4 1000 I c 0 0
set_option maxRecDepth 100000 in
theorem lp_D_placeOf_4 {X : Nat × (Nat → Int32)} (P : Nat → Nat → Option Nat) : ∀ (n : Nat) (I : Nat → Nat → Int32) (x1 : Int32) (x2 : Int32) (x3 : Int32) (r : Int32 × (Nat → Nat → Int32)), l_D_placeOf_4 n I x1 x2 x3 = some r → Wp X 134 4 [some (.ref 63), some (.int x1), some (.int x2), some (.int x3)] [] (zH I P) (fun r2 h2 => r2 = some (.int r.1) ∧ h2 = zH r.2 P) := by
  intro n
  induction n with
  | zero => intro I x1 x2 x3 r hx; cases hx
  | succ n ih =>
    intro I x1 x2 x3 r hx
    rw [l_D_placeOf_4] at hx
    refine wp_blk (pc' := 9) (L' := [some (.ref 63), some (.int x1), some (.int x2), some (.int x3)]) (st' := [.int (I 63 2), .int x3]) (h' := zH I P) 3 rfl ?_
    refine wp_ge (a := x3) (b := I 63 2) (s1 := (34, [some (.ref 63), some (.int x1), some (.int x2), some (.int x3)], [], zH I P)) (s2 := (12, [some (.ref 63), some (.int x1), some (.int x2), some (.int x3)], [], zH I P)) rfl (fun c1 => ?_) (fun c1 => ?_)
    · rw [if_pos c1] at hx
      refine wp_blk (pc' := 35) (L' := [some (.ref 63), some (.int x1), some (.int x2), some (.int x3)]) (st' := [.int x2]) (h' := zH I P) 1 rfl ?_
      cases hx
      exact wp_end rfl rfl ⟨rfl, rfl⟩
    · rw [if_neg c1] at hx
      refine wp_blk (pc' := 17) (L' := [some (.ref 63), some (.int x1), some (.int x2), some (.int x3)]) (st' := [.int x3, .ref 68]) (h' := zH I P) 3 rfl ?_
      obtain ⟨c2, hx⟩ := zite hx
      refine wp_chk (P := zinb x3 45 = true) (pc' := 18) (L' := [some (.ref 63), some (.int x1), some (.int x2), some (.int x3)]) (st' := [.int (I 68 x3.toNatClampNeg)]) (h' := zH I P) rfl c2 ?_
      refine wp_blk (pc' := 19) (L' := [some (.ref 63), some (.int x1), some (.int x2), some (.int x3)]) (st' := [.int x1, .int (I 68 x3.toNatClampNeg)]) (h' := zH I P) 1 rfl ?_
      refine wp_ne (a := I 68 x3.toNatClampNeg) (b := x1) (s1 := (26, [some (.ref 63), some (.int x1), some (.int x2), some (.int x3)], [], zH I P)) (s2 := (22, [some (.ref 63), some (.int x1), some (.int x2), some (.int x3)], [], zH I P)) rfl (fun c3 => ?_) (fun c3 => ?_)
      · rw [if_neg c3] at hx
        refine wp_blk (pc' := 4) (L' := [some (.ref 63), some (.int x1), some (.int x2), some (.int (x3 + 1))]) (st' := []) (h' := zH I P) 4 rfl ?_
        exact ih _ _ _ _ _ hx
      · rw [if_pos c3] at hx
        refine wp_blk (pc' := 4) (L' := [some (.ref 63), some (.int x1), some (.int x3), some (.int (x3 + 1))]) (st' := []) (h' := zH I P) 5 rfl ?_
        exact ih _ _ _ _ _ hx
set_option maxRecDepth 100000 in
theorem xp_D_placeOf {X : Nat × (Nat → Int32)} (I : Nat → Nat → Int32) (P : Nat → Nat → Option Nat) (c : Int32) (r : Int32 × (Nat → Nat → Int32)) (hx : x_D_placeOf I c = some r) : Wf X 134 [some (.ref 63), some (.int c), none, none] (zH I P) (some (.int r.1)) (zH r.2 P) := by
  unfold Wf
  unfold x_D_placeOf at hx
  refine wp_blk (pc' := 4) (L' := [some (.ref 63), some (.int c), some (.int 0), some (.int 0)]) (st' := []) (h' := zH I P) 4 rfl ?_
  exact lp_D_placeOf_4 P _ _ _ _ _ _ hx
def x_D_customer (I : Nat → Nat → Int32) (c w : Int32) : Option (Int32 × (Nat → Nat → Int32)) := if f_D_isOne I c = 0 then (some (-1, I)) else (if f_D_in I w 0 2 = 0 then (some (-1, I)) else (if w = 0 then (if zinb c 6 = true then (some (I 65 c.toNatClampNeg, I)) else none) else (if w = 1 then ((x_D_placeOf I c).bind (fun q1 => some (q1.1, q1.2))) else (if f_D_isAway I c = 0 then (some (0, I)) else (some (1, I))))))
set_option maxRecDepth 100000 in
theorem xp_D_customer {X : Nat × (Nat → Int32)} (I : Nat → Nat → Int32) (P : Nat → Nat → Option Nat) (c w : Int32) (r : Int32 × (Nat → Nat → Int32)) (hx : x_D_customer I c w = some r) : Wf X 132 [some (.ref 63), some (.int c), some (.int w)] (zH I P) (some (.int r.1)) (zH r.2 P) := by
  unfold Wf
  unfold x_D_customer at hx
  refine wp_blk (pc' := 2) (L' := [some (.ref 63), some (.int c), some (.int w)]) (st' := [.int c, .ref 63]) (h' := zH I P) 2 rfl ?_
  refine wp_callf (d := 133) (as := [.ref 63, .int c]) (rest := []) (Ld := [some (.ref 63), some (.int c)]) (pc' := 5) (st' := [.int (f_D_isOne I c)]) (r := some (.int (f_D_isOne I c))) (h1 := zH I P) rfl rfl rfl rfl rfl rfl rfl rfl rfl (sp_D_isOne I P c) ?_
  refine wp_eq (a := f_D_isOne I c) (b := 0) (s1 := (17, [some (.ref 63), some (.int c), some (.int w)], [], zH I P)) (s2 := (8, [some (.ref 63), some (.int c), some (.int w)], [], zH I P)) rfl (fun c1 => ?_) (fun c1 => ?_)
  · rw [if_pos c1] at hx
    refine wp_blk (pc' := 18) (L' := [some (.ref 63), some (.int c), some (.int w)]) (st' := [.int (-1)]) (h' := zH I P) 1 rfl ?_
    cases hx
    exact wp_end rfl rfl ⟨rfl, rfl⟩
  · rw [if_neg c1] at hx
    refine wp_blk (pc' := 11) (L' := [some (.ref 63), some (.int c), some (.int w)]) (st' := [.int 2, .int 0, .int w]) (h' := zH I P) 3 rfl ?_
    refine wp_callf (d := 123) (as := [.int w, .int 0, .int 2]) (rest := []) (Ld := [some (.int w), some (.int 0), some (.int 2)]) (pc' := 14) (st' := [.int (f_D_in I w 0 2)]) (r := some (.int (f_D_in I w 0 2))) (h1 := zH I P) rfl rfl rfl rfl rfl rfl rfl rfl rfl (sp_D_in I P w 0 2) ?_
    refine wp_ne (a := f_D_in I w 0 2) (b := 0) (s1 := (19, [some (.ref 63), some (.int c), some (.int w)], [], zH I P)) (s2 := (17, [some (.ref 63), some (.int c), some (.int w)], [], zH I P)) rfl (fun c2 => ?_) (fun c2 => ?_)
    · rw [if_neg c2] at hx
      refine wp_blk (pc' := 20) (L' := [some (.ref 63), some (.int c), some (.int w)]) (st' := [.int w]) (h' := zH I P) 1 rfl ?_
      refine wp_ne (a := w) (b := 0) (s1 := (32, [some (.ref 63), some (.int c), some (.int w)], [], zH I P)) (s2 := (23, [some (.ref 63), some (.int c), some (.int w)], [], zH I P)) rfl (fun c3 => ?_) (fun c3 => ?_)
      · rw [if_neg c3] at hx
        refine wp_blk (pc' := 34) (L' := [some (.ref 63), some (.int c), some (.int w)]) (st' := [.int 1, .int w]) (h' := zH I P) 2 rfl ?_
        refine wp_ne (a := w) (b := 1) (s1 := (45, [some (.ref 63), some (.int c), some (.int w)], [], zH I P)) (s2 := (37, [some (.ref 63), some (.int c), some (.int w)], [], zH I P)) rfl (fun c4 => ?_) (fun c4 => ?_)
        · rw [if_neg c4] at hx
          refine wp_blk (pc' := 47) (L' := [some (.ref 63), some (.int c), some (.int w)]) (st' := [.int c, .ref 63]) (h' := zH I P) 2 rfl ?_
          refine wp_callf (d := 135) (as := [.ref 63, .int c]) (rest := []) (Ld := [some (.ref 63), some (.int c)]) (pc' := 50) (st' := [.int (f_D_isAway I c)]) (r := some (.int (f_D_isAway I c))) (h1 := zH I P) rfl rfl rfl rfl rfl rfl rfl rfl rfl (sp_D_isAway I P c) ?_
          refine wp_eq (a := f_D_isAway I c) (b := 0) (s1 := (57, [some (.ref 63), some (.int c), some (.int w)], [], zH I P)) (s2 := (53, [some (.ref 63), some (.int c), some (.int w)], [], zH I P)) rfl (fun c5 => ?_) (fun c5 => ?_)
          · rw [if_pos c5] at hx
            refine wp_blk (pc' := 58) (L' := [some (.ref 63), some (.int c), some (.int w)]) (st' := [.int 0]) (h' := zH I P) 1 rfl ?_
            cases hx
            exact wp_end rfl rfl ⟨rfl, rfl⟩
          · rw [if_neg c5] at hx
            refine wp_blk (pc' := 58) (L' := [some (.ref 63), some (.int c), some (.int w)]) (st' := [.int 1]) (h' := zH I P) 2 rfl ?_
            cases hx
            exact wp_end rfl rfl ⟨rfl, rfl⟩
        · rw [if_pos c4] at hx
          refine wp_blk (pc' := 39) (L' := [some (.ref 63), some (.int c), some (.int w)]) (st' := [.int c, .ref 63]) (h' := zH I P) 2 rfl ?_
          obtain ⟨y1, hy1, hx⟩ := zbind hx
          refine wp_callf (d := 134) (as := [.ref 63, .int c]) (rest := []) (Ld := [some (.ref 63), some (.int c), none, none]) (pc' := 42) (st' := [.int y1.1]) (r := some (.int y1.1)) (h1 := zH y1.2 P) rfl rfl rfl rfl rfl rfl rfl rfl rfl (xp_D_placeOf _ _ _ _ hy1) ?_
          refine wp_blk (pc' := 58) (L' := [some (.ref 63), some (.int c), some (.int w)]) (st' := [.int y1.1]) (h' := zH y1.2 P) 1 rfl ?_
          cases hx
          exact wp_end rfl rfl ⟨rfl, rfl⟩
      · rw [if_pos c3] at hx
        refine wp_blk (pc' := 28) (L' := [some (.ref 63), some (.int c), some (.int w)]) (st' := [.int c, .ref 65]) (h' := zH I P) 3 rfl ?_
        obtain ⟨c6, hx⟩ := zite hx
        refine wp_chk (P := zinb c 6 = true) (pc' := 29) (L' := [some (.ref 63), some (.int c), some (.int w)]) (st' := [.int (I 65 c.toNatClampNeg)]) (h' := zH I P) rfl c6 ?_
        refine wp_blk (pc' := 58) (L' := [some (.ref 63), some (.int c), some (.int w)]) (st' := [.int (I 65 c.toNatClampNeg)]) (h' := zH I P) 1 rfl ?_
        cases hx
        exact wp_end rfl rfl ⟨rfl, rfl⟩
    · rw [if_pos c2] at hx
      refine wp_blk (pc' := 18) (L' := [some (.ref 63), some (.int c), some (.int w)]) (st' := [.int (-1)]) (h' := zH I P) 1 rfl ?_
      cases hx
      exact wp_end rfl rfl ⟨rfl, rfl⟩
def x_D_says (I : Nat → Nat → Int32) (i j : Int32) : Option (Int32 × (Nat → Nat → Int32)) := if f_D_areTwo I i j = 0 then (some (-1, I)) else (if zinb ((6 + (6 * i)) + j) 45 = true then (some (I 68 (((6 + (6 * i)) + j).toNatClampNeg), I)) else none)
set_option maxRecDepth 100000 in
theorem xp_D_says {X : Nat × (Nat → Int32)} (I : Nat → Nat → Int32) (P : Nat → Nat → Option Nat) (i j : Int32) (r : Int32 × (Nat → Nat → Int32)) (hx : x_D_says I i j = some r) : Wf X 136 [some (.ref 63), some (.int i), some (.int j)] (zH I P) (some (.int r.1)) (zH r.2 P) := by
  unfold Wf
  unfold x_D_says at hx
  refine wp_blk (pc' := 3) (L' := [some (.ref 63), some (.int i), some (.int j)]) (st' := [.int j, .int i, .ref 63]) (h' := zH I P) 3 rfl ?_
  refine wp_callf (d := 137) (as := [.ref 63, .int i, .int j]) (rest := []) (Ld := [some (.ref 63), some (.int i), some (.int j)]) (pc' := 6) (st' := [.int (f_D_areTwo I i j)]) (r := some (.int (f_D_areTwo I i j))) (h1 := zH I P) rfl rfl rfl rfl rfl rfl rfl rfl rfl (sp_D_areTwo I P i j) ?_
  refine wp_eq (a := f_D_areTwo I i j) (b := 0) (s1 := (26, [some (.ref 63), some (.int i), some (.int j)], [], zH I P)) (s2 := (9, [some (.ref 63), some (.int i), some (.int j)], [], zH I P)) rfl (fun c1 => ?_) (fun c1 => ?_)
  · rw [if_pos c1] at hx
    refine wp_blk (pc' := 27) (L' := [some (.ref 63), some (.int i), some (.int j)]) (st' := [.int (-1)]) (h' := zH I P) 1 rfl ?_
    cases hx
    exact wp_end rfl rfl ⟨rfl, rfl⟩
  · rw [if_neg c1] at hx
    refine wp_blk (pc' := 22) (L' := [some (.ref 63), some (.int i), some (.int j)]) (st' := [.int ((6 + (6 * i)) + j), .ref 68]) (h' := zH I P) 9 rfl ?_
    obtain ⟨c2, hx⟩ := zite hx
    refine wp_chk (P := zinb ((6 + (6 * i)) + j) 45 = true) (pc' := 23) (L' := [some (.ref 63), some (.int i), some (.int j)]) (st' := [.int (I 68 (((6 + (6 * i)) + j).toNatClampNeg))]) (h' := zH I P) rfl c2 ?_
    refine wp_blk (pc' := 27) (L' := [some (.ref 63), some (.int i), some (.int j)]) (st' := [.int (I 68 (((6 + (6 * i)) + j).toNatClampNeg))]) (h' := zH I P) 1 rfl ?_
    cases hx
    exact wp_end rfl rfl ⟨rfl, rfl⟩
