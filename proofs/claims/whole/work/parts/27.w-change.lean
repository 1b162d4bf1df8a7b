/-! THE CLASS: its changes (printed) -/
theorem zkk {I : Nat → Nat → Int32} {k : Nat} (h : f_H2_isFull I = 0) (hI : I 53 1 = nI k) (hk : k < 3) : k < 2 := by
  rcases (by omega : k < 2 ∨ k = 2) with q | q
  · exact q
  · subst q
    exfalso
    unfold f_H2_isFull at h
    rw [hI] at h
    revert h
    decide
def x_G_change (r k : Nat) (I : Nat → Nat → Int32) (a b : Int32) : Option (Int32 × (Nat → Nat → Int32) × Nat) := if f_G_areTwo I a b = 0 then (some (-1, I, r)) else ((x_M_swap 4 5 6 7 (zput19 r k I) a b).bind (fun q1 => (x_M_placeOf 4 5 6 7 q1.2 a).bind (fun q2 => some (q2.1, q2.2, (zrotn r k)))))
set_option maxRecDepth 100000 in
theorem xp_G_change {X : Nat × (Nat → Int32)} (r k : Nat) (hr : r < 8) (hk : k < 9) (I : Nat → Nat → Int32) (hI : I 19 1 = nI k) (a b : Int32) (q : Int32 × (Nat → Nat → Int32) × Nat) (hx : x_G_change r k I a b = some q) : Wf X 64 [some (.ref 0), some (.int a), some (.int b)] (zH I (zPr r)) (some (.int q.1)) (zH q.2.1 (zPr q.2.2)) := by
  unfold Wf
  unfold x_G_change at hx
  refine wp_blk (pc' := 1) (L' := [some (.ref 0), some (.int a), some (.int b)]) (st' := [.ref 0]) (h' := zH I (zPr r)) 1 rfl ?_
  refine wp_blk (pc' := 2) (L' := [some (.ref 0), some (.int a), some (.int b)]) (st' := [.int a, .ref 0]) (h' := zH I (zPr r)) 1 rfl ?_
  refine wp_blk (pc' := 3) (L' := [some (.ref 0), some (.int a), some (.int b)]) (st' := [.int b, .int a, .ref 0]) (h' := zH I (zPr r)) 1 rfl ?_
  refine wp_callf (d := 47) (as := [.ref 0, .int a, .int b]) (rest := []) (Ld := [some (.ref 0), some (.int a), some (.int b)]) (pc' := 6) (st' := [.int (f_G_areTwo I a b)]) (r := some (.int (f_G_areTwo I a b))) (h1 := zH I (zPr r)) rfl rfl rfl rfl rfl rfl rfl rfl rfl (sp_G_areTwo I (zPr r) a b) ?_
  refine wp_ne (a := f_G_areTwo I a b) (b := 0) (s1 := (11, [some (.ref 0), some (.int a), some (.int b)], [], zH I (zPr r))) (s2 := (9, [some (.ref 0), some (.int a), some (.int b)], [], zH I (zPr r))) rfl (fun c1 => ?_) (fun c1 => ?_)
  · rw [if_neg c1] at hx
    refine wp_blk (pc' := 12) (L' := [some (.ref 0), some (.int a), some (.int b)]) (st' := [.ref 0]) (h' := zH I (zPr r)) 1 rfl ?_
    refine wp_blk (pc' := 15) (L' := [some (.ref 0), some (.int a), some (.int b)]) (st' := [.ref 19]) (h' := zH I (zPr r)) 1 rfl ?_
    refine wp_blk (pc' := 16) (L' := [some (.ref 0), some (.int a), some (.int b)]) (st' := [.ref 0, .ref 19]) (h' := zH I (zPr r)) 1 rfl ?_
    refine wp_blk (pc' := 19) (L' := [some (.ref 0), some (.int a), some (.int b)]) (st' := [.ref 4, .ref 19]) (h' := zH I (zPr r)) 1 rfl ?_
    refine wp_callf (d := 65) (as := [.ref 19, .ref 4]) (rest := []) (Ld := [some (.ref 19), some (.ref 4), none]) (pc' := 22) (st' := []) (r := none) (h1 := zH (zput19 r k I) (zPr (zrotn r k))) rfl rfl rfl rfl rfl rfl rfl rfl rfl (wf_put r k hr hk _ hI) ?_
    refine wp_blk (pc' := 23) (L' := [some (.ref 0), some (.int a), some (.int b)]) (st' := [.ref 0]) (h' := zH (zput19 r k I) (zPr (zrotn r k))) 1 rfl ?_
    refine wp_blk (pc' := 26) (L' := [some (.ref 0), some (.int a), some (.int b)]) (st' := [.ref 4]) (h' := zH (zput19 r k I) (zPr (zrotn r k))) 1 rfl ?_
    refine wp_blk (pc' := 27) (L' := [some (.ref 0), some (.int a), some (.int b)]) (st' := [.int a, .ref 4]) (h' := zH (zput19 r k I) (zPr (zrotn r k))) 1 rfl ?_
    refine wp_blk (pc' := 28) (L' := [some (.ref 0), some (.int a), some (.int b)]) (st' := [.int b, .int a, .ref 4]) (h' := zH (zput19 r k I) (zPr (zrotn r k))) 1 rfl ?_
    obtain ⟨y1, hy1, hx⟩ := zbind hx
    refine wp_callf (d := 69) (as := [.ref 4, .int a, .int b]) (rest := []) (Ld := [some (.ref 4), some (.int a), some (.int b), none, none]) (pc' := 31) (st' := []) (r := none) (h1 := zH y1.2 (zPr (zrotn r k))) rfl rfl rfl rfl rfl rfl rfl rfl rfl (xp_M_swap_4 _ _ _ _ _ hy1) ?_
    refine wp_blk (pc' := 32) (L' := [some (.ref 0), some (.int a), some (.int b)]) (st' := [.ref 0]) (h' := zH y1.2 (zPr (zrotn r k))) 1 rfl ?_
    refine wp_blk (pc' := 35) (L' := [some (.ref 0), some (.int a), some (.int b)]) (st' := [.ref 4]) (h' := zH y1.2 (zPr (zrotn r k))) 1 rfl ?_
    refine wp_blk (pc' := 36) (L' := [some (.ref 0), some (.int a), some (.int b)]) (st' := [.int a, .ref 4]) (h' := zH y1.2 (zPr (zrotn r k))) 1 rfl ?_
    obtain ⟨y2, hy2, hx⟩ := zbind hx
    refine wp_callf (d := 42) (as := [.ref 4, .int a]) (rest := []) (Ld := [some (.ref 4), some (.int a), none]) (pc' := 39) (st' := [.int y2.1]) (r := some (.int y2.1)) (h1 := zH y2.2 (zPr (zrotn r k))) rfl rfl rfl rfl rfl rfl rfl rfl rfl (xp_M_placeOf_4 _ _ _ _ hy2) ?_
    cases hx
    exact wp_end rfl rfl ⟨rfl, rfl⟩
  · rw [if_pos c1] at hx
    refine wp_blk (pc' := 10) (L' := [some (.ref 0), some (.int a), some (.int b)]) (st' := [.int (-1)]) (h' := zH I (zPr r)) 1 rfl ?_
    cases hx
    exact wp_end rfl rfl ⟨rfl, rfl⟩
def x_G_away (r k : Nat) (I : Nat → Nat → Int32) (c : Int32) : Option (Int32 × (Nat → Nat → Int32) × Nat) := if f_M_has 4 5 6 7 I c = 0 then (some (-1, I, r)) else (if f_M_isGone 4 5 6 7 (g_M_setGone 4 5 6 7 (zput19 r k I) ((f_M_goneBits 4 5 6 7 (zput19 r k I)) ^^^ (1 <<< (c &&& 31)))) c = 0 then (some (0, (g_M_setGone 4 5 6 7 (zput19 r k I) ((f_M_goneBits 4 5 6 7 (zput19 r k I)) ^^^ (1 <<< (c &&& 31)))), (zrotn r k))) else (some (1, (g_M_setGone 4 5 6 7 (zput19 r k I) ((f_M_goneBits 4 5 6 7 (zput19 r k I)) ^^^ (1 <<< (c &&& 31)))), (zrotn r k))))
set_option maxRecDepth 100000 in
theorem xp_G_away {X : Nat × (Nat → Int32)} (r k : Nat) (hr : r < 8) (hk : k < 9) (I : Nat → Nat → Int32) (hI : I 19 1 = nI k) (c : Int32) (q : Int32 × (Nat → Nat → Int32) × Nat) (hx : x_G_away r k I c = some q) : Wf X 70 [some (.ref 0), some (.int c)] (zH I (zPr r)) (some (.int q.1)) (zH q.2.1 (zPr q.2.2)) := by
  unfold Wf
  unfold x_G_away at hx
  refine wp_blk (pc' := 1) (L' := [some (.ref 0), some (.int c)]) (st' := [.ref 0]) (h' := zH I (zPr r)) 1 rfl ?_
  refine wp_blk (pc' := 4) (L' := [some (.ref 0), some (.int c)]) (st' := [.ref 4]) (h' := zH I (zPr r)) 1 rfl ?_
  refine wp_blk (pc' := 5) (L' := [some (.ref 0), some (.int c)]) (st' := [.int c, .ref 4]) (h' := zH I (zPr r)) 1 rfl ?_
  refine wp_callf (d := 24) (as := [.ref 4, .int c]) (rest := []) (Ld := [some (.ref 4), some (.int c)]) (pc' := 8) (st' := [.int (f_M_has 4 5 6 7 I c)]) (r := some (.int (f_M_has 4 5 6 7 I c))) (h1 := zH I (zPr r)) rfl rfl rfl rfl rfl rfl rfl rfl rfl (sp_M_has_4 I (zPr r) c) ?_
  refine wp_ne (a := f_M_has 4 5 6 7 I c) (b := 0) (s1 := (13, [some (.ref 0), some (.int c)], [], zH I (zPr r))) (s2 := (11, [some (.ref 0), some (.int c)], [], zH I (zPr r))) rfl (fun c1 => ?_) (fun c1 => ?_)
  · rw [if_neg c1] at hx
    refine wp_blk (pc' := 14) (L' := [some (.ref 0), some (.int c)]) (st' := [.ref 0]) (h' := zH I (zPr r)) 1 rfl ?_
    refine wp_blk (pc' := 17) (L' := [some (.ref 0), some (.int c)]) (st' := [.ref 19]) (h' := zH I (zPr r)) 1 rfl ?_
    refine wp_blk (pc' := 18) (L' := [some (.ref 0), some (.int c)]) (st' := [.ref 0, .ref 19]) (h' := zH I (zPr r)) 1 rfl ?_
    refine wp_blk (pc' := 21) (L' := [some (.ref 0), some (.int c)]) (st' := [.ref 4, .ref 19]) (h' := zH I (zPr r)) 1 rfl ?_
    refine wp_callf (d := 65) (as := [.ref 19, .ref 4]) (rest := []) (Ld := [some (.ref 19), some (.ref 4), none]) (pc' := 24) (st' := []) (r := none) (h1 := zH (zput19 r k I) (zPr (zrotn r k))) rfl rfl rfl rfl rfl rfl rfl rfl rfl (wf_put r k hr hk _ hI) ?_
    refine wp_blk (pc' := 25) (L' := [some (.ref 0), some (.int c)]) (st' := [.ref 0]) (h' := zH (zput19 r k I) (zPr (zrotn r k))) 1 rfl ?_
    refine wp_blk (pc' := 28) (L' := [some (.ref 0), some (.int c)]) (st' := [.ref 4]) (h' := zH (zput19 r k I) (zPr (zrotn r k))) 1 rfl ?_
    refine wp_blk (pc' := 29) (L' := [some (.ref 0), some (.int c)]) (st' := [.ref 0, .ref 4]) (h' := zH (zput19 r k I) (zPr (zrotn r k))) 1 rfl ?_
    refine wp_blk (pc' := 32) (L' := [some (.ref 0), some (.int c)]) (st' := [.ref 4, .ref 4]) (h' := zH (zput19 r k I) (zPr (zrotn r k))) 1 rfl ?_
    refine wp_callf (d := 71) (as := [.ref 4]) (rest := [.ref 4]) (Ld := [some (.ref 4)]) (pc' := 35) (st' := [.int (f_M_goneBits 4 5 6 7 (zput19 r k I)), .ref 4]) (r := some (.int (f_M_goneBits 4 5 6 7 (zput19 r k I)))) (h1 := zH (zput19 r k I) (zPr (zrotn r k))) rfl rfl rfl rfl rfl rfl rfl rfl rfl (sp_M_goneBits_4 (zput19 r k I) (zPr (zrotn r k))) ?_
    refine wp_blk (pc' := 36) (L' := [some (.ref 0), some (.int c)]) (st' := [.int 1, .int (f_M_goneBits 4 5 6 7 (zput19 r k I)), .ref 4]) (h' := zH (zput19 r k I) (zPr (zrotn r k))) 1 rfl ?_
    refine wp_blk (pc' := 37) (L' := [some (.ref 0), some (.int c)]) (st' := [.int c, .int 1, .int (f_M_goneBits 4 5 6 7 (zput19 r k I)), .ref 4]) (h' := zH (zput19 r k I) (zPr (zrotn r k))) 1 rfl ?_
    refine wp_blk (pc' := 38) (L' := [some (.ref 0), some (.int c)]) (st' := [.int (1 <<< (c &&& 31)), .int (f_M_goneBits 4 5 6 7 (zput19 r k I)), .ref 4]) (h' := zH (zput19 r k I) (zPr (zrotn r k))) 1 rfl ?_
    refine wp_blk (pc' := 39) (L' := [some (.ref 0), some (.int c)]) (st' := [.int ((f_M_goneBits 4 5 6 7 (zput19 r k I)) ^^^ (1 <<< (c &&& 31))), .ref 4]) (h' := zH (zput19 r k I) (zPr (zrotn r k))) 1 rfl ?_
    refine wp_callf (d := 72) (as := [.ref 4, .int ((f_M_goneBits 4 5 6 7 (zput19 r k I)) ^^^ (1 <<< (c &&& 31)))]) (rest := []) (Ld := [some (.ref 4), some (.int ((f_M_goneBits 4 5 6 7 (zput19 r k I)) ^^^ (1 <<< (c &&& 31))))]) (pc' := 42) (st' := []) (r := none) (h1 := zH (g_M_setGone 4 5 6 7 (zput19 r k I) ((f_M_goneBits 4 5 6 7 (zput19 r k I)) ^^^ (1 <<< (c &&& 31)))) (zPr (zrotn r k))) rfl rfl rfl rfl rfl rfl rfl rfl rfl (sp_M_setGone_4 (zput19 r k I) (zPr (zrotn r k)) ((f_M_goneBits 4 5 6 7 (zput19 r k I)) ^^^ (1 <<< (c &&& 31)))) ?_
    refine wp_blk (pc' := 43) (L' := [some (.ref 0), some (.int c)]) (st' := [.ref 0]) (h' := zH (g_M_setGone 4 5 6 7 (zput19 r k I) ((f_M_goneBits 4 5 6 7 (zput19 r k I)) ^^^ (1 <<< (c &&& 31)))) (zPr (zrotn r k))) 1 rfl ?_
    refine wp_blk (pc' := 46) (L' := [some (.ref 0), some (.int c)]) (st' := [.ref 4]) (h' := zH (g_M_setGone 4 5 6 7 (zput19 r k I) ((f_M_goneBits 4 5 6 7 (zput19 r k I)) ^^^ (1 <<< (c &&& 31)))) (zPr (zrotn r k))) 1 rfl ?_
    refine wp_blk (pc' := 47) (L' := [some (.ref 0), some (.int c)]) (st' := [.int c, .ref 4]) (h' := zH (g_M_setGone 4 5 6 7 (zput19 r k I) ((f_M_goneBits 4 5 6 7 (zput19 r k I)) ^^^ (1 <<< (c &&& 31)))) (zPr (zrotn r k))) 1 rfl ?_
    refine wp_callf (d := 44) (as := [.ref 4, .int c]) (rest := []) (Ld := [some (.ref 4), some (.int c)]) (pc' := 50) (st' := [.int (f_M_isGone 4 5 6 7 (g_M_setGone 4 5 6 7 (zput19 r k I) ((f_M_goneBits 4 5 6 7 (zput19 r k I)) ^^^ (1 <<< (c &&& 31)))) c)]) (r := some (.int (f_M_isGone 4 5 6 7 (g_M_setGone 4 5 6 7 (zput19 r k I) ((f_M_goneBits 4 5 6 7 (zput19 r k I)) ^^^ (1 <<< (c &&& 31)))) c))) (h1 := zH (g_M_setGone 4 5 6 7 (zput19 r k I) ((f_M_goneBits 4 5 6 7 (zput19 r k I)) ^^^ (1 <<< (c &&& 31)))) (zPr (zrotn r k))) rfl rfl rfl rfl rfl rfl rfl rfl rfl (sp_M_isGone_4 (g_M_setGone 4 5 6 7 (zput19 r k I) ((f_M_goneBits 4 5 6 7 (zput19 r k I)) ^^^ (1 <<< (c &&& 31)))) (zPr (zrotn r k)) c) ?_
    refine wp_eq (a := f_M_isGone 4 5 6 7 (g_M_setGone 4 5 6 7 (zput19 r k I) ((f_M_goneBits 4 5 6 7 (zput19 r k I)) ^^^ (1 <<< (c &&& 31)))) c) (b := 0) (s1 := (57, [some (.ref 0), some (.int c)], [], zH (g_M_setGone 4 5 6 7 (zput19 r k I) ((f_M_goneBits 4 5 6 7 (zput19 r k I)) ^^^ (1 <<< (c &&& 31)))) (zPr (zrotn r k)))) (s2 := (53, [some (.ref 0), some (.int c)], [], zH (g_M_setGone 4 5 6 7 (zput19 r k I) ((f_M_goneBits 4 5 6 7 (zput19 r k I)) ^^^ (1 <<< (c &&& 31)))) (zPr (zrotn r k)))) rfl (fun c2 => ?_) (fun c2 => ?_)
    · rw [if_pos c2] at hx
      refine wp_blk (pc' := 58) (L' := [some (.ref 0), some (.int c)]) (st' := [.int 0]) (h' := zH (g_M_setGone 4 5 6 7 (zput19 r k I) ((f_M_goneBits 4 5 6 7 (zput19 r k I)) ^^^ (1 <<< (c &&& 31)))) (zPr (zrotn r k))) 1 rfl ?_
      cases hx
      exact wp_end rfl rfl ⟨rfl, rfl⟩
    · rw [if_neg c2] at hx
      refine wp_blk (pc' := 54) (L' := [some (.ref 0), some (.int c)]) (st' := [.int 1]) (h' := zH (g_M_setGone 4 5 6 7 (zput19 r k I) ((f_M_goneBits 4 5 6 7 (zput19 r k I)) ^^^ (1 <<< (c &&& 31)))) (zPr (zrotn r k))) 1 rfl ?_
      refine wp_blk (pc' := 58) (L' := [some (.ref 0), some (.int c)]) (st' := [.int 1]) (h' := zH (g_M_setGone 4 5 6 7 (zput19 r k I) ((f_M_goneBits 4 5 6 7 (zput19 r k I)) ^^^ (1 <<< (c &&& 31)))) (zPr (zrotn r k))) 1 rfl ?_
      cases hx
      exact wp_end rfl rfl ⟨rfl, rfl⟩
  · rw [if_pos c1] at hx
    refine wp_blk (pc' := 12) (L' := [some (.ref 0), some (.int c)]) (st' := [.int (-1)]) (h' := zH I (zPr r)) 1 rfl ?_
    cases hx
    exact wp_end rfl rfl ⟨rfl, rfl⟩
def x_G_say (r k : Nat) (I : Nat → Nat → Int32) (i j v : Int32) : Option (Int32 × (Nat → Nat → Int32) × Nat) := if f_G_areTwo I i j = 0 then (some (-1, I, r)) else (if f_G_isOutside I v 6 = 0 then (some (f_M_wordOf 4 5 6 7 (zput19 r k I) i j, (g_M_setWord 4 5 6 7 (zput19 r k I) i j v), (zrotn r k))) else (some (-1, I, r)))
set_option maxRecDepth 100000 in
theorem xp_G_say {X : Nat × (Nat → Int32)} (r k : Nat) (hr : r < 8) (hk : k < 9) (I : Nat → Nat → Int32) (hI : I 19 1 = nI k) (i j v : Int32) (q : Int32 × (Nat → Nat → Int32) × Nat) (hx : x_G_say r k I i j v = some q) : Wf X 73 [some (.ref 0), some (.int i), some (.int j), some (.int v), none] (zH I (zPr r)) (some (.int q.1)) (zH q.2.1 (zPr q.2.2)) := by
  unfold Wf
  unfold x_G_say at hx
  refine wp_blk (pc' := 1) (L' := [some (.ref 0), some (.int i), some (.int j), some (.int v), none]) (st' := [.ref 0]) (h' := zH I (zPr r)) 1 rfl ?_
  refine wp_blk (pc' := 2) (L' := [some (.ref 0), some (.int i), some (.int j), some (.int v), none]) (st' := [.int i, .ref 0]) (h' := zH I (zPr r)) 1 rfl ?_
  refine wp_blk (pc' := 3) (L' := [some (.ref 0), some (.int i), some (.int j), some (.int v), none]) (st' := [.int j, .int i, .ref 0]) (h' := zH I (zPr r)) 1 rfl ?_
  refine wp_callf (d := 47) (as := [.ref 0, .int i, .int j]) (rest := []) (Ld := [some (.ref 0), some (.int i), some (.int j)]) (pc' := 6) (st' := [.int (f_G_areTwo I i j)]) (r := some (.int (f_G_areTwo I i j))) (h1 := zH I (zPr r)) rfl rfl rfl rfl rfl rfl rfl rfl rfl (sp_G_areTwo I (zPr r) i j) ?_
  refine wp_eq (a := f_G_areTwo I i j) (b := 0) (s1 := (18, [some (.ref 0), some (.int i), some (.int j), some (.int v), none], [], zH I (zPr r))) (s2 := (9, [some (.ref 0), some (.int i), some (.int j), some (.int v), none], [], zH I (zPr r))) rfl (fun c1 => ?_) (fun c1 => ?_)
  · rw [if_pos c1] at hx
    refine wp_blk (pc' := 19) (L' := [some (.ref 0), some (.int i), some (.int j), some (.int v), none]) (st' := [.int (-1)]) (h' := zH I (zPr r)) 1 rfl ?_
    cases hx
    exact wp_end rfl rfl ⟨rfl, rfl⟩
  · rw [if_neg c1] at hx
    refine wp_blk (pc' := 10) (L' := [some (.ref 0), some (.int i), some (.int j), some (.int v), none]) (st' := [.int v]) (h' := zH I (zPr r)) 1 rfl ?_
    refine wp_blk (pc' := 12) (L' := [some (.ref 0), some (.int i), some (.int j), some (.int v), none]) (st' := [.int 6, .int v]) (h' := zH I (zPr r)) 1 rfl ?_
    refine wp_callf (d := 25) (as := [.int v, .int 6]) (rest := []) (Ld := [some (.int v), some (.int 6)]) (pc' := 15) (st' := [.int (f_G_isOutside I v 6)]) (r := some (.int (f_G_isOutside I v 6))) (h1 := zH I (zPr r)) rfl rfl rfl rfl rfl rfl rfl rfl rfl (sp_G_isOutside I (zPr r) v 6) ?_
    refine wp_eq (a := f_G_isOutside I v 6) (b := 0) (s1 := (20, [some (.ref 0), some (.int i), some (.int j), some (.int v), none], [], zH I (zPr r))) (s2 := (18, [some (.ref 0), some (.int i), some (.int j), some (.int v), none], [], zH I (zPr r))) rfl (fun c2 => ?_) (fun c2 => ?_)
    · rw [if_pos c2] at hx
      refine wp_blk (pc' := 21) (L' := [some (.ref 0), some (.int i), some (.int j), some (.int v), none]) (st' := [.ref 0]) (h' := zH I (zPr r)) 1 rfl ?_
      refine wp_blk (pc' := 24) (L' := [some (.ref 0), some (.int i), some (.int j), some (.int v), none]) (st' := [.ref 19]) (h' := zH I (zPr r)) 1 rfl ?_
      refine wp_blk (pc' := 25) (L' := [some (.ref 0), some (.int i), some (.int j), some (.int v), none]) (st' := [.ref 0, .ref 19]) (h' := zH I (zPr r)) 1 rfl ?_
      refine wp_blk (pc' := 28) (L' := [some (.ref 0), some (.int i), some (.int j), some (.int v), none]) (st' := [.ref 4, .ref 19]) (h' := zH I (zPr r)) 1 rfl ?_
      refine wp_callf (d := 65) (as := [.ref 19, .ref 4]) (rest := []) (Ld := [some (.ref 19), some (.ref 4), none]) (pc' := 31) (st' := []) (r := none) (h1 := zH (zput19 r k I) (zPr (zrotn r k))) rfl rfl rfl rfl rfl rfl rfl rfl rfl (wf_put r k hr hk _ hI) ?_
      refine wp_blk (pc' := 32) (L' := [some (.ref 0), some (.int i), some (.int j), some (.int v), none]) (st' := [.ref 0]) (h' := zH (zput19 r k I) (zPr (zrotn r k))) 1 rfl ?_
      refine wp_blk (pc' := 35) (L' := [some (.ref 0), some (.int i), some (.int j), some (.int v), none]) (st' := [.ref 4]) (h' := zH (zput19 r k I) (zPr (zrotn r k))) 1 rfl ?_
      refine wp_blk (pc' := 36) (L' := [some (.ref 0), some (.int i), some (.int j), some (.int v), none]) (st' := [.int i, .ref 4]) (h' := zH (zput19 r k I) (zPr (zrotn r k))) 1 rfl ?_
      refine wp_blk (pc' := 37) (L' := [some (.ref 0), some (.int i), some (.int j), some (.int v), none]) (st' := [.int j, .int i, .ref 4]) (h' := zH (zput19 r k I) (zPr (zrotn r k))) 1 rfl ?_
      refine wp_callf (d := 48) (as := [.ref 4, .int i, .int j]) (rest := []) (Ld := [some (.ref 4), some (.int i), some (.int j), none]) (pc' := 40) (st' := [.int (f_M_wordOf 4 5 6 7 (zput19 r k I) i j)]) (r := some (.int (f_M_wordOf 4 5 6 7 (zput19 r k I) i j))) (h1 := zH (zput19 r k I) (zPr (zrotn r k))) rfl rfl rfl rfl rfl rfl rfl rfl rfl (sp_M_wordOf_4 (zput19 r k I) (zPr (zrotn r k)) i j) ?_
      refine wp_blk (pc' := 42) (L' := [some (.ref 0), some (.int i), some (.int j), some (.int v), some (.int (f_M_wordOf 4 5 6 7 (zput19 r k I) i j))]) (st' := []) (h' := zH (zput19 r k I) (zPr (zrotn r k))) 1 rfl ?_
      refine wp_blk (pc' := 43) (L' := [some (.ref 0), some (.int i), some (.int j), some (.int v), some (.int (f_M_wordOf 4 5 6 7 (zput19 r k I) i j))]) (st' := [.ref 0]) (h' := zH (zput19 r k I) (zPr (zrotn r k))) 1 rfl ?_
      refine wp_blk (pc' := 46) (L' := [some (.ref 0), some (.int i), some (.int j), some (.int v), some (.int (f_M_wordOf 4 5 6 7 (zput19 r k I) i j))]) (st' := [.ref 4]) (h' := zH (zput19 r k I) (zPr (zrotn r k))) 1 rfl ?_
      refine wp_blk (pc' := 47) (L' := [some (.ref 0), some (.int i), some (.int j), some (.int v), some (.int (f_M_wordOf 4 5 6 7 (zput19 r k I) i j))]) (st' := [.int i, .ref 4]) (h' := zH (zput19 r k I) (zPr (zrotn r k))) 1 rfl ?_
      refine wp_blk (pc' := 48) (L' := [some (.ref 0), some (.int i), some (.int j), some (.int v), some (.int (f_M_wordOf 4 5 6 7 (zput19 r k I) i j))]) (st' := [.int j, .int i, .ref 4]) (h' := zH (zput19 r k I) (zPr (zrotn r k))) 1 rfl ?_
      refine wp_blk (pc' := 49) (L' := [some (.ref 0), some (.int i), some (.int j), some (.int v), some (.int (f_M_wordOf 4 5 6 7 (zput19 r k I) i j))]) (st' := [.int v, .int j, .int i, .ref 4]) (h' := zH (zput19 r k I) (zPr (zrotn r k))) 1 rfl ?_
      refine wp_callf (d := 26) (as := [.ref 4, .int i, .int j, .int v]) (rest := []) (Ld := [some (.ref 4), some (.int i), some (.int j), some (.int v), none]) (pc' := 52) (st' := []) (r := none) (h1 := zH (g_M_setWord 4 5 6 7 (zput19 r k I) i j v) (zPr (zrotn r k))) rfl rfl rfl rfl rfl rfl rfl rfl rfl (sp_M_setWord_4 (zput19 r k I) (zPr (zrotn r k)) i j v) ?_
      refine wp_blk (pc' := 54) (L' := [some (.ref 0), some (.int i), some (.int j), some (.int v), some (.int (f_M_wordOf 4 5 6 7 (zput19 r k I) i j))]) (st' := [.int (f_M_wordOf 4 5 6 7 (zput19 r k I) i j)]) (h' := zH (g_M_setWord 4 5 6 7 (zput19 r k I) i j v) (zPr (zrotn r k))) 1 rfl ?_
      cases hx
      exact wp_end rfl rfl ⟨rfl, rfl⟩
    · rw [if_neg c2] at hx
      refine wp_blk (pc' := 19) (L' := [some (.ref 0), some (.int i), some (.int j), some (.int v), none]) (st' := [.int (-1)]) (h' := zH I (zPr r)) 1 rfl ?_
      cases hx
      exact wp_end rfl rfl ⟨rfl, rfl⟩
def x_G_day (r k : Nat) (I : Nat → Nat → Int32) : Option (Int32 × (Nat → Nat → Int32) × Nat) := (x_R_pass 4 5 6 7 (zput19 r k I)).bind (fun q1 => some (f_M_daysGone 4 5 6 7 (g_M_endDay 4 5 6 7 q1.2 (f_R_stoneThen q1.2)), (g_M_endDay 4 5 6 7 q1.2 (f_R_stoneThen q1.2)), (zrotn r k)))
set_option maxRecDepth 100000 in
theorem xp_G_day {X : Nat × (Nat → Int32)} (r k : Nat) (hr : r < 8) (hk : k < 9) (I : Nat → Nat → Int32) (hI : I 19 1 = nI k) (q : Int32 × (Nat → Nat → Int32) × Nat) (hx : x_G_day r k I = some q) : Wf X 74 [some (.ref 0)] (zH I (zPr r)) (some (.int q.1)) (zH q.2.1 (zPr q.2.2)) := by
  unfold Wf
  unfold x_G_day at hx
  refine wp_blk (pc' := 1) (L' := [some (.ref 0)]) (st' := [.ref 0]) (h' := zH I (zPr r)) 1 rfl ?_
  refine wp_blk (pc' := 4) (L' := [some (.ref 0)]) (st' := [.ref 19]) (h' := zH I (zPr r)) 1 rfl ?_
  refine wp_blk (pc' := 5) (L' := [some (.ref 0)]) (st' := [.ref 0, .ref 19]) (h' := zH I (zPr r)) 1 rfl ?_
  refine wp_blk (pc' := 8) (L' := [some (.ref 0)]) (st' := [.ref 4, .ref 19]) (h' := zH I (zPr r)) 1 rfl ?_
  refine wp_callf (d := 65) (as := [.ref 19, .ref 4]) (rest := []) (Ld := [some (.ref 19), some (.ref 4), none]) (pc' := 11) (st' := []) (r := none) (h1 := zH (zput19 r k I) (zPr (zrotn r k))) rfl rfl rfl rfl rfl rfl rfl rfl rfl (wf_put r k hr hk _ hI) ?_
  refine wp_blk (pc' := 12) (L' := [some (.ref 0)]) (st' := [.ref 0]) (h' := zH (zput19 r k I) (zPr (zrotn r k))) 1 rfl ?_
  refine wp_blk (pc' := 15) (L' := [some (.ref 0)]) (st' := [.ref 12]) (h' := zH (zput19 r k I) (zPr (zrotn r k))) 1 rfl ?_
  refine wp_blk (pc' := 16) (L' := [some (.ref 0)]) (st' := [.ref 0, .ref 12]) (h' := zH (zput19 r k I) (zPr (zrotn r k))) 1 rfl ?_
  refine wp_blk (pc' := 19) (L' := [some (.ref 0)]) (st' := [.ref 4, .ref 12]) (h' := zH (zput19 r k I) (zPr (zrotn r k))) 1 rfl ?_
  obtain ⟨y1, hy1, hx⟩ := zbind hx
  refine wp_callf (d := 50) (as := [.ref 12, .ref 4]) (rest := []) (Ld := [some (.ref 12), some (.ref 4)]) (pc' := 22) (st' := []) (r := none) (h1 := zH y1.2 (zPr (zrotn r k))) rfl rfl rfl rfl rfl rfl rfl rfl rfl (xp_R_pass_4 _ _  _ hy1) ?_
  refine wp_blk (pc' := 23) (L' := [some (.ref 0)]) (st' := [.ref 0]) (h' := zH y1.2 (zPr (zrotn r k))) 1 rfl ?_
  refine wp_blk (pc' := 26) (L' := [some (.ref 0)]) (st' := [.ref 4]) (h' := zH y1.2 (zPr (zrotn r k))) 1 rfl ?_
  refine wp_blk (pc' := 27) (L' := [some (.ref 0)]) (st' := [.ref 0, .ref 4]) (h' := zH y1.2 (zPr (zrotn r k))) 1 rfl ?_
  refine wp_blk (pc' := 30) (L' := [some (.ref 0)]) (st' := [.ref 12, .ref 4]) (h' := zH y1.2 (zPr (zrotn r k))) 1 rfl ?_
  refine wp_callf (d := 75) (as := [.ref 12]) (rest := [.ref 4]) (Ld := [some (.ref 12)]) (pc' := 33) (st' := [.int (f_R_stoneThen y1.2), .ref 4]) (r := some (.int (f_R_stoneThen y1.2))) (h1 := zH y1.2 (zPr (zrotn r k))) rfl rfl rfl rfl rfl rfl rfl rfl rfl (sp_R_stoneThen y1.2 (zPr (zrotn r k))) ?_
  refine wp_callf (d := 76) (as := [.ref 4, .int (f_R_stoneThen y1.2)]) (rest := []) (Ld := [some (.ref 4), some (.int (f_R_stoneThen y1.2))]) (pc' := 36) (st' := []) (r := none) (h1 := zH (g_M_endDay 4 5 6 7 y1.2 (f_R_stoneThen y1.2)) (zPr (zrotn r k))) rfl rfl rfl rfl rfl rfl rfl rfl rfl (sp_M_endDay_4 y1.2 (zPr (zrotn r k)) (f_R_stoneThen y1.2)) ?_
  refine wp_blk (pc' := 37) (L' := [some (.ref 0)]) (st' := [.ref 0]) (h' := zH (g_M_endDay 4 5 6 7 y1.2 (f_R_stoneThen y1.2)) (zPr (zrotn r k))) 1 rfl ?_
  refine wp_blk (pc' := 40) (L' := [some (.ref 0)]) (st' := [.ref 4]) (h' := zH (g_M_endDay 4 5 6 7 y1.2 (f_R_stoneThen y1.2)) (zPr (zrotn r k))) 1 rfl ?_
  refine wp_callf (d := 77) (as := [.ref 4]) (rest := []) (Ld := [some (.ref 4)]) (pc' := 43) (st' := [.int (f_M_daysGone 4 5 6 7 (g_M_endDay 4 5 6 7 y1.2 (f_R_stoneThen y1.2)))]) (r := some (.int (f_M_daysGone 4 5 6 7 (g_M_endDay 4 5 6 7 y1.2 (f_R_stoneThen y1.2))))) (h1 := zH (g_M_endDay 4 5 6 7 y1.2 (f_R_stoneThen y1.2)) (zPr (zrotn r k))) rfl rfl rfl rfl rfl rfl rfl rfl rfl (sp_M_daysGone_4 (g_M_endDay 4 5 6 7 y1.2 (f_R_stoneThen y1.2)) (zPr (zrotn r k))) ?_
  cases hx
  exact wp_end rfl rfl ⟨rfl, rfl⟩
def x_G_undo (r k : Nat) (I : Nat → Nat → Int32) : Option (Int32 × (Nat → Nat → Int32) × Nat) := if (if k = 0 then (0 : Int32) else 1) = 0 then (some (-2, (if k = 0 then I else ztake19 r k I), r)) else (some (f_H1_size (if k = 0 then I else ztake19 r k I), (if k = 0 then I else ztake19 r k I), r))
set_option maxRecDepth 100000 in
theorem xp_G_undo {X : Nat × (Nat → Int32)} (r k : Nat) (hr : r < 8) (hk : k < 9) (I : Nat → Nat → Int32) (hI : I 19 1 = nI k) (q : Int32 × (Nat → Nat → Int32) × Nat) (hx : x_G_undo r k I = some q) : Wf X 78 [some (.ref 0)] (zH I (zPr r)) (some (.int q.1)) (zH q.2.1 (zPr q.2.2)) := by
  unfold Wf
  unfold x_G_undo at hx
  refine wp_blk (pc' := 1) (L' := [some (.ref 0)]) (st' := [.ref 0]) (h' := zH I (zPr r)) 1 rfl ?_
  refine wp_blk (pc' := 4) (L' := [some (.ref 0)]) (st' := [.ref 19]) (h' := zH I (zPr r)) 1 rfl ?_
  refine wp_blk (pc' := 5) (L' := [some (.ref 0)]) (st' := [.ref 0, .ref 19]) (h' := zH I (zPr r)) 1 rfl ?_
  refine wp_blk (pc' := 8) (L' := [some (.ref 0)]) (st' := [.ref 4, .ref 19]) (h' := zH I (zPr r)) 1 rfl ?_
  refine wp_callf (d := 79) (as := [.ref 19, .ref 4]) (rest := []) (Ld := [some (.ref 19), some (.ref 4), none]) (pc' := 11) (st' := [.int ((if k = 0 then (0 : Int32) else 1))]) (r := some (.int ((if k = 0 then (0 : Int32) else 1)))) (h1 := zH (if k = 0 then I else ztake19 r k I) (zPr r)) rfl rfl rfl rfl rfl rfl rfl rfl rfl (wf_take r k hr hk _ hI) ?_
  refine wp_eq (a := (if k = 0 then (0 : Int32) else 1)) (b := 0) (s1 := (24, [some (.ref 0)], [], zH (if k = 0 then I else ztake19 r k I) (zPr r))) (s2 := (14, [some (.ref 0)], [], zH (if k = 0 then I else ztake19 r k I) (zPr r))) rfl (fun c1 => ?_) (fun c1 => ?_)
  · rw [if_pos c1] at hx
    refine wp_blk (pc' := 26) (L' := [some (.ref 0)]) (st' := [.int (-2)]) (h' := zH (if k = 0 then I else ztake19 r k I) (zPr r)) 1 rfl ?_
    cases hx
    exact wp_end rfl rfl ⟨rfl, rfl⟩
  · rw [if_neg c1] at hx
    refine wp_blk (pc' := 15) (L' := [some (.ref 0)]) (st' := [.ref 0]) (h' := zH (if k = 0 then I else ztake19 r k I) (zPr r)) 1 rfl ?_
    refine wp_blk (pc' := 18) (L' := [some (.ref 0)]) (st' := [.ref 19]) (h' := zH (if k = 0 then I else ztake19 r k I) (zPr r)) 1 rfl ?_
    refine wp_callf (d := 80) (as := [.ref 19]) (rest := []) (Ld := [some (.ref 19)]) (pc' := 21) (st' := [.int (f_H1_size (if k = 0 then I else ztake19 r k I))]) (r := some (.int (f_H1_size (if k = 0 then I else ztake19 r k I)))) (h1 := zH (if k = 0 then I else ztake19 r k I) (zPr r)) rfl rfl rfl rfl rfl rfl rfl rfl rfl (sp_H1_size (if k = 0 then I else ztake19 r k I) (zPr r)) ?_
    refine wp_blk (pc' := 26) (L' := [some (.ref 0)]) (st' := [.int (f_H1_size (if k = 0 then I else ztake19 r k I))]) (h' := zH (if k = 0 then I else ztake19 r k I) (zPr r)) 1 rfl ?_
    cases hx
    exact wp_end rfl rfl ⟨rfl, rfl⟩
def x_G_keep (r k : Nat) (I : Nat → Nat → Int32) : Option (Int32 × (Nat → Nat → Int32) × Nat) := if f_H2_isFull I = 0 then (some (f_H2_size (zput53 k I), (zput53 k I), r)) else (some (-3, I, r))
set_option maxRecDepth 100000 in
theorem xp_G_keep {X : Nat × (Nat → Int32)} (r k : Nat) (hr : r < 8) (hk : k < 3) (I : Nat → Nat → Int32) (hI : I 53 1 = nI k) (q : Int32 × (Nat → Nat → Int32) × Nat) (hx : x_G_keep r k I = some q) : Wf X 113 [some (.ref 0)] (zH I (zPr r)) (some (.int q.1)) (zH q.2.1 (zPr q.2.2)) := by
  unfold Wf
  unfold x_G_keep at hx
  refine wp_blk (pc' := 1) (L' := [some (.ref 0)]) (st' := [.ref 0]) (h' := zH I (zPr r)) 1 rfl ?_
  refine wp_blk (pc' := 4) (L' := [some (.ref 0)]) (st' := [.ref 53]) (h' := zH I (zPr r)) 1 rfl ?_
  refine wp_callf (d := 66) (as := [.ref 53]) (rest := []) (Ld := [some (.ref 53)]) (pc' := 7) (st' := [.int (f_H2_isFull I)]) (r := some (.int (f_H2_isFull I))) (h1 := zH I (zPr r)) rfl rfl rfl rfl rfl rfl rfl rfl rfl (sp_H2_isFull I (zPr r)) ?_
  refine wp_eq (a := f_H2_isFull I) (b := 0) (s1 := (13, [some (.ref 0)], [], zH I (zPr r))) (s2 := (10, [some (.ref 0)], [], zH I (zPr r))) rfl (fun c1 => ?_) (fun c1 => ?_)
  · rw [if_pos c1] at hx
    refine wp_blk (pc' := 14) (L' := [some (.ref 0)]) (st' := [.ref 0]) (h' := zH I (zPr r)) 1 rfl ?_
    refine wp_blk (pc' := 17) (L' := [some (.ref 0)]) (st' := [.ref 53]) (h' := zH I (zPr r)) 1 rfl ?_
    refine wp_blk (pc' := 18) (L' := [some (.ref 0)]) (st' := [.ref 0, .ref 53]) (h' := zH I (zPr r)) 1 rfl ?_
    refine wp_blk (pc' := 21) (L' := [some (.ref 0)]) (st' := [.ref 4, .ref 53]) (h' := zH I (zPr r)) 1 rfl ?_
    refine wp_callf (d := 65) (as := [.ref 53, .ref 4]) (rest := []) (Ld := [some (.ref 53), some (.ref 4), none]) (pc' := 24) (st' := []) (r := none) (h1 := zH (zput53 k I) (zPr r)) rfl rfl rfl rfl rfl rfl rfl rfl rfl (wf_putK r k (zkk c1 hI hk) _ hI) ?_
    refine wp_blk (pc' := 25) (L' := [some (.ref 0)]) (st' := [.ref 0]) (h' := zH (zput53 k I) (zPr r)) 1 rfl ?_
    refine wp_blk (pc' := 28) (L' := [some (.ref 0)]) (st' := [.ref 53]) (h' := zH (zput53 k I) (zPr r)) 1 rfl ?_
    refine wp_callf (d := 80) (as := [.ref 53]) (rest := []) (Ld := [some (.ref 53)]) (pc' := 31) (st' := [.int (f_H2_size (zput53 k I))]) (r := some (.int (f_H2_size (zput53 k I)))) (h1 := zH (zput53 k I) (zPr r)) rfl rfl rfl rfl rfl rfl rfl rfl rfl (sp_H2_size (zput53 k I) (zPr r)) ?_
    cases hx
    exact wp_end rfl rfl ⟨rfl, rfl⟩
  · rw [if_neg c1] at hx
    refine wp_blk (pc' := 12) (L' := [some (.ref 0)]) (st' := [.int (-3)]) (h' := zH I (zPr r)) 1 rfl ?_
    cases hx
    exact wp_end rfl rfl ⟨rfl, rfl⟩
def x_G_back (r k : Nat) (I : Nat → Nat → Int32) : Option (Int32 × (Nat → Nat → Int32) × Nat) := if (if k = 0 then (0 : Int32) else 1) = 0 then (some (-2, (if k = 0 then I else ztake53 k I), r)) else (some (f_H2_size (g_H1_clear (if k = 0 then I else ztake53 k I)), (g_H1_clear (if k = 0 then I else ztake53 k I)), r))
set_option maxRecDepth 100000 in
theorem xp_G_back {X : Nat × (Nat → Int32)} (r k : Nat) (hr : r < 8) (hk : k < 3) (I : Nat → Nat → Int32) (hI : I 53 1 = nI k) (q : Int32 × (Nat → Nat → Int32) × Nat) (hx : x_G_back r k I = some q) : Wf X 114 [some (.ref 0)] (zH I (zPr r)) (some (.int q.1)) (zH q.2.1 (zPr q.2.2)) := by
  unfold Wf
  unfold x_G_back at hx
  refine wp_blk (pc' := 1) (L' := [some (.ref 0)]) (st' := [.ref 0]) (h' := zH I (zPr r)) 1 rfl ?_
  refine wp_blk (pc' := 4) (L' := [some (.ref 0)]) (st' := [.ref 53]) (h' := zH I (zPr r)) 1 rfl ?_
  refine wp_blk (pc' := 5) (L' := [some (.ref 0)]) (st' := [.ref 0, .ref 53]) (h' := zH I (zPr r)) 1 rfl ?_
  refine wp_blk (pc' := 8) (L' := [some (.ref 0)]) (st' := [.ref 4, .ref 53]) (h' := zH I (zPr r)) 1 rfl ?_
  refine wp_callf (d := 79) (as := [.ref 53, .ref 4]) (rest := []) (Ld := [some (.ref 53), some (.ref 4), none]) (pc' := 11) (st' := [.int ((if k = 0 then (0 : Int32) else 1))]) (r := some (.int ((if k = 0 then (0 : Int32) else 1)))) (h1 := zH (if k = 0 then I else ztake53 k I) (zPr r)) rfl rfl rfl rfl rfl rfl rfl rfl rfl (wf_takeK r k hk _ hI) ?_
  refine wp_ne (a := (if k = 0 then (0 : Int32) else 1)) (b := 0) (s1 := (17, [some (.ref 0)], [], zH (if k = 0 then I else ztake53 k I) (zPr r))) (s2 := (14, [some (.ref 0)], [], zH (if k = 0 then I else ztake53 k I) (zPr r))) rfl (fun c1 => ?_) (fun c1 => ?_)
  · rw [if_neg c1] at hx
    refine wp_blk (pc' := 18) (L' := [some (.ref 0)]) (st' := [.ref 0]) (h' := zH (if k = 0 then I else ztake53 k I) (zPr r)) 1 rfl ?_
    refine wp_blk (pc' := 21) (L' := [some (.ref 0)]) (st' := [.ref 19]) (h' := zH (if k = 0 then I else ztake53 k I) (zPr r)) 1 rfl ?_
    refine wp_callf (d := 39) (as := [.ref 19]) (rest := []) (Ld := [some (.ref 19)]) (pc' := 24) (st' := []) (r := none) (h1 := zH (g_H1_clear (if k = 0 then I else ztake53 k I)) (zPr r)) rfl rfl rfl rfl rfl rfl rfl rfl rfl (sp_H1_clear (if k = 0 then I else ztake53 k I) (zPr r)) ?_
    refine wp_blk (pc' := 25) (L' := [some (.ref 0)]) (st' := [.ref 0]) (h' := zH (g_H1_clear (if k = 0 then I else ztake53 k I)) (zPr r)) 1 rfl ?_
    refine wp_blk (pc' := 28) (L' := [some (.ref 0)]) (st' := [.ref 53]) (h' := zH (g_H1_clear (if k = 0 then I else ztake53 k I)) (zPr r)) 1 rfl ?_
    refine wp_callf (d := 80) (as := [.ref 53]) (rest := []) (Ld := [some (.ref 53)]) (pc' := 31) (st' := [.int (f_H2_size (g_H1_clear (if k = 0 then I else ztake53 k I)))]) (r := some (.int (f_H2_size (g_H1_clear (if k = 0 then I else ztake53 k I))))) (h1 := zH (g_H1_clear (if k = 0 then I else ztake53 k I)) (zPr r)) rfl rfl rfl rfl rfl rfl rfl rfl rfl (sp_H2_size (g_H1_clear (if k = 0 then I else ztake53 k I)) (zPr r)) ?_
    cases hx
    exact wp_end rfl rfl ⟨rfl, rfl⟩
  · rw [if_pos c1] at hx
    refine wp_blk (pc' := 16) (L' := [some (.ref 0)]) (st' := [.int (-2)]) (h' := zH (if k = 0 then I else ztake53 k I) (zPr r)) 1 rfl ?_
    cases hx
    exact wp_end rfl rfl ⟨rfl, rfl⟩
