/-! THE TWO CONSTRUCTORS, by the kernel -/
/-- the words of the first text, six by six -/
def told0 : List Nat := [3, 5, 3, 3, 3, 2, 6, 3, 3, 4, 3, 6, 1, 3, 3, 4, 3, 3, 5, 3, 1, 3, 3, 3, 3, 3, 3, 3, 3, 3, 3, 3, 6, 0, 3, 3]
def kinds0 : List Nat := [0, 1, 2, 0, 3, 4]
def ctst (h : ZH) : Bool := Nat.beq h.1.1 76 && Nat.beq h.1.2 1769 && (List.range 76).all (fun a => decide (h.2.1 a = zS a)) && (List.range 76).all (fun a => (List.range (zS a).2).all (fun j => decide (h.2.2.2 a j = zPP (zPr 0) a j))) && decide (h.2.2.1 4 3 = 6) && (List.range 6).all (fun k => decide (h.2.2.1 5 k = nI (kinds0.getD k 0)) && decide (h.2.2.1 6 k = nI k)) && (List.range 36).all (fun k => decide (h.2.2.1 7 k = nI (told0.getD k 0))) && decide (h.2.2.1 4 4 = 0) && decide (h.2.2.1 4 5 = 4) && decide (h.2.2.1 4 6 = 0) && decide (h.2.2.1 63 2 = 6) && (List.range 6).all (fun k => decide (h.2.2.1 65 k = nI (kinds0.getD k 0)) && decide (h.2.2.1 68 k = nI k)) && (List.range 36).all (fun k => decide (h.2.2.1 68 (6 + k) = nI (told0.getD k 0))) && decide (h.2.2.1 68 42 = 0) && decide (h.2.2.1 68 43 = 4) && decide (h.2.2.1 68 44 = 0) && decide (h.2.2.1 19 1 = 0) && decide (h.2.2.1 63 9 = 0) && decide (h.2.2.1 53 1 = 0) && decide (h.2.2.1 63 11 = 0) && decide (h.2.2.1 16 2 = 0) && decide (h.2.2.1 63 13 = 0) && decide (h.2.2.1 1 2 = 0) && decide (h.2.2.1 63 1 = 0)
def lC : Option ZS := zpartN 5000 10 174 0 [some (.retAddr 2), none, none, none] [] zh0
def lchk (o : Option ZS) : Bool := match o with
  | some (pc, [some (.retAddr 2), some (.ref a), some (.ref b), some (.int v)], [], h) => Nat.beq pc 18 && Nat.beq a 0 && Nat.beq b 63 && decide (v = 0) && ctst h
  | _ => false
theorem lC_ok : lchk lC = true := by decide +kernel
