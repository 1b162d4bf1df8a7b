/-! THE PURE PART: all orders, as numbers in base six -/
def dg : Nat → Nat → List Nat
  | 0, _ => []
  | n + 1, x => x / 6 ^ n % 6 :: dg n x
theorem dg_len : ∀ n x, (dg n x).length = n
  | 0, _ => rfl
  | n + 1, x => by rw [dg, List.length_cons, dg_len n x]
theorem dg_six : ∀ n x, ∀ d ∈ dg n x, d < 6
  | 0, _, d, h => by cases h
  | n + 1, x, d, h => by
    rw [dg] at h
    rcases List.mem_cons.mp h with z | z
    · rw [z]
      exact Nat.mod_lt _ (by omega)
    · exact dg_six n x d z
theorem six_pos (n : Nat) : 0 < 6 ^ n := Nat.pow_pos (by decide)
theorem dg_high : ∀ n m x, dg n (m * 6 ^ n + x) = dg n x
  | 0, _, _ => rfl
  | n + 1, m, x => by
    have e : m * 6 ^ (n + 1) + x = x + 6 ^ n * (6 * m) := by
      rw [Nat.pow_succ, Nat.add_comm, Nat.mul_comm m, Nat.mul_assoc]
    have e2 : m * 6 ^ (n + 1) + x = (6 * m) * 6 ^ n + x := by
      rw [Nat.pow_succ, Nat.mul_comm (6 ^ n) 6, ← Nat.mul_assoc, Nat.mul_comm m 6]
    rw [dg, dg]
    congr 1
    · rw [e, Nat.add_mul_div_left _ _ (six_pos n), Nat.add_mul_mod_self_left]
    · rw [e2]
      exact dg_high n (6 * m) x
theorem dg_cut {n d r : Nat} (hd : d < 6) (hr : r < 6 ^ n) : dg (n + 1) (d * 6 ^ n + r) = d :: dg n r := by
  rw [dg, dg_high, show d * 6 ^ n + r = r + 6 ^ n * d by rw [Nat.mul_comm, Nat.add_comm], Nat.add_mul_div_left _ _ (six_pos n), Nat.div_eq_of_lt hr, Nat.zero_add, Nat.mod_eq_of_lt hd]
theorem range_plus (n : Nat) : ∀ m, List.range (n + m) = List.range n ++ (List.range m).map (fun r => n + r)
  | 0 => by simp
  | m + 1 => by
    rw [← Nat.add_assoc, List.range_succ, range_plus n m, List.range_succ, List.map_append, List.append_assoc]
    rfl
theorem range_times (m : Nat) : ∀ a, List.range (a * m) = (List.range a).flatMap (fun d => (List.range m).map (fun r => d * m + r))
  | 0 => by simp
  | a + 1 => by
    rw [Nat.succ_mul, range_plus, range_times m a, List.range_succ, List.flatMap_append]
    congr 1
    simp
theorem flat_cong {α β : Type} {f g : α → List β} : ∀ (l : List α), (∀ x ∈ l, f x = g x) → l.flatMap f = l.flatMap g
  | [], _ => rfl
  | x :: l, h => by
    rw [List.flatMap_cons, List.flatMap_cons, h x List.mem_cons_self, flat_cong l (fun y hy => h y (List.mem_cons_of_mem _ hy))]
def lst (n : Nat) : List (List Nat) := (List.range (6 ^ n)).map (dg n)
theorem lst_succ (n : Nat) : lst (n + 1) = (List.range 6).flatMap (fun d => (lst n).map (fun L => d :: L)) := by
  rw [lst, Nat.pow_succ, Nat.mul_comm, range_times, List.map_flatMap]
  refine flat_cong _ (fun d hd => ?_)
  have hd6 := List.mem_range.mp hd
  rw [lst, List.map_map, List.map_map]
  refine List.map_congr_left (fun r hr => ?_)
  exact dg_cut hd6 (List.mem_range.mp hr)
theorem lst_mem {n : Nat} {L : List Nat} (h : L ∈ lst n) : L.length = n ∧ ∀ d ∈ L, d < 6 := by
  obtain ⟨x, _, e⟩ := List.mem_map.mp h
  rw [← e]
  exact ⟨dg_len n x, dg_six n x⟩
theorem pc_same : ∀ B, B < 64 → ∀ c, c < 6 → B.testBit c = true → B ||| 2 ^ c = B := by decide +kernel
theorem pc_less : ∀ T, T < 64 → ∀ d, d < 6 → T.testBit d = true → pc6 (T ^^^ 2 ^ d) + 1 = pc6 T ∧ T ^^^ 2 ^ d < 64 := by decide +kernel
def splitB (T d B : Nat) : Bool := !(T.testBit d) || (!(decide (pc6 B < pc6 T)) || (decide (B ||| 2 ^ d = T) == decide (B = T ^^^ 2 ^ d)))
theorem pc_splitB : ∀ T, T < 64 → ∀ d, d < 6 → ∀ B, B < 64 → splitB T d B = true := by decide +kernel
theorem pc_split (T : Nat) (hT : T < 64) (d : Nat) (hd : d < 6) (h : T.testBit d = true) (B : Nat) (hB : B < 64) (hl : pc6 B < pc6 T) : B ||| 2 ^ d = T ↔ B = T ^^^ 2 ^ d := by
  have q := pc_splitB T hT d hd B hB
  rw [splitB, h, decide_eq_true hl] at q
  have q2 : (decide (B ||| 2 ^ d = T) == decide (B = T ^^^ 2 ^ d)) = true := q
  exact decide_eq_decide.mp (eq_of_beq q2)
theorem pc_none : ∀ T, T < 64 → pc6 T = 0 → T = 0 := by decide +kernel
theorem ob_le : ∀ l, (∀ c ∈ l, c < 6) → pc6 (ob l) ≤ l.length
  | [], _ => by decide
  | c :: l, h => by
    have h2 : ∀ x ∈ l, x < 6 := fun x hx => h x (List.mem_cons_of_mem _ hx)
    have ih := ob_le l h2
    have hc := h c List.mem_cons_self
    rw [ob, List.length_cons]
    by_cases b : (ob l).testBit c = true
    · rw [pc_same (ob l) (ob_lt l h2) c hc b]
      omega
    · rw [pc_or (ob l) (ob_lt l h2) c hc (bitf b)]
      omega
/-- all orders of a set, the lowest first -/
def ords : Nat → Nat → List (List Nat)
  | 0, T => if T = 0 then [[]] else []
  | n + 1, T => (List.range 6).flatMap (fun d => if T.testBit d = true then (ords n (T ^^^ 2 ^ d)).map (fun L => d :: L) else [])
theorem lst_ords : ∀ n T, T < 64 → pc6 T = n → (lst n).filter (fun L => decide (ob L = T)) = ords n T
  | 0, T, hT, h => by
    rw [pc_none T hT h]
    decide
  | n + 1, T, hT, h => by
    rw [lst_succ, List.filter_flatMap, ords]
    refine flat_cong _ (fun d hd => ?_)
    have hd6 := List.mem_range.mp hd
    rw [List.filter_map]
    by_cases b : T.testBit d = true
    · obtain ⟨h1, h2⟩ := pc_less T hT d hd6 b
      rw [if_pos b, ← lst_ords n (T ^^^ 2 ^ d) h2 (by omega)]
      congr 1
      refine List.filter_congr (fun L hL => ?_)
      obtain ⟨q1, q2⟩ := lst_mem hL
      have q3 := ob_le L q2
      show decide (ob L ||| 2 ^ d = T) = decide (ob L = T ^^^ 2 ^ d)
      exact decide_eq_decide.mpr (pc_split T hT d hd6 b (ob L) (ob_lt L q2) (by omega))
    · rw [if_neg b]
      have e : (lst n).filter ((fun L => decide (ob L = T)) ∘ fun L => d :: L) = [] := by
        rw [List.filter_eq_nil_iff]
        intro L _ z
        refine b ?_
        have z2 : ob L ||| 2 ^ d = T := of_decide_eq_true z
        rw [← z2, testOr]
        simp
      rw [e]
      rfl
/-! the next order of a line -/
/-- the last place below k with one no higher behind it -/
def pvt (F : Nat → Nat) : Nat → Option Nat
  | 0 => none
  | k + 1 => if F k ≤ F (k + 1) then some k else pvt F k
def oth (F : Nat → Nat) (p : Nat) : Nat → Nat
  | 0 => 0
  | k + 1 => if k + 1 ≤ p then k + 1 else if F p ≤ F (k + 1) then k + 1 else oth F p k
def trd (F : Nat → Nat) (p q : Nat) : Nat → Nat := fun j => if j = q then F p else if j = p then F q else F j
def rvs : Nat → Nat → Nat → (Nat → Nat) → Nat → Nat
  | 0, _, _, F => F
  | m + 1, lo, hi, F => if hi ≤ lo then F else rvs m (lo + 1) (hi - 1) (trd F lo hi)
def nxF (n : Nat) (F : Nat → Nat) : Option (Nat → Nat) := match pvt F (n - 1) with
  | none => none
  | some p => some (rvs 6 (p + 1) (n - 1) (trd F p (oth F p (n - 1))))
def nxL (L : List Nat) : Option (List Nat) := match nxF L.length (fun j => L.getD j 0) with
  | none => none
  | some G => some ((List.range L.length).map G)
/-- each is followed by its next one -/
def chain : List (List Nat) → Bool
  | [] => true
  | [L] => decide (nxL L = none)
  | L :: M :: r => decide (nxL L = some M) && chain (M :: r)
/-- the set, by number -/
def tl6 (T : Nat) : List Nat := (List.range 6).filter (fun c => T.testBit c)
theorem ords_chain : ∀ T, T < 64 → chain (ords (pc6 T) T) = true := by decide +kernel
theorem ords_head : ∀ T, T < 64 → (ords (pc6 T) T).head? = some (tl6 T) ∧ (ords (pc6 T) T).length ≤ 720 := by decide +kernel
theorem tl6_thr : ∀ n, n < 7 → ∀ g, g < 2 ^ n → (List.range' 0 n).filter (fun c => !(g.testBit c)) = tl6 (thr n g) := by decide +kernel
theorem mNum_tl {μ : MS} (hW : mWF μ) : mNum μ = tl6 (thr (mN μ) (mG μ)) := by
  have h66 := hW.1
  rw [← tl6_thr (mN μ) (by omega) (mG μ) hW.2.2.2.2.2.1]
  rfl
