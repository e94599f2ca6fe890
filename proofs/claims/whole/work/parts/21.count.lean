/-! least cost and how many: sums over layers, forward and back (no machine in this part) -/
abbrev c_T : Type := Option (Nat × Nat)
def c_add : c_T → c_T → c_T
  | none, b => b
  | some x, none => some x
  | some x, some y => if x.1 < y.1 then some x else if y.1 < x.1 then some y else some (x.1, x.2 + y.2)
def c_mul : c_T → c_T → c_T
  | some x, some y => some (x.1 + y.1, x.2 * y.2)
  | _, _ => none
def c_sum : Nat → (Nat → c_T) → c_T
  | 0, _ => none
  | n + 1, f => c_add (c_sum n f) (f n)
theorem c_add_none (a : c_T) : c_add a none = a := by cases a <;> rfl
theorem c_none_add (a : c_T) : c_add none a = a := by cases a <;> rfl
theorem c_mul_none (a : c_T) : c_mul a none = none := by cases a <;> rfl
theorem c_none_mul (a : c_T) : c_mul none a = none := by cases a <;> rfl
theorem c_add_comm (a b : c_T) : c_add a b = c_add b a := by
  cases a with
  | none => rw [c_add_none, c_none_add]
  | some x =>
    cases b with
    | none => rfl
    | some y =>
      show (if x.1 < y.1 then some x else if y.1 < x.1 then some y else some (x.1, x.2 + y.2)) = (if y.1 < x.1 then some y else if x.1 < y.1 then some x else some (y.1, y.2 + x.2))
      by_cases h : x.1 < y.1
      · rw [if_pos h, if_neg (by omega), if_pos h]
      · rw [if_neg h]
        by_cases g : y.1 < x.1
        · rw [if_pos g, if_pos g]
        · rw [if_neg g, if_neg g, if_neg h, show x.1 = y.1 by omega, Nat.add_comm]
theorem c_add_assoc (a b c : c_T) : c_add (c_add a b) c = c_add a (c_add b c) := by
  cases a with
  | none => rw [c_none_add, c_none_add]
  | some x =>
    cases b with
    | none => rw [c_add_none, c_none_add]
    | some y =>
      cases c with
      | none => rw [c_add_none, c_add_none]
      | some z =>
        obtain ⟨x1, x2⟩ := x
        obtain ⟨y1, y2⟩ := y
        obtain ⟨z1, z2⟩ := z
        by_cases h1 : x1 < y1 <;> by_cases h2 : y1 < x1 <;> by_cases h3 : y1 < z1 <;> by_cases h4 : z1 < y1 <;> by_cases h5 : x1 < z1 <;> by_cases h6 : z1 < x1 <;> first | omega | simp only [c_add, h1, h2, h3, h4, h5, h6, if_true, if_false, ite_true, ite_false, Nat.add_assoc]
theorem c_mul_comm (a b : c_T) : c_mul a b = c_mul b a := by
  cases a <;> cases b <;> first | rfl | (show some _ = some _; rw [Nat.add_comm, Nat.mul_comm])
theorem c_mul_assoc (a b c : c_T) : c_mul (c_mul a b) c = c_mul a (c_mul b c) := by
  cases a <;> cases b <;> cases c <;> first | rfl | (show some _ = some _; rw [Nat.add_assoc, Nat.mul_assoc])
theorem c_mul_one (a : c_T) : c_mul a (some (0, 1)) = a := by
  cases a with
  | none => rfl
  | some x => show some (x.1 + 0, x.2 * 1) = _; rw [Nat.mul_one]; rfl
theorem c_mul_add (a b c : c_T) : c_mul a (c_add b c) = c_add (c_mul a b) (c_mul a c) := by
  cases a with
  | none => rw [c_none_mul, c_none_mul, c_none_mul]; rfl
  | some x =>
    cases b with
    | none => rw [c_none_add, c_mul_none, c_none_add]
    | some y =>
      cases c with
      | none => rw [c_add_none, c_mul_none, c_add_none]
      | some z =>
        obtain ⟨x1, x2⟩ := x
        obtain ⟨y1, y2⟩ := y
        obtain ⟨z1, z2⟩ := z
        by_cases h1 : y1 < z1
        · have h2 : x1 + y1 < x1 + z1 := by omega
          simp only [c_add, c_mul, h1, h2, if_true]
        · by_cases h3 : z1 < y1
          · have h2 : ¬ x1 + y1 < x1 + z1 := by omega
            have h4 : x1 + z1 < x1 + y1 := by omega
            simp only [c_add, c_mul, h1, h2, h3, h4, if_true, if_false]
          · have h2 : ¬ x1 + y1 < x1 + z1 := by omega
            have h4 : ¬ x1 + z1 < x1 + y1 := by omega
            simp only [c_add, c_mul, h1, h2, h3, h4, if_false, Nat.mul_add]
theorem c_sum_congr {n : Nat} {f g : Nat → c_T} (h : ∀ i, i < n → f i = g i) : c_sum n f = c_sum n g := by
  induction n with
  | zero => rfl
  | succ n ih =>
    show c_add (c_sum n f) (f n) = c_add (c_sum n g) (g n)
    rw [ih (fun i hi => h i (by omega)), h n (by omega)]
theorem c_sum_none {n : Nat} {f : Nat → c_T} (h : ∀ i, i < n → f i = none) : c_sum n f = none := by
  induction n with
  | zero => rfl
  | succ n ih =>
    show c_add (c_sum n f) (f n) = none
    rw [ih (fun i hi => h i (by omega)), h n (by omega)]
    rfl
theorem c_sum_add (n : Nat) (f g : Nat → c_T) : c_sum n (fun i => c_add (f i) (g i)) = c_add (c_sum n f) (c_sum n g) := by
  induction n with
  | zero => rfl
  | succ n ih =>
    show c_add (c_sum n fun i => c_add (f i) (g i)) (c_add (f n) (g n)) = c_add (c_add (c_sum n f) (f n)) (c_add (c_sum n g) (g n))
    rw [ih, c_add_assoc, c_add_assoc, ← c_add_assoc (c_sum n g) (f n) (g n), c_add_comm (c_sum n g) (f n), c_add_assoc (f n)]
theorem c_sum_swap (n k : Nat) (f : Nat → Nat → c_T) : c_sum n (fun i => c_sum k (fun j => f i j)) = c_sum k (fun j => c_sum n (fun i => f i j)) := by
  induction n with
  | zero => exact (c_sum_none (fun i _ => rfl)).symm
  | succ n ih =>
    show c_add (c_sum n fun i => c_sum k (fun j => f i j)) (c_sum k (fun j => f n j)) = c_sum k (fun j => c_add (c_sum n (fun i => f i j)) (f n j))
    rw [ih, c_sum_add]
theorem c_mul_sum (a : c_T) (n : Nat) (f : Nat → c_T) : c_mul a (c_sum n f) = c_sum n (fun i => c_mul a (f i)) := by
  induction n with
  | zero => exact c_mul_none a
  | succ n ih =>
    show c_mul a (c_add (c_sum n f) (f n)) = c_add (c_sum n fun i => c_mul a (f i)) (c_mul a (f n))
    rw [c_mul_add, ih]
/-- the same terms in the same order, with gaps -/
theorem c_sum_map {n : Nat} {f f' : Nat → c_T} {c : Nat → Nat} {P : Nat → Prop} : ∀ {n' : Nat}, (∀ i, i < n → ¬ P i → f i = none) → (∀ i, i < n → P i → c i < n' ∧ f' (c i) = f i) → (∀ i j, i < j → j < n → P i → P j → c i < c j) → (∀ a, a < n' → (∀ i, i < n → P i → c i ≠ a) → f' a = none) → c_sum n f = c_sum n' f' := by
  induction n with
  | zero => intro n' h1 h2 h3 h4; exact (c_sum_none (fun a ha => h4 a ha (fun i hi => absurd hi (Nat.not_lt_zero i)))).symm
  | succ n ih =>
    intro n' h1 h2 h3 h4
    show c_add (c_sum n f) (f n) = _
    by_cases hP : P n
    · obtain ⟨b1, b2⟩ := h2 n (by omega) hP
      have cut : ∀ k, c n + 1 + k ≤ n' → c_sum (c n + 1 + k) f' = c_sum (c n + 1) f' := by
        intro k
        induction k with
        | zero => intro _; rfl
        | succ k ihk =>
          intro hk
          show c_add (c_sum (c n + 1 + k) f') (f' (c n + 1 + k)) = _
          rw [ihk (by omega), h4 (c n + 1 + k) (by omega) (fun i hi hPi e => ?_), c_add_none]
          rcases Nat.lt_or_ge i n with z | z
          · have := h3 i n z (by omega) hPi hP
            omega
          · rw [show i = n by omega] at e
            omega
      have e1 := cut (n' - (c n + 1)) (by omega)
      rw [show c n + 1 + (n' - (c n + 1)) = n' by omega] at e1
      rw [e1]
      show _ = c_add (c_sum (c n) f') (f' (c n))
      rw [b2, ih (n' := c n) (fun i hi => h1 i (by omega)) (fun i hi hPi => ⟨h3 i n hi (by omega) hPi hP, (h2 i (by omega) hPi).2⟩) (fun i j hij hj => h3 i j hij (by omega)) (fun a ha hn => h4 a (by omega) (fun i hi hPi e => ?_))]
      rcases Nat.lt_or_ge i n with z | z
      · exact hn i z hPi e
      · rw [show i = n by omega] at e
        omega
    · rw [h1 n (by omega) hP, c_add_none]
      exact ih (fun i hi => h1 i (by omega)) (fun i hi => h2 i (by omega)) (fun i j hij hj => h3 i j hij (by omega)) (fun a ha hn => h4 a ha (fun i hi hPi e => by
        rcases Nat.lt_or_ge i n with z | z
        · exact hn i z hPi e
        · rw [show i = n by omega] at hPi
          exact hP hPi))
def c_f (N : Nat → Nat) (w : Nat → Nat → c_T) (lk : Nat → Nat → Nat → Nat) : Nat → Nat → c_T
  | 0, s => w 0 s
  | m + 1, t => c_mul (w (m + 1) t) (c_sum (N m) (fun s => c_mul (some (lk m s t, 1)) (c_f N w lk m s)))
def c_b (N : Nat → Nat) (w : Nat → Nat → c_T) (lk : Nat → Nat → Nat → Nat) : Nat → Nat → Nat → c_T
  | 0, m, s => w m s
  | k + 1, m, s => c_mul (w m s) (c_sum (N (m + 1)) (fun t => c_mul (some (lk m s t, 1)) (c_b N w lk k (m + 1) t)))
def c_r (N : Nat → Nat) (w : Nat → Nat → c_T) (lk : Nat → Nat → Nat → Nat) : Nat → Nat → Nat → c_T
  | 0, _, _ => some (0, 1)
  | k + 1, m, s => c_sum (N (m + 1)) (fun t => c_mul (some (lk m s t, 1)) (c_b N w lk k (m + 1) t))
theorem c_b_r (N : Nat → Nat) (w : Nat → Nat → c_T) (lk : Nat → Nat → Nat → Nat) (k m s : Nat) : c_b N w lk k m s = c_mul (w m s) (c_r N w lk k m s) := by
  cases k with
  | zero => exact (c_mul_one _).symm
  | succ k => rfl
theorem c_move (N : Nat → Nat) (w : Nat → Nat → c_T) (lk : Nat → Nat → Nat → Nat) (k m : Nat) : c_sum (N m) (fun s => c_mul (c_f N w lk m s) (c_r N w lk (k + 1) m s)) = c_sum (N (m + 1)) (fun t => c_mul (c_f N w lk (m + 1) t) (c_r N w lk k (m + 1) t)) := by
  have e1 : ∀ s, c_mul (c_f N w lk m s) (c_r N w lk (k + 1) m s) = c_sum (N (m + 1)) (fun t => c_mul (c_mul (w (m + 1) t) (c_r N w lk k (m + 1) t)) (c_mul (some (lk m s t, 1)) (c_f N w lk m s))) := by
    intro s
    show c_mul (c_f N w lk m s) (c_sum (N (m + 1)) (fun t => c_mul (some (lk m s t, 1)) (c_b N w lk k (m + 1) t))) = _
    rw [c_mul_sum]
    refine c_sum_congr (fun t _ => ?_)
    rw [c_b_r, c_mul_comm (c_f N w lk m s), c_mul_assoc, c_mul_comm _ (c_f N w lk m s), ← c_mul_assoc, c_mul_comm]
  rw [c_sum_congr (fun s _ => e1 s), c_sum_swap]
  refine c_sum_congr (fun t _ => ?_)
  rw [← c_mul_sum]
  show _ = c_mul (c_mul (w (m + 1) t) (c_sum (N m) (fun s => c_mul (some (lk m s t, 1)) (c_f N w lk m s)))) (c_r N w lk k (m + 1) t)
  rw [c_mul_assoc, c_mul_assoc, c_mul_comm (c_r N w lk k (m + 1) t)]
/-- the count from the front is the count from the back -/
theorem c_both (N : Nat → Nat) (w : Nat → Nat → c_T) (lk : Nat → Nat → Nat → Nat) (L : Nat) : c_sum (N L) (c_f N w lk L) = c_sum (N 0) (c_b N w lk L 0) := by
  have h : ∀ k m, m + k = L → c_sum (N m) (fun s => c_mul (c_f N w lk m s) (c_r N w lk k m s)) = c_sum (N L) (c_f N w lk L) := by
    intro k
    induction k with
    | zero =>
      intro m hm
      rw [show m = L by omega]
      exact c_sum_congr (fun s _ => c_mul_one _)
    | succ k ih => intro m hm; rw [c_move]; exact ih (m + 1) (by omega)
  rw [← h L 0 (by omega)]
  exact c_sum_congr (fun s _ => (c_b_r N w lk L 0 s).symm)
/-- a count that is kept at C at most -/
def c_tr (C : Nat) (a : c_T) : c_T := a.map (fun x => (x.1, min C x.2))
theorem c_tr_add (C : Nat) (a b : c_T) : c_tr C (c_add (c_tr C a) (c_tr C b)) = c_tr C (c_add a b) := by
  cases a with
  | none => rw [c_none_add]; show c_tr C (c_add none (c_tr C b)) = _; rw [c_none_add]; cases b with
    | none => rfl
    | some y => show some (y.1, min C (min C y.2)) = some (y.1, min C y.2); rw [show min C (min C y.2) = min C y.2 by omega]
  | some x =>
    cases b with
    | none => show some (x.1, min C (min C x.2)) = some (x.1, min C x.2); rw [show min C (min C x.2) = min C x.2 by omega]
    | some y =>
      obtain ⟨x1, x2⟩ := x
      obtain ⟨y1, y2⟩ := y
      by_cases h1 : x1 < y1
      · simp only [c_tr, c_add, Option.map, h1, if_true, show min C (min C x2) = min C x2 by omega]
      · by_cases h2 : y1 < x1
        · simp only [c_tr, c_add, Option.map, h1, h2, if_true, if_false, show min C (min C y2) = min C y2 by omega]
        · simp only [c_tr, c_add, Option.map, h1, h2, if_false, show min C (min C x2 + min C y2) = min C (x2 + y2) by omega]
