/-! layered graphs: the best path, by values, then by the order of the paths (no machine in this part) -/
def g_ok (N : Nat → Nat) (al : Nat → Nat → Prop) (L : Nat) (p : Nat → Nat) : Prop := ∀ i, i ≤ L → p i < N i ∧ al i (p i)
def g_pv (v : Nat → Nat → Nat) (lk : Nat → Nat → Nat → Nat) : Nat → (Nat → Nat) → Nat
  | 0, p => v 0 (p 0)
  | m + 1, p => g_pv v lk m p + lk m (p m) (p (m + 1)) + v (m + 1) (p (m + 1))
def g_lt (L : Nat) (p q : Nat → Nat) : Prop := ∃ i, i ≤ L ∧ (∀ j, j < i → p j = q j) ∧ p i < q i
def g_Best (N : Nat → Nat) (al : Nat → Nat → Prop) (v : Nat → Nat → Nat) (lk : Nat → Nat → Nat → Nat) (L : Nat) (p : Nat → Nat) : Prop := g_ok N al L p ∧ ∀ q, g_ok N al L q → g_pv v lk L p < g_pv v lk L q ∨ (g_pv v lk L p = g_pv v lk L q ∧ ¬ g_lt L q p)
theorem g_tri (L : Nat) (p q : Nat → Nat) : g_lt L p q ∨ g_lt L q p ∨ ∀ i, i ≤ L → p i = q i := by
  induction L with
  | zero =>
    rcases Nat.lt_trichotomy (p 0) (q 0) with h | h | h
    · exact Or.inl ⟨0, Nat.le_refl _, fun j hj => absurd hj (Nat.not_lt_zero j), h⟩
    · exact Or.inr (Or.inr (fun i hi => by rw [Nat.le_zero.mp hi]; exact h))
    · exact Or.inr (Or.inl ⟨0, Nat.le_refl _, fun j hj => absurd hj (Nat.not_lt_zero j), h⟩)
  | succ L ih =>
    rcases ih with ⟨i, h1, h2, h3⟩ | ⟨i, h1, h2, h3⟩ | h
    · exact Or.inl ⟨i, Nat.le_succ_of_le h1, h2, h3⟩
    · exact Or.inr (Or.inl ⟨i, Nat.le_succ_of_le h1, h2, h3⟩)
    · rcases Nat.lt_trichotomy (p (L + 1)) (q (L + 1)) with g | g | g
      · exact Or.inl ⟨L + 1, Nat.le_refl _, fun j hj => h j (Nat.lt_succ_iff.mp hj), g⟩
      · refine Or.inr (Or.inr (fun i hi => ?_))
        rcases Nat.lt_or_ge i (L + 1) with k | k
        · exact h i (Nat.lt_succ_iff.mp k)
        · rw [Nat.le_antisymm hi k]; exact g
      · exact Or.inr (Or.inl ⟨L + 1, Nat.le_refl _, fun j hj => (h j (Nat.lt_succ_iff.mp hj)).symm, g⟩)
theorem g_unique {N : Nat → Nat} {al : Nat → Nat → Prop} {v : Nat → Nat → Nat} {lk : Nat → Nat → Nat → Nat} {L : Nat} {p q : Nat → Nat} (hp : g_Best N al v lk L p) (hq : g_Best N al v lk L q) : ∀ i, i ≤ L → p i = q i := by
  have h1 := hp.2 q hq.1
  have h2 := hq.2 p hp.1
  have e : g_pv v lk L p = g_pv v lk L q := by rcases h1 with h1 | h1 <;> rcases h2 with h2 | h2 <;> omega
  have n1 : ¬ g_lt L q p := by rcases h1 with h1 | h1; (exact absurd e (by omega)); exact h1.2
  have n2 : ¬ g_lt L p q := by rcases h2 with h2 | h2; (exact absurd e (by omega)); exact h2.2
  rcases g_tri L p q with h | h | h
  · exact absurd h n2
  · exact absurd h n1
  · exact h
theorem g_pv_congr {v : Nat → Nat → Nat} {lk : Nat → Nat → Nat → Nat} {p q : Nat → Nat} : ∀ {L : Nat}, (∀ i, i ≤ L → p i = q i) → g_pv v lk L p = g_pv v lk L q
  | 0, h => by unfold g_pv; rw [h 0 (Nat.le_refl _)]
  | m + 1, h => by
    unfold g_pv
    rw [g_pv_congr (L := m) (fun i hi => h i (Nat.le_succ_of_le hi)), h m (Nat.le_succ m), h (m + 1) (Nat.le_refl _)]
/-- one graph seen as another: allowed states go one to one, in order -/
theorem g_Best_map {N N' : Nat → Nat} {al al' : Nat → Nat → Prop} {v v' : Nat → Nat → Nat} {lk lk' : Nat → Nat → Nat → Nat} {L : Nat} {p : Nat → Nat} (c : Nat → Nat → Nat)
    (h1 : ∀ m, m ≤ L → ∀ s, s < N m → al m s → c m s < N' m ∧ al' m (c m s) ∧ v' m (c m s) = v m s) (h2 : ∀ m, m ≤ L → ∀ a, a < N' m → al' m a → ∃ s, s < N m ∧ al m s ∧ c m s = a)
    (h3 : ∀ m, m ≤ L → ∀ s t, s < N m → al m s → t < N m → al m t → s < t → c m s < c m t) (h4 : ∀ m, m < L → ∀ s t, s < N m → al m s → t < N (m + 1) → al (m + 1) t → lk' m (c m s) (c (m + 1) t) = lk m s t)
    (hp : g_Best N al v lk L p) : g_Best N' al' v' lk' L (fun m => c m (p m)) ∧ g_pv v' lk' L (fun m => c m (p m)) = g_pv v lk L p := by
  have hv : ∀ q, g_ok N al L q → ∀ k, k ≤ L → g_pv v' lk' k (fun m => c m (q m)) = g_pv v lk k q := by
    intro q hq k
    induction k with
    | zero => intro _; exact (h1 0 (Nat.zero_le _) _ (hq 0 (Nat.zero_le _)).1 (hq 0 (Nat.zero_le _)).2).2.2
    | succ k ih =>
      intro hk
      unfold g_pv
      have a := hq k (by omega)
      have b := hq (k + 1) hk
      rw [ih (by omega), h4 k (by omega) _ _ a.1 a.2 b.1 b.2, (h1 (k + 1) hk _ b.1 b.2).2.2]
  refine ⟨⟨fun i hi => ?_, fun q hq => ?_⟩, hv p hp.1 L (Nat.le_refl _)⟩
  · have a := hp.1 i hi
    exact ⟨(h1 i hi _ a.1 a.2).1, (h1 i hi _ a.1 a.2).2.1⟩
  · have hex : ∀ m, ∃ s, m ≤ L → s < N m ∧ al m s ∧ c m s = q m := by
      intro m
      by_cases hm : m ≤ L
      · obtain ⟨s, a1, a2, a3⟩ := h2 m hm (q m) (hq m hm).1 (hq m hm).2
        exact ⟨s, fun _ => ⟨a1, a2, a3⟩⟩
      · exact ⟨0, fun h => absurd h hm⟩
    let r : Nat → Nat := fun m => Classical.choose (hex m)
    have hr : ∀ m, m ≤ L → r m < N m ∧ al m (r m) ∧ c m (r m) = q m := fun m hm => Classical.choose_spec (hex m) hm
    have hrok : g_ok N al L r := fun i hi => ⟨(hr i hi).1, (hr i hi).2.1⟩
    have e1 : g_pv v' lk' L q = g_pv v lk L r := by
      rw [← hv r hrok L (Nat.le_refl _)]
      exact g_pv_congr (fun i hi => (hr i hi).2.2.symm)
    rw [e1, hv p hp.1 L (Nat.le_refl _)]
    rcases hp.2 r hrok with h | ⟨h, hn⟩
    · exact Or.inl h
    · refine Or.inr ⟨h, fun hlt => hn ?_⟩
      obtain ⟨i, a1, a2, a3⟩ := hlt
      have a3 : q i < c i (p i) := a3
      have inj : ∀ j, j ≤ L → q j = c j (p j) → r j = p j := by
        intro j hj e
        have b1 := hr j hj
        have b2 := hp.1 j hj
        rcases Nat.lt_trichotomy (r j) (p j) with k | k | k
        · have := h3 j hj _ _ b1.1 b1.2.1 b2.1 b2.2 k
          omega
        · exact k
        · have := h3 j hj _ _ b2.1 b2.2 b1.1 b1.2.1 k
          omega
      refine ⟨i, a1, fun j hj => inj j (by omega) (a2 j hj), ?_⟩
      have b1 := hr i a1
      have b2 := hp.1 i a1
      rcases Nat.lt_trichotomy (r i) (p i) with k | k | k
      · exact k
      · rw [k] at b1
        have := b1.2.2
        omega
      · have := h3 i a1 _ _ b2.1 b2.2 b1.1 b1.2.1 k
        have := b1.2.2
        omega
/-- the value from a layer on -/
def g_sv (v : Nat → Nat → Nat) (lk : Nat → Nat → Nat → Nat) (p : Nat → Nat) : Nat → Nat → Nat
  | 0, m => v m (p m)
  | k + 1, m => v m (p m) + lk m (p m) (p (m + 1)) + g_sv v lk p k (m + 1)
theorem g_split {v : Nat → Nat → Nat} {lk : Nat → Nat → Nat → Nat} {p : Nat → Nat} : ∀ (k m : Nat), g_pv v lk (m + k + 1) p = g_pv v lk m p + lk m (p m) (p (m + 1)) + g_sv v lk p k (m + 1)
  | 0, m => by
    show g_pv v lk (m + 1) p = _
    rfl
  | k + 1, m => by
    have h := g_split (v := v) (lk := lk) (p := p) k (m + 1)
    rw [show m + (k + 1) + 1 = m + 1 + k + 1 by omega, h]
    show g_pv v lk m p + lk m (p m) (p (m + 1)) + v (m + 1) (p (m + 1)) + lk (m + 1) (p (m + 1)) (p (m + 1 + 1)) + g_sv v lk p k (m + 1 + 1) = g_pv v lk m p + lk m (p m) (p (m + 1)) + (v (m + 1) (p (m + 1)) + lk (m + 1) (p (m + 1)) (p (m + 1 + 1)) + g_sv v lk p k (m + 1 + 1))
    omega
theorem g_whole {v : Nat → Nat → Nat} {lk : Nat → Nat → Nat → Nat} {p : Nat → Nat} : ∀ L : Nat, g_pv v lk L p = g_sv v lk p L 0
  | 0 => rfl
  | L + 1 => by
    have h := g_split (v := v) (lk := lk) (p := p) L 0
    rw [show 0 + L + 1 = L + 1 by omega] at h
    rw [h]
    rfl
/-- from the last layer back, then read off forward, the first of several -/
theorem g_back {N : Nat → Nat} {al : Nat → Nat → Prop} {v : Nat → Nat → Nat} {lk : Nat → Nat → Nat → Nat} {L : Nat} {p : Nat → Nat} {B : Nat → Nat → Nat}
    (hL : ∀ s, s < N L → al L s → B L s = v L s)
    (hB : ∀ m, m < L → ∀ s, s < N m → al m s → (∃ t, t < N (m + 1) ∧ al (m + 1) t ∧ B m s = v m s + lk m s t + B (m + 1) t) ∧ ∀ t, t < N (m + 1) → al (m + 1) t → B m s ≤ v m s + lk m s t + B (m + 1) t)
    (h0 : p 0 < N 0 ∧ al 0 (p 0) ∧ ∀ s, s < N 0 → al 0 s → B 0 (p 0) ≤ B 0 s ∧ (B 0 s = B 0 (p 0) → p 0 ≤ s))
    (hp : ∀ m, m < L → p (m + 1) < N (m + 1) ∧ al (m + 1) (p (m + 1)) ∧ ∀ t, t < N (m + 1) → al (m + 1) t → lk m (p m) (p (m + 1)) + B (m + 1) (p (m + 1)) ≤ lk m (p m) t + B (m + 1) t ∧ (lk m (p m) t + B (m + 1) t = lk m (p m) (p (m + 1)) + B (m + 1) (p (m + 1)) → p (m + 1) ≤ t)) :
    g_Best N al v lk L p ∧ g_pv v lk L p = B 0 (p 0) := by
  have hok : g_ok N al L p := by
    intro i hi
    cases i with
    | zero => exact ⟨h0.1, h0.2.1⟩
    | succ i => exact ⟨(hp i (by omega)).1, (hp i (by omega)).2.1⟩
  have low : ∀ q, g_ok N al L q → ∀ k m, m + k = L → B m (q m) ≤ g_sv v lk q k m := by
    intro q hq k
    induction k with
    | zero => intro m hm; rw [show m = L by omega]; exact Nat.le_of_eq (hL _ (hq L (Nat.le_refl _)).1 (hq L (Nat.le_refl _)).2)
    | succ k ih =>
      intro m hm
      have a := hq m (by omega)
      have b := hq (m + 1) (by omega)
      have h1 := (hB m (by omega) _ a.1 a.2).2 _ b.1 b.2
      have h2 := ih (m + 1) (by omega)
      show _ ≤ v m (q m) + lk m (q m) (q (m + 1)) + g_sv v lk q k (m + 1)
      omega
  have own : ∀ k m, m + k = L → g_sv v lk p k m = B m (p m) := by
    intro k
    induction k with
    | zero => intro m hm; rw [show m = L by omega]; exact (hL _ (hok L (Nat.le_refl _)).1 (hok L (Nat.le_refl _)).2).symm
    | succ k ih =>
      intro m hm
      have a := hok m (by omega)
      obtain ⟨⟨t, t1, t2, t3⟩, hmin⟩ := hB m (by omega) _ a.1 a.2
      have hpm := hp m (by omega)
      have h1 := (hpm.2.2 t t1 t2).1
      have h2 := hmin _ hpm.1 hpm.2.1
      have h3 := ih (m + 1) (by omega)
      show v m (p m) + lk m (p m) (p (m + 1)) + g_sv v lk p k (m + 1) = _
      omega
  have hpv : g_pv v lk L p = B 0 (p 0) := by rw [g_whole]; exact own L 0 (by omega)
  refine ⟨⟨hok, fun q hq => ?_⟩, hpv⟩
  have q0 := hq 0 (Nat.zero_le _)
  have hq1 : B 0 (q 0) ≤ g_pv v lk L q := by rw [g_whole]; exact low q hq L 0 (by omega)
  have hq2 := (h0.2.2 _ q0.1 q0.2).1
  rcases Nat.lt_or_ge (g_pv v lk L p) (g_pv v lk L q) with h | h
  · exact Or.inl h
  · have heq : g_pv v lk L p = g_pv v lk L q := by omega
    refine Or.inr ⟨heq, fun hlt => ?_⟩
    obtain ⟨i, a1, a2, a3⟩ := hlt
    cases i with
    | zero =>
      have := (h0.2.2 _ q0.1 q0.2).2 (by omega)
      omega
    | succ i =>
      have e1 := g_split (v := v) (lk := lk) (p := p) (L - i - 1) i
      have e2 := g_split (v := v) (lk := lk) (p := q) (L - i - 1) i
      rw [show i + (L - i - 1) + 1 = L by omega] at e1 e2
      have e3 : g_pv v lk i q = g_pv v lk i p := g_pv_congr (fun j hj => a2 j (by omega))
      have e4 : q i = p i := a2 i (by omega)
      rw [e3, e4] at e2
      have e5 := own (L - i - 1) (i + 1) (by omega)
      have e6 := low q hq (L - i - 1) (i + 1) (by omega)
      have b := hq (i + 1) a1
      have h1 := (hp i (by omega)).2.2 _ b.1 b.2
      have h2 := h1.2 (by omega)
      omega
/-- forward: at each state the best way to it, the first of several by ranks -/
def g_way (fr : Nat → Nat → Nat) : Nat → Nat → Nat → Nat
  | 0, s => fun _ => s
  | m + 1, s => fun i => if i ≤ m then g_way fr m (fr (m + 1) s) i else s
theorem g_way_last (fr : Nat → Nat → Nat) : ∀ (m s : Nat), g_way fr m s m = s
  | 0, _ => rfl
  | m + 1, s => by
    unfold g_way
    rw [if_neg (by omega)]
theorem g_way_low (fr : Nat → Nat → Nat) (m s i : Nat) (h : i ≤ m) : g_way fr (m + 1) s i = g_way fr m (fr (m + 1) s) i := by
  show (if i ≤ m then g_way fr m (fr (m + 1) s) i else s) = _
  rw [if_pos h]
theorem g_fore {N : Nat → Nat} {al : Nat → Nat → Prop} {v : Nat → Nat → Nat} {lk : Nat → Nat → Nat → Nat} {L : Nat} {f rk fr : Nat → Nat → Nat}
    (h0 : ∀ s, s < N 0 → al 0 s → f 0 s = v 0 s ∧ rk 0 s = s)
    (hm : ∀ m, m < L → ∀ t, t < N (m + 1) → al (m + 1) t → fr (m + 1) t < N m ∧ al m (fr (m + 1) t) ∧ f (m + 1) t = f m (fr (m + 1) t) + lk m (fr (m + 1) t) t + v (m + 1) t ∧
      ∀ s, s < N m → al m s → f m (fr (m + 1) t) + lk m (fr (m + 1) t) t < f m s + lk m s t ∨ (f m (fr (m + 1) t) + lk m (fr (m + 1) t) t = f m s + lk m s t ∧ rk m (fr (m + 1) t) ≤ rk m s))
    (hr : ∀ m, m < L → ∀ t u, t < N (m + 1) → al (m + 1) t → u < N (m + 1) → al (m + 1) u → (rk (m + 1) t < rk (m + 1) u ↔ (rk m (fr (m + 1) t) < rk m (fr (m + 1) u) ∨ (rk m (fr (m + 1) t) = rk m (fr (m + 1) u) ∧ t < u)))) :
    ∀ m, m ≤ L → (∀ s, s < N m → al m s → g_ok N al m (g_way fr m s) ∧ g_pv v lk m (g_way fr m s) = f m s ∧ ∀ q, g_ok N al m q → q m = s → f m s < g_pv v lk m q ∨ (f m s = g_pv v lk m q ∧ ¬ g_lt m q (g_way fr m s))) ∧
      ∀ s t, s < N m → al m s → t < N m → al m t → (rk m s < rk m t ↔ g_lt m (g_way fr m s) (g_way fr m t)) := by
  intro m
  induction m with
  | zero =>
    intro _
    refine ⟨fun s hs ha => ⟨fun i hi => ?_, ?_, fun q hq e => ?_⟩, fun s t hs ha ht hb => ?_⟩
    · rw [Nat.le_zero.mp hi]; exact ⟨hs, ha⟩
    · exact (h0 s hs ha).1.symm
    · refine Or.inr ⟨?_, fun hlt => ?_⟩
      · show f 0 s = v 0 (q 0)
        rw [e, (h0 s hs ha).1]
      · obtain ⟨i, a1, a2, a3⟩ := hlt
        rw [Nat.le_zero.mp a1, e] at a3
        exact Nat.lt_irrefl s a3
    · rw [(h0 s hs ha).2, (h0 t ht hb).2]
      refine ⟨fun h => ⟨0, Nat.le_refl _, fun j hj => absurd hj (Nat.not_lt_zero j), h⟩, fun h => ?_⟩
      obtain ⟨i, a1, a2, a3⟩ := h
      rw [Nat.le_zero.mp a1] at a3
      exact a3
  | succ m ih =>
    intro hmL
    obtain ⟨ih1, ih2⟩ := ih (by omega)
    have eqv : ∀ s t, s < N m → al m s → t < N m → al m t → rk m s = rk m t → s = t := by
      intro s t hs ha ht hb e
      rcases g_tri m (g_way fr m s) (g_way fr m t) with h | h | h
      · have := (ih2 s t hs ha ht hb).mpr h
        omega
      · have := (ih2 t s ht hb hs ha).mpr h
        omega
      · have := h m (Nat.le_refl _)
        rw [g_way_last, g_way_last] at this
        exact this
    refine ⟨fun t ht ha => ?_, fun t u ht ha hu hb => ?_⟩
    · obtain ⟨b1, b2, b3, b4⟩ := hm m (by omega) t ht ha
      obtain ⟨c1, c2, c3⟩ := ih1 _ b1 b2
      have hpv : g_pv v lk (m + 1) (g_way fr (m + 1) t) = f (m + 1) t := by
        unfold g_pv
        rw [g_pv_congr (L := m) (q := g_way fr m (fr (m + 1) t)) (fun i hi => g_way_low fr m t i hi), c2, g_way_last, g_way_low fr m t m (Nat.le_refl _), g_way_last, b3]
      refine ⟨fun i hi => ?_, hpv, fun q hq e => ?_⟩
      · rcases Nat.lt_or_ge i (m + 1) with k | k
        · rw [g_way_low fr m t i (by omega)]
          exact c1 i (by omega)
        · rw [show i = m + 1 by omega, g_way_last]
          exact ⟨ht, ha⟩
      · have qm := hq m (by omega)
        have hq' : g_ok N al m q := fun i hi => hq i (by omega)
        have d1 := (ih1 _ qm.1 qm.2).2.2 q hq' rfl
        have d2 := b4 _ qm.1 qm.2
        have e1 : g_pv v lk (m + 1) q = g_pv v lk m q + lk m (q m) t + v (m + 1) t := by
          show g_pv v lk m q + lk m (q m) (q (m + 1)) + v (m + 1) (q (m + 1)) = _
          rw [e]
        rw [e1, b3]
        rcases Nat.lt_or_ge (f m (fr (m + 1) t) + lk m (fr (m + 1) t) t + v (m + 1) t) (g_pv v lk m q + lk m (q m) t + v (m + 1) t) with k | k
        · exact Or.inl k
        · refine Or.inr ⟨by omega, fun hlt => ?_⟩
          have d3 : f m (q m) = g_pv v lk m q := by omega
          have d4 : ¬ g_lt m q (g_way fr m (q m)) := by
            rcases d1 with d1 | d1
            · omega
            · exact d1.2
          have d5 : rk m (fr (m + 1) t) ≤ rk m (q m) := by
            rcases d2 with d2 | d2
            · omega
            · exact d2.2
          obtain ⟨i, a1, a2, a3⟩ := hlt
          have hi : i ≤ m := by
            rcases Nat.lt_or_ge i (m + 1) with k | k
            · omega
            · rw [show i = m + 1 by omega, g_way_last, e] at a3
              exact absurd a3 (Nat.lt_irrefl _)
          have hlt2 : g_lt m q (g_way fr m (fr (m + 1) t)) := ⟨i, hi, fun j hj => by rw [a2 j hj, g_way_low fr m t j (by omega)], by rw [g_way_low fr m t i hi] at a3; exact a3⟩
          -- q is no later than the best way to its own end, which is no earlier than ours
          rcases g_tri m (g_way fr m (q m)) (g_way fr m (fr (m + 1) t)) with k1 | k1 | k1
          · have := (ih2 _ _ qm.1 qm.2 b1 b2).mpr k1
            omega
          · -- ours before the best way to q's end, and q before ours
            apply d4
            obtain ⟨i1, x1, x2, x3⟩ := hlt2
            obtain ⟨i2, y1, y2, y3⟩ := k1
            rcases Nat.lt_trichotomy i1 i2 with z | z | z
            · exact ⟨i1, x1, fun j hj => by rw [x2 j hj, y2 j (by omega)], by rw [← y2 i1 z]; exact x3⟩
            · subst z
              exact ⟨i1, x1, fun j hj => by rw [x2 j hj, y2 j hj], Nat.lt_trans x3 y3⟩
            · exact ⟨i2, y1, fun j hj => by rw [x2 j (by omega), y2 j hj], by rw [x2 i2 z]; exact y3⟩
          · apply d4
            obtain ⟨i1, x1, x2, x3⟩ := hlt2
            exact ⟨i1, x1, fun j hj => by rw [x2 j hj, k1 j (by omega)], by rw [k1 i1 x1]; exact x3⟩
    · obtain ⟨b1, b2, -⟩ := hm m (by omega) t ht ha
      obtain ⟨c1, c2, -⟩ := hm m (by omega) u hu hb
      rw [hr m (by omega) t u ht ha hu hb]
      refine ⟨fun h => ?_, fun h => ?_⟩
      · rcases h with h | ⟨h, h'⟩
        · obtain ⟨i, a1, a2, a3⟩ := (ih2 _ _ b1 b2 c1 c2).mp h
          exact ⟨i, by omega, fun j hj => by rw [g_way_low fr m t j (by omega), g_way_low fr m u j (by omega)]; exact a2 j hj, by rw [g_way_low fr m t i a1, g_way_low fr m u i a1]; exact a3⟩
        · have e := eqv _ _ b1 b2 c1 c2 h
          exact ⟨m + 1, Nat.le_refl _, fun j hj => by rw [g_way_low fr m t j (by omega), g_way_low fr m u j (by omega), e], by rw [g_way_last, g_way_last]; exact h'⟩
      · obtain ⟨i, a1, a2, a3⟩ := h
        rcases Nat.lt_or_ge i (m + 1) with k | k
        · refine Or.inl ((ih2 _ _ b1 b2 c1 c2).mpr ⟨i, by omega, fun j hj => ?_, ?_⟩)
          · have := a2 j hj
            rwa [g_way_low fr m t j (by omega), g_way_low fr m u j (by omega)] at this
          · rwa [g_way_low fr m t i (by omega), g_way_low fr m u i (by omega)] at a3
        · rw [show i = m + 1 by omega, g_way_last, g_way_last] at a3
          have e : fr (m + 1) t = fr (m + 1) u := by
            have := a2 m (by omega)
            rwa [g_way_low fr m t m (Nat.le_refl _), g_way_low fr m u m (Nat.le_refl _), g_way_last, g_way_last] at this
          exact Or.inr ⟨by rw [e], a3⟩
/-- the end of the forward way -/
theorem g_fore_end {N : Nat → Nat} {al : Nat → Nat → Prop} {v : Nat → Nat → Nat} {lk : Nat → Nat → Nat → Nat} {L b : Nat} {f rk fr : Nat → Nat → Nat}
    (H : (∀ s, s < N L → al L s → g_ok N al L (g_way fr L s) ∧ g_pv v lk L (g_way fr L s) = f L s ∧ ∀ q, g_ok N al L q → q L = s → f L s < g_pv v lk L q ∨ (f L s = g_pv v lk L q ∧ ¬ g_lt L q (g_way fr L s))) ∧
      ∀ s t, s < N L → al L s → t < N L → al L t → (rk L s < rk L t ↔ g_lt L (g_way fr L s) (g_way fr L t)))
    (hb : b < N L ∧ al L b ∧ ∀ s, s < N L → al L s → f L b < f L s ∨ (f L b = f L s ∧ rk L b ≤ rk L s)) : g_Best N al v lk L (g_way fr L b) ∧ g_pv v lk L (g_way fr L b) = f L b := by
  obtain ⟨h1, h2, h3⟩ := hb
  obtain ⟨c1, c2, c3⟩ := H.1 b h1 h2
  refine ⟨⟨c1, fun q hq => ?_⟩, c2⟩
  have qL := hq L (Nat.le_refl _)
  have d := (H.1 _ qL.1 qL.2).2.2 q hq rfl
  have e := h3 _ qL.1 qL.2
  rw [c2]
  rcases Nat.lt_or_ge (f L b) (g_pv v lk L q) with k | k
  · exact Or.inl k
  · refine Or.inr ⟨by omega, fun hlt => ?_⟩
    have d4 : ¬ g_lt L q (g_way fr L (q L)) := by
      rcases d with d | d
      · omega
      · exact d.2
    have d5 : rk L b ≤ rk L (q L) := by
      rcases e with e | e
      · omega
      · exact e.2
    rcases g_tri L (g_way fr L (q L)) (g_way fr L b) with k1 | k1 | k1
    · have := (H.2 _ _ qL.1 qL.2 h1 h2).mpr k1
      omega
    · apply d4
      obtain ⟨i1, x1, x2, x3⟩ := hlt
      obtain ⟨i2, y1, y2, y3⟩ := k1
      rcases Nat.lt_trichotomy i1 i2 with z | z | z
      · exact ⟨i1, x1, fun j hj => by rw [x2 j hj, y2 j (by omega)], by rw [← y2 i1 z]; exact x3⟩
      · subst z
        exact ⟨i1, x1, fun j hj => by rw [x2 j hj, y2 j hj], Nat.lt_trans x3 y3⟩
      · exact ⟨i2, y1, fun j hj => by rw [x2 j (by omega), y2 j hj], by rw [x2 i2 z]; exact y3⟩
    · apply d4
      obtain ⟨i1, x1, x2, x3⟩ := hlt
      exact ⟨i1, x1, fun j hj => by rw [x2 j hj, k1 j (by omega)], by rw [k1 i1 x1]; exact x3⟩
