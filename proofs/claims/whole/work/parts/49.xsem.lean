/-! the class: what the values and ways of a state are -/
noncomputable def xwV (S : sc_S) (m s : Nat) : c_T := @ite _ (xal S m s) (Classical.propDecidable _) (some (xv S m s, 1)) none
noncomputable def xwC (S : sc_S) (m s : Nat) : c_T := @ite _ (xal S m s) (Classical.propDecidable _) (some (xc S m s, 1)) none
theorem xwV_pos {S : sc_S} {m s : Nat} (h : xal S m s) : xwV S m s = some (xv S m s, 1) := if_pos h
theorem xwV_neg {S : sc_S} {m s : Nat} (h : ¬ xal S m s) : xwV S m s = none := if_neg h
theorem xwC_pos {S : sc_S} {m s : Nat} (h : xal S m s) : xwC S m s = some (xc S m s, 1) := if_pos h
theorem xwC_neg {S : sc_S} {m s : Nat} (h : ¬ xal S m s) : xwC S m s = none := if_neg h
def xlv (S : sc_S) (m s t : Nat) : Nat := 64 * xlk S m s t
noncomputable def cV (S : sc_S) (k m s : Nat) : c_T := c_b (xN S) (xwV S) (xlv S) k m s
noncomputable def cC (S : sc_S) (k m s : Nat) : c_T := c_b (xN S) (xwC S) (xlk S) k m s
noncomputable def rV (S : sc_S) (k m s : Nat) : c_T := c_r (xN S) (xwV S) (xlv S) k m s
noncomputable def rC (S : sc_S) (k m s : Nat) : c_T := c_r (xN S) (xwC S) (xlk S) k m s
theorem cV_r (S : sc_S) (k m s : Nat) : cV S k m s = c_mul (xwV S m s) (rV S k m s) := c_b_r _ _ _ _ _ _
theorem cC_r (S : sc_S) (k m s : Nat) : cC S k m s = c_mul (xwC S m s) (rC S k m s) := c_b_r _ _ _ _ _ _
theorem xb_le {S : sc_S} (hw : sc_wf S) {m s : Nat} (hm : m < S 7 1) (hs : s < xN S m) (hok : xal S m s) : xc S m s ≤ 4680 ∧ xg S m s ≤ 2 * S 4 m := by
  obtain ⟨a1, a2, a3, a4⟩ := xx_1 hw hm hs hok
  obtain ⟨t, b1, b2, b3⟩ := mm_2 hw hm a1 a2
  obtain ⟨-, -, c3, c4⟩ := mm_1 hw hm b1 b2
  rw [b3] at c3 c4
  have := lC_le hw hm b1 b2
  have := lG_le hw hm b2
  omega
theorem c_add_ne {a b : c_T} (h : a ≠ none ∨ b ≠ none) : c_add a b ≠ none := by
  cases a with
  | none => rw [c_none_add]; rcases h with h | h; exact absurd rfl h; exact h
  | some x =>
    cases b with
    | none => intro e; cases e
    | some y =>
      show (if x.1 < y.1 then some x else if y.1 < x.1 then some y else some (x.1, x.2 + y.2)) ≠ none
      split
      · intro e; cases e
      · split <;> (intro e; cases e)
theorem c_sum_ne {n : Nat} {f : Nat → c_T} {i : Nat} (hi : i < n) (h : f i ≠ none) : c_sum n f ≠ none := by
  induction n with
  | zero => omega
  | succ n ih =>
    show c_add (c_sum n f) (f n) ≠ none
    rcases Nat.lt_or_ge i n with z | z
    · exact c_add_ne (Or.inl (ih z))
    · rw [show i = n by omega] at h; exact c_add_ne (Or.inr h)
theorem c_mul_ne {a b : Nat} {X : c_T} (h : X ≠ none) : c_mul (some (a, b)) X ≠ none := by
  cases X with
  | none => exact absurd rfl h
  | some x => intro e; cases e
theorem rV_ne {S : sc_S} (hw : sc_wf S) : ∀ (k m s : Nat), m + k < S 7 1 → rV S k m s ≠ none
  | 0, m, s, _ => fun e => by cases e
  | k + 1, m, s, hm => by
    obtain ⟨t, h1, h2⟩ := xal_ex hw (show m + 1 < S 7 1 by omega)
    show c_sum (xN S (m + 1)) (fun t => c_mul (some (xlv S m s t, 1)) (cV S k (m + 1) t)) ≠ none
    refine c_sum_ne h1 (c_mul_ne ?_)
    rw [cV_r, xwV_pos h2]
    exact c_mul_ne (rV_ne hw k (m + 1) t (by omega))
/-- signs -/
def cq (E : Nat) (V : c_T) : Prop := ∀ u k, V = some (u, k) → u % 64 ≤ E
theorem cq_none (E : Nat) : cq E none := fun u k h => by cases h
theorem cq_add {E : Nat} {a b : c_T} (ha : cq E a) (hb : cq E b) : cq E (c_add a b) := by
  cases a with
  | none => rw [c_none_add]; exact hb
  | some x =>
    cases b with
    | none => exact ha
    | some y =>
      intro u k h
      have h' : (if x.1 < y.1 then some x else if y.1 < x.1 then some y else some (x.1, x.2 + y.2)) = some (u, k) := h
      have hx := ha x.1 x.2 rfl
      have hy := hb y.1 y.2 rfl
      split at h'
      · rw [show u = x.1 from (congrArg Prod.fst (Option.some.inj h')).symm]; exact hx
      · split at h'
        · rw [show u = y.1 from (congrArg Prod.fst (Option.some.inj h')).symm]; exact hy
        · rw [show u = x.1 from (congrArg Prod.fst (Option.some.inj h')).symm]; exact hx
theorem cq_sum {E n : Nat} {f : Nat → c_T} (h : ∀ i, i < n → cq E (f i)) : cq E (c_sum n f) := by
  induction n with
  | zero => exact cq_none E
  | succ n ih => exact cq_add (ih (fun i hi => h i (by omega))) (h n (by omega))
theorem cq_mul {E g l : Nat} {X : c_T} (h : cq E X) : cq (E + g) (c_mul (some (64 * l + g, 1)) X) := by
  cases X with
  | none => exact cq_none _
  | some x =>
    intro u k e
    have hx := h x.1 x.2 rfl
    have : u = 64 * l + g + x.1 := (congrArg Prod.fst (Option.some.inj e)).symm
    omega
theorem rV_cq {S : sc_S} (hw : sc_wf S) : ∀ (k m s : Nat), m + k < S 7 1 → cq (2 * (S 3 (m + k) + S 4 (m + k)) - 2 * (S 3 m + S 4 m)) (rV S k m s)
  | 0, m, s, _ => fun u k e => by
    have : u = 0 := (congrArg Prod.fst (Option.some.inj e)).symm
    omega
  | k + 1, m, s, hm => by
    show cq _ (c_sum (xN S (m + 1)) (fun t => c_mul (some (xlv S m s t, 1)) (cV S k (m + 1) t)))
    have hmono : ∀ e a, a + e < S 7 1 → S 3 a + S 4 a ≤ S 3 (a + e) + S 4 (a + e) := by
      intro e
      induction e with
      | zero => intro a _; exact Nat.le_refl _
      | succ e ih =>
        intro a ha
        have h1 := ih a (by omega)
        have h2 := (hw.2.2.1 (a + e) (by omega)).2.2.2.2.1 (by omega)
        rw [show a + (e + 1) = a + e + 1 by omega]
        omega
    refine cq_sum (fun t ht => ?_)
    have hnx := (hw.2.2.1 m (by omega)).2.2.2.2.1 (by omega)
    have h1 := rV_cq hw k (m + 1) t (by omega)
    have hm1 := hmono k (m + 1) (by omega)
    by_cases hok : xal S (m + 1) t
    · have hb := (xb_le hw (show m + 1 < S 7 1 by omega) ht hok).2
      have h2 := cq_mul (g := 0) (l := xlk S m s t) (cq_mul (g := xg S (m + 1) t) (l := xc S (m + 1) t) h1)
      rw [cV_r, xwV_pos hok]
      intro u j e
      have := h2 u j e
      rw [show m + 1 + k = m + (k + 1) by omega] at this hm1
      omega
    · rw [cV_r, xwV_neg hok, c_none_mul, c_mul_none]
      exact cq_none _
theorem xv_eq {S : sc_S} {m key pick : Nat} (hp : pick < p3 (S 4 m)) : 64 * xpaid S m pick (S 4 m) + xsgn S m pick (S 4 m) + 64 * S 6 0 * xout S m key pick (S 4 m) = xv S m (p3 (S 4 m) * key + pick) := by
  unfold xv xc xg
  rw [Nat.mul_add_div (by omega), Nat.div_eq_of_lt hp, Nat.mul_add_mod, Nat.mod_eq_of_lt hp, Nat.add_zero, Nat.mul_add, Nat.mul_assoc]
  omega
def xBk (k : Nat) : Nat := 330000 * k + 300000
/-- one state weighed -/
theorem xcell_rep {S : sc_S} (hw : sc_wf S) {k m P pa key pick a n : Nat} {av aw : Nat → Nat} {v w : Int32} (hP : P = p3 (S 4 m)) (hm : m + k < S 7 1) (hkey : key < 15) (hp : pick < P) (hc : xcell S m P pa av aw key pick v w) (ha : av (pa * key + pick * pa / P) = a) (hn : aw (pa * key + pick * pa / P) = n) (hr : xrep (330000 * k) (rV S k m (P * key + pick)) (rC S k m (P * key + pick)) a n) : ∃ a' n', v = nI a' ∧ w = nI n' ∧ xrep (xBk k) (cV S k m (P * key + pick)) (cC S k m (P * key + pick)) a' n' := by
  subst hP
  have e1 : (p3 (S 4 m) * key + pick) / p3 (S 4 m) = key := by rw [Nat.mul_add_div (by omega), Nat.div_eq_of_lt hp, Nat.add_zero]
  have e2 : (p3 (S 4 m) * key + pick) % p3 (S 4 m) = pick := by rw [Nat.mul_add_mod, Nat.mod_eq_of_lt hp]
  by_cases hok : xal S m (p3 (S 4 m) * key + pick)
  · have hok' := hok
    unfold xal at hok'
    rw [e1, e2] at hok'
    obtain ⟨hv, hww⟩ := hc.1 hok'
    rw [ha, xv_eq hp] at hv
    rw [hn] at hww
    have hb := xb_le hw (show m < S 7 1 by omega) (show p3 (S 4 m) * key + pick < xN S m from ix_lt hp hkey) hok
    have wm := hw.2.2.1 m (by omega)
    refine ⟨_, _, hv, hww, ?_⟩
    rw [cV_r, cC_r, xwV_pos hok, xwC_pos hok]
    rcases hr with ⟨z, -⟩ | ⟨j, h1, h2, h3⟩
    · exact absurd z (rV_ne hw k m _ hm)
    · have hq := rV_cq hw k m (p3 (S 4 m) * key + pick) hm a j h1
      have hlast := (hw.2.2.1 (m + k) hm).2.2.2.1
      have hS := hw.1
      have h4 := c_tr_shift (l := xc S m (p3 (S 4 m) * key + pick)) h3
      refine Or.inr ⟨1 * j, ?_, ?_, ?_⟩
      · rw [h1]; rfl
      · unfold xv xBk; omega
      · rw [h4]
        congr 2
        unfold xv
        have hmono : ∀ e a, a + e < S 7 1 → S 3 a + S 4 a ≤ S 3 (a + e) + S 4 (a + e) := by
          intro e
          induction e with
          | zero => intro a _; exact Nat.le_refl _
          | succ e ih =>
            intro a ha
            have h1 := ih a (by omega)
            have h2 := (hw.2.2.1 (a + e) (by omega)).2.2.2.2.1 (by omega)
            rw [show a + (e + 1) = a + e + 1 by omega]
            omega
        have := hmono k m hm
        omega
  · have hok' := hok
    unfold xal at hok'
    rw [e1, e2] at hok'
    obtain ⟨hv, hww⟩ := hc.2 hok'
    refine ⟨_, _, hv, hww, ?_⟩
    rw [cV_r, cC_r, xwV_neg hok, xwC_neg hok, c_none_mul, c_none_mul]
    exact xrep_0 _
/-- the counts agree -/
theorem xx_cb {S : sc_S} (hw : sc_wf S) : ∀ (k m : Nat), m + k < S 7 1 → ∀ s, s < xN S m → xal S m s → cC S k m s = c_b (fun _ => sc_N) (sc_w S) (sc_l S) k m (xcode S m s)
  | 0, m, hm, s, hs, hok => by
    obtain ⟨a1, a2, a3, a4⟩ := xx_1 hw (show m < S 7 1 by omega) hs hok
    show xwC S m s = sc_w S m (xcode S m s)
    rw [xwC_pos hok]
    unfold sc_w
    rw [if_pos a2, a3]
  | k + 1, m, hm, s, hs, hok => by
    obtain ⟨a1, a2, a3, a4⟩ := xx_1 hw (show m < S 7 1 by omega) hs hok
    show c_mul (xwC S m s) (c_sum (xN S (m + 1)) (fun t => c_mul (some (xlk S m s t, 1)) (cC S k (m + 1) t))) = c_mul (sc_w S m (xcode S m s)) (c_sum sc_N (fun t => c_mul (some (sc_l S m (xcode S m s) t, 1)) (c_b (fun _ => sc_N) (sc_w S) (sc_l S) k (m + 1) t)))
    have e1 : xwC S m s = sc_w S m (xcode S m s) := by
      rw [xwC_pos hok]
      unfold sc_w
      rw [if_pos a2, a3]
    rw [e1]
    refine congrArg (c_mul _) ?_
    refine c_sum_map (P := xal S (m + 1)) (c := xcode S (m + 1)) (fun t ht hn => ?_) (fun t ht hok2 => ⟨(xx_1 hw (by omega) ht hok2).1, ?_⟩) (fun i j hij hj h1 h2 => xx_3 hw (by omega) h1 h2 hij) (fun a ha hn => ?_)
    · rw [cC_r, xwC_neg hn, c_none_mul, c_mul_none]
    · rw [xx_4 hw (by omega) hok hok2, ← xx_cb hw k (m + 1) (by omega) t ht hok2]
    · have hna : ¬ sc_al S (m + 1) a := fun hal => by
        obtain ⟨t, t1, t2, t3⟩ := xx_2 hw (show m + 1 < S 7 1 by omega) ha hal
        exact hn t t1 t2 t3
      rw [c_b_r]
      unfold sc_w
      rw [if_neg hna, c_none_mul, c_mul_none]
theorem xx_all {S : sc_S} (hw : sc_wf S) (h0 : 0 < S 7 1) : c_sum (xN S 0) (cC S (S 7 1 - 1) 0) = c_sum sc_N (c_b (fun _ => sc_N) (sc_w S) (sc_l S) (S 7 1 - 1) 0) := by
  refine c_sum_map (P := xal S 0) (c := xcode S 0) (fun t ht hn => ?_) (fun t ht hok2 => ⟨(xx_1 hw (by omega) ht hok2).1, (xx_cb hw (S 7 1 - 1) 0 (by omega) t ht hok2).symm⟩) (fun i j hij hj h1 h2 => xx_3 hw (by omega) h1 h2 hij) (fun a ha hn => ?_)
  · rw [cC_r, xwC_neg hn, c_none_mul]
  · have hna2 : ¬ sc_al S 0 a := fun hal => by
      obtain ⟨t, t1, t2, t3⟩ := xx_2 hw h0 ha hal
      exact hn t t1 t2 t3
    rw [c_b_r]
    unfold sc_w
    rw [if_neg hna2, c_none_mul]
