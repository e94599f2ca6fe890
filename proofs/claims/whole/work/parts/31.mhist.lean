/-! the model: the layers' history, and what it says of the best way -/
noncomputable def mw (S : sc_S) (m s : Nat) : c_T := @ite _ (mS S m s) (Classical.propDecidable _) (some (lC S m s, 1)) none
theorem mw_pos {S : sc_S} {m s : Nat} (h : mS S m s) : mw S m s = some (lC S m s, 1) := by unfold mw; rw [if_pos h]
theorem mw_neg {S : sc_S} {m s : Nat} (h : ¬ mS S m s) : mw S m s = none := by unfold mw; rw [if_neg h]
noncomputable def mcf (S : sc_S) : Nat → Nat → c_T := c_f (fun _ => 405) (mw S) (mlk S)
/-- the history of the layers up to l -/
def mHist (S : sc_S) (l : Nat) (c g r n fr : Nat → Nat → Nat) : Prop := (∀ s, s < 405 → mS S 0 s → c 0 s = lC S 0 s ∧ g 0 s = lG S 0 s ∧ r 0 s = s) ∧
  (∀ k, k < l → ∀ s, s < 405 → mS S (k + 1) s → mBst S k s (c k) (g k) (r k) 405 (fr (k + 1) s) ∧ c (k + 1) s = c k (fr (k + 1) s) + mlk S k (fr (k + 1) s) s + lC S (k + 1) s ∧ g (k + 1) s = g k (fr (k + 1) s) + lG S (k + 1) s ∧ r (k + 1) s = cntP (mLow S k (fun s => 405 * r k (fr (k + 1) s) + s) s) 405) ∧
  (∀ k, k ≤ l → ∀ s, s < 405 → mS S k s → c_tr 1000000 (mcf S k s) = some (c k s, n k s))
theorem mcf_none {S : sc_S} {k s : Nat} (h : ¬ mS S k s) : mcf S k s = none := by
  unfold mcf
  cases k with
  | zero => exact mw_neg h
  | succ k =>
    show c_mul (mw S (k + 1) s) _ = none
    rw [mw_neg h, c_none_mul]
theorem mHist_bound {S : sc_S} (hw : sc_wf S) {l : Nat} (hl : l < S 7 1) {c g r n fr : Nat → Nat → Nat} (h : mHist S l c g r n fr) : ∀ k, k ≤ l → ∀ s, s < 405 → mS S k s → c k s ≤ 5020 * (k + 1) ∧ g k s ≤ 2 * (S 3 k + S 4 k) ∧ r k s < 405 := by
  intro k
  induction k with
  | zero =>
    intro _ s hs hok
    obtain ⟨a, b, d⟩ := h.1 s hs hok
    have l1 := lC_le hw (show 0 < S 7 1 by omega) hs hok
    have l2 := lG_le hw (show 0 < S 7 1 by omega) hok
    rw [a, b, d]
    omega
  | succ k ih =>
    intro hk s hs hok
    obtain ⟨a, b, d, e⟩ := h.2.1 k (by omega) s hs hok
    obtain ⟨i1, i2, i3⟩ := ih (by omega) _ a.1 a.2.1
    have l1 := lC_le hw (show k + 1 < S 7 1 by omega) hs hok
    have l2 := lG_le hw (show k + 1 < S 7 1 by omega) hok
    have l3 := mlk_le hw (show k < S 7 1 by omega) a.1 hs
    have l4 := (hw.2.2.1 k (by omega)).2.2.2.2.1 (by omega)
    refine ⟨by rw [b]; omega, by rw [d]; omega, ?_⟩
    rw [e]
    have z := cntP_lt (P := mLow S k (fun s => 405 * r k (fr (k + 1) s) + s) s) (Q := fun _ => True) (fun _ _ => trivial) (x := s) trivial (fun q => Nat.lt_irrefl _ q.2) 405 hs
    have z2 := cntP_bound (fun _ => True) 405
    omega
theorem mHist_use {S : sc_S} (hw : sc_wf S) {l : Nat} (hl : l < S 7 1) {c g r n fr : Nat → Nat → Nat} (h : mHist S l c g r n fr) : ∀ k, k ≤ l → ∀ s, s < 405 → mS S k s → c k s < 100000 ∧ g k s < 64 ∧ r k s < 405 ∧ c_tr 1000000 (mcf S k s) = some (c k s, n k s) := by
  intro k hk s hs hok
  have b := mHist_bound hw hl h k hk s hs hok
  have hM := wf_M hw
  have w := (hw.2.2.1 k (by omega)).2.2.2.1
  have w0 := hw.1
  exact ⟨by omega, by omega, b.2.2, h.2.2 k hk s hs hok⟩
def lu (f : Nat → Nat → Nat) (l : Nat) (f' : Nat → Nat) : Nat → Nat → Nat := fun k => if k = l + 1 then f' else f k
theorem lu_ne {f : Nat → Nat → Nat} {l k : Nat} {f' : Nat → Nat} (h : k ≠ l + 1) : lu f l f' k = f k := by unfold lu; rw [if_neg h]
theorem lu_eq {f : Nat → Nat → Nat} {l : Nat} {f' : Nat → Nat} : lu f l f' (l + 1) = f' := by unfold lu; rw [if_pos rfl]
/-- one layer more -/
theorem mHist_next {S : sc_S} {l : Nat} {c g r n fr : Nat → Nat → Nat} (h : mHist S l c g r n fr) {c' g' r' n' fr' : Nat → Nat} {A : Nat → Nat → Int32} (hs : mStep S l (c l) (g l) (r l) (mcf S l) c' g' r' n' fr' A) :
    mHist S (l + 1) (lu c l c') (lu g l g') (lu r l r') (lu n l n') (lu fr l fr') := by
  refine ⟨fun s hs' hok => ?_, fun k hk s hs' hok => ?_, fun k hk s hs' hok => ?_⟩
  · simp only [lu_ne (show 0 ≠ l + 1 by omega)]
    exact h.1 s hs' hok
  · rcases Nat.lt_or_ge k l with z | z
    · simp only [lu_ne (show k ≠ l + 1 by omega), lu_ne (show k + 1 ≠ l + 1 by omega)]
      exact h.2.1 k z s hs' hok
    · have e : k = l := by omega
      subst e
      simp only [lu_ne (show k ≠ k + 1 by omega), lu_eq]
      obtain ⟨x1, x2, x3, x4, x5, x6⟩ := hs.2 s hs' hok
      exact ⟨x1, x2, x3, x5⟩
  · rcases Nat.lt_or_ge k (l + 1) with z | z
    · simp only [lu_ne (show k ≠ l + 1 by omega)]
      exact h.2.2 k (by omega) s hs' hok
    · have e : k = l + 1 := by omega
      subst e
      simp only [lu_eq]
      obtain ⟨x1, x2, x3, x4, x5, x6⟩ := hs.2 s hs' hok
      show c_tr 1000000 (c_mul (mw S (l + 1) s) (c_sum 405 (mWs S l s (mcf S l)))) = _
      rw [mw_pos hok, c_tr_shift x4, x2]
/-- the best way, by the history -/
theorem mHist_best {S : sc_S} (hw : sc_wf S) {l b : Nat} (hl : l < S 7 1) {c g r n fr : Nat → Nat → Nat} (h : mHist S l c g r n fr) (hb : b < 405 ∧ mS S l b ∧ ∀ s, s < 405 → mS S l s → c l b < c l s ∨ (c l b = c l s ∧ (g l b < g l s ∨ (g l b = g l s ∧ r l b ≤ r l s)))) :
    g_Best (fun _ => 405) (mS S) (fun m s => 64 * lC S m s + lG S m s) (fun m a b => 64 * mlk S m a b) l (g_way fr l b) ∧ g_pv (fun m s => 64 * lC S m s + lG S m s) (fun m a b => 64 * mlk S m a b) l (g_way fr l b) = 64 * c l b + g l b := by
  have hu := mHist_use hw hl h
  have H := g_fore (N := fun _ => 405) (al := mS S) (v := fun m s => 64 * lC S m s + lG S m s) (lk := fun m a b => 64 * mlk S m a b) (L := l) (f := fun k s => 64 * c k s + g k s) (rk := r) (fr := fr)
    (fun s hs hok => by
      obtain ⟨a1, a2, a3⟩ := h.1 s hs hok
      exact ⟨by rw [a1, a2], a3⟩)
    (fun m hm t ht hok => by
      obtain ⟨x1, x2, x3, x4⟩ := h.2.1 m hm t ht hok
      refine ⟨x1.1, x1.2.1, by rw [x2, x3]; omega, fun s hs hok2 => ?_⟩
      have u1 := hu m (by omega) _ x1.1 x1.2.1
      have u2 := hu m (by omega) s hs hok2
      rcases x1.2.2 s hs hok2 with z | ⟨z1, z2 | ⟨z2, z3⟩⟩
      · left; omega
      · left; omega
      · right; exact ⟨by omega, z3⟩)
    (fun m hm t u ht hok hu1 hok2 => by
      obtain ⟨x1, x2, x3, x4⟩ := h.2.1 m hm t ht hok
      obtain ⟨y1, y2, y3, y4⟩ := h.2.1 m hm u hu1 hok2
      have b1 := (hu m (by omega) _ x1.1 x1.2.1).2.2.1
      have b2 := (hu m (by omega) _ y1.1 y1.2.1).2.2.1
      rw [x4, y4]
      have hcode : (405 * r m (fr (m + 1) t) + t < 405 * r m (fr (m + 1) u) + u) ↔ (r m (fr (m + 1) t) < r m (fr (m + 1) u) ∨ (r m (fr (m + 1) t) = r m (fr (m + 1) u) ∧ t < u)) := by
        have ht' : t < 405 := ht
        have hu' : u < 405 := hu1
        omega
      rw [← hcode]
      refine ⟨fun z => ?_, fun z => ?_⟩
      · refine Decidable.byContradiction (fun q => ?_)
        have := cntP_le (P := mLow S m (fun s => 405 * r m (fr (m + 1) s) + s) u) (Q := mLow S m (fun s => 405 * r m (fr (m + 1) s) + s) t) (fun b hb => ⟨hb.1, Nat.lt_of_lt_of_le hb.2 (Nat.le_of_not_lt q)⟩) 405
        omega
      · exact cntP_lt (P := mLow S m (fun s => 405 * r m (fr (m + 1) s) + s) t) (Q := mLow S m (fun s => 405 * r m (fr (m + 1) s) + s) u) (fun b hb => ⟨hb.1, Nat.lt_trans hb.2 z⟩) (x := t) ⟨hok, z⟩ (fun q => Nat.lt_irrefl _ q.2) 405 ht)
    l (Nat.le_refl _)
  refine g_fore_end (N := fun _ => 405) (al := mS S) (v := fun m s => 64 * lC S m s + lG S m s) (lk := fun m a b => 64 * mlk S m a b) (f := fun k s => 64 * c k s + g k s) (rk := r) (fr := fr) H ⟨hb.1, hb.2.1, fun s hs hok => ?_⟩
  have u1 := hu l (Nat.le_refl _) _ hb.1 hb.2.1
  have u2 := hu l (Nat.le_refl _) s hs hok
  show 64 * c l b + g l b < 64 * c l s + g l s ∨ (64 * c l b + g l b = 64 * c l s + g l s ∧ r l b ≤ r l s)
  rcases hb.2.2 s hs hok with z | ⟨z1, z2 | ⟨z2, z3⟩⟩
  · left; omega
  · left; omega
  · right; exact ⟨by omega, z3⟩
theorem g_way_prev (fr : Nat → Nat → Nat) : ∀ (L b m : Nat), m < L → g_way fr L b m = fr (m + 1) (g_way fr L b (m + 1))
  | 0, b, m, h => absurd h (Nat.not_lt_zero m)
  | L + 1, b, m, h => by
    rcases Nat.lt_or_ge m L with z | z
    · rw [g_way_low fr L b m (by omega), g_way_low fr L b (m + 1) (by omega)]
      exact g_way_prev fr L _ m z
    · have : m = L := by omega
      subst this
      rw [g_way_low fr m b m (Nat.le_refl _), g_way_last, g_way_last]
