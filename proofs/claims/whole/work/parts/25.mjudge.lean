/-! the model: what a row of a MOMENT costs -/
theorem q_uf_8 (F : Nat → Int32) (a b c : Int32) : q_uf (q_uf (q_uf F 8 a) 9 b) 8 c = q_uf (q_uf F 8 c) 9 b := by
  funext j
  show cond (Nat.beq j 8) c (cond (Nat.beq j 9) b (cond (Nat.beq j 8) a (F j))) = cond (Nat.beq j 9) b (cond (Nat.beq j 8) c (F j))
  cases h : Nat.beq j 8 with
  | true => rw [Nat.eq_of_beq_eq_true h]; rfl
  | false => rfl
theorem q_uf_9 (F : Nat → Int32) (a b c : Int32) : q_uf (q_uf (q_uf F 8 a) 9 b) 9 c = q_uf (q_uf F 8 a) 9 c := by
  funext j
  show cond (Nat.beq j 9) c (cond (Nat.beq j 9) b (cond (Nat.beq j 8) a (F j))) = cond (Nat.beq j 9) c (cond (Nat.beq j 8) a (F j))
  cases Nat.beq j 9 <;> rfl
/-- a row's place is a NAME, or none where there is no SOUND -/
def mpl (S : sc_S) (m row p : Nat) : Prop := (p < S 4 m → ∃ n, n < 35 ∧ sc_kth (sc_low (S 0 (S 3 m + p))) (S 1 (S 3 m + p)) (mdig row p) = some n) ∧ (¬ p < S 4 m → mdig row p = 0)
def mname (S : sc_S) (m row p : Nat) : Nat := if p < S 4 m then (sc_kth (sc_low (S 0 (S 3 m + p))) (S 1 (S 3 m + p)) (mdig row p)).getD 0 else 0
def mcode (S : sc_S) (m s : Nat) : Nat := sc_code (s / 27) (mname S m (s % 27) 0) (mname S m (s % 27) 1) (mname S m (s % 27) 2)
theorem sc_kth_lt : ∀ lo, lo < 12 → ∀ t, t < 36 → ∀ k, k < 3 → ∀ n, sc_kth lo t k = some n → n < 35 := by
  intro lo hlo t ht k hk n h
  unfold sc_kth at h
  by_cases e : t = 35
  · rw [if_pos e] at h
    by_cases e2 : lo + 12 * k ≤ 34
    · rw [if_pos e2] at h
      have := Option.some.inj h
      omega
    · rw [if_neg e2] at h
      cases h
  · rw [if_neg e] at h
    by_cases e2 : k = 0
    · rw [if_pos e2] at h
      have := Option.some.inj h
      omega
    · rw [if_neg e2] at h
      cases h
/-- what judge reads in a row's place -/
theorem mnm_cases {S : sc_S} (hw : sc_wf S) {m row p : Nat} (hm : m < S 7 1) (hr : row < 27) (hp : p < 3) : (mpl S m row p ∧ ((p < S 4 m ∧ mnm S m row p = nI (mname S m row p) ∧ mname S m row p < 35) ∨ (¬ p < S 4 m ∧ mnm S m row p = 100))) ∨ (¬ mpl S m row p ∧ mnm S m row p = -1) := by
  have w := hw.2.2.1 m hm
  unfold mpl mnm mname
  by_cases h : p < S 4 m
  · rw [if_pos h]
    have hi : S 3 m + p < S 7 0 := by omega
    have b := hw.2.2.2.2.1 _ hi
    cases e : sc_kth (sc_low (S 0 (S 3 m + p))) (S 1 (S 3 m + p)) (mdig row p) with
    | none => exact Or.inr ⟨fun q => by obtain ⟨n, -, q2⟩ := q.1 h; cases q2, rfl⟩
    | some n =>
      have hn := sc_kth_lt _ (sc_low_lt _) _ (by omega) _ (mdig_lt hr hp) n e
      refine Or.inl ⟨⟨fun _ => ⟨n, hn, rfl⟩, fun q => absurd h q⟩, Or.inl ⟨h, ?_, ?_⟩⟩
      · rw [if_pos h]; rfl
      · rw [if_pos h]; exact hn
  · rw [if_neg h]
    by_cases e : mdig row p = 0
    · rw [if_pos e]
      exact Or.inl ⟨⟨fun q => absurd q h, fun _ => e⟩, Or.inr ⟨h, rfl⟩⟩
    · rw [if_neg e]
      exact Or.inr ⟨fun q => e (q.2 h), rfl⟩
/-- the cost of the first p places, and of the q wide ones of place p -/
def mc_p (S : sc_S) (m k row p : Nat) : Nat := sc_sum (min p (S 4 m)) (fun j => S 6 0 * sc_out k (mname S m row j) + S 6 1 * sc_tw (mname S m row j) + sc_sum j (fun i => S 6 2 * sc_wide (mname S m row i) (mname S m row j)))
def mg_p (S : sc_S) (m row p : Nat) : Nat := sc_sum (min p (S 4 m)) (fun j => sc_sg (mname S m row j))
def mok (S : sc_S) (m k row : Nat) : Prop := (S 5 m = 15 ∨ S 5 m = k) ∧ ∀ p, p < 3 → mpl S m row p
theorem sc_dist_comm (a b : Nat) : sc_dist a b = sc_dist b a := by
  unfold sc_dist
  by_cases h : a ≤ b
  · by_cases g : b ≤ a
    · rw [if_pos h, if_pos g]; omega
    · rw [if_pos h, if_neg g]
  · rw [if_neg h, if_pos (by omega)]
section MJ
variable {cI : ClassId} {tv : Nat} {K : q_K} {G : q_G}
theorem m_judge_wide (hG : q_Cl (F_M_judge cI tv K) G) (ad : Nat → Nat) (F : Nat → Int32) (A : Nat → Nat → Int32) {S : sc_S} (hR : mR S F A) {m k row p n : Nat} (b : Int32) (hr : row < 27) (hp : p < 3) (hps : p < S 4 m) (hn : n < 35) (hN : ∀ q, q < p → A 7 (3 * row + q) = nI (mname S m row q) ∧ mname S m row q < 35) (c0 : Nat) :
    ∀ (d q : Nat), q + d = p → G 243 [(0, .ref (ad 0)), (2, .int (nI k)), (3, .int (nI row)), (4, .int (nI p))] [] (wM cI ad (q_uf (q_uf F 8 (nI (c0 + sc_sum p (fun i => S 6 2 * sc_wide (mname S m row i) n)))) 9 b) A) 0 0 → G 181 [(0, .ref (ad 0)), (2, .int (nI k)), (3, .int (nI row)), (4, .int (nI p)), (5, .int (nI n)), (9, .int (nI q))] [] (wM cI ad (q_uf (q_uf F 8 (nI (c0 + sc_sum q (fun i => S 6 2 * sc_wide (mname S m row i) n)))) 9 b) A) 0 0 := by
  intro d
  induction d with
  | zero =>
    intro q hq h
    have : q = p := by omega
    subst this
    exact sg_M_judge_181 hG ad _ A (nI k) (nI row) (nI q) (nI n) (nI q) ⟨fun _ => h, fun c => absurd (nI_le (Nat.le_refl q) (by omega)) c⟩
  | succ d ih =>
    intro q hq h
    obtain ⟨a1, a2⟩ := hN q (by omega)
    have e3 : 3 * nI row + nI q = nI (3 * row + q) := by rw [show (3 : Int32) = nI 3 from rfl, pk_mul, nI_add]
    have e5 : F 5 = nI (S 6 2) := hR.2.2.1 2 (by decide)
    have nxt := ih (q + 1) (by omega) h
    refine sg_M_judge_181 hG ad _ A (nI k) (nI row) (nI p) (nI n) (nI q) ⟨fun c => absurd (nge (by omega) (by omega) c) (by omega), fun _ => ?_⟩
    rw [e3, nI_clamp (by omega), a1, sm_sized n (by omega) _ (by omega), show nI q + 1 = nI (q + 1) from nI_1 q]
    refine ⟨vp_in_nI (by omega) (by decide), fun c => ?_, fun c => ?_⟩
    · have hd : sc_dist n (mname S m row q) ≤ 6 := nge (by unfold sc_dist; split <;> omega) (by decide) (show nI _ ≤ nI 6 from c)
      rw [q_uf_8]
      show G 181 _ [] (wM cI ad (q_uf (q_uf F 8 (nI (c0 + sc_sum q (fun i => S 6 2 * sc_wide (mname S m row i) n)) + 0)) 9 b) A) 0 0
      have e : nI (c0 + sc_sum q (fun i => S 6 2 * sc_wide (mname S m row i) n)) + 0 = nI (c0 + sc_sum (q + 1) (fun i => S 6 2 * sc_wide (mname S m row i) n)) := by
        rw [show (0 : Int32) = nI 0 from rfl, nI_add]
        congr 1
        show c0 + _ + 0 = c0 + (_ + S 6 2 * sc_wide (mname S m row q) n)
        unfold sc_wide
        rw [sc_dist_comm, Nat.sub_eq_zero_of_le hd, Nat.mul_zero]
      rw [e]
      exact nxt
    · have hd : 6 < sc_dist n (mname S m row q) := nng (by unfold sc_dist; split <;> omega) (by decide) (show ¬ nI _ ≤ nI 6 from c)
      rw [q_uf_8]
      show G 181 _ [] (wM cI ad (q_uf (q_uf F 8 (nI (c0 + sc_sum q (fun i => S 6 2 * sc_wide (mname S m row i) n)) + F 5 * (nI (sc_dist n (mname S m row q)) - 6))) 9 b) A) 0 0
      have e : nI (c0 + sc_sum q (fun i => S 6 2 * sc_wide (mname S m row i) n)) + F 5 * (nI (sc_dist n (mname S m row q)) - 6) = nI (c0 + sc_sum (q + 1) (fun i => S 6 2 * sc_wide (mname S m row i) n)) := by
        rw [e5, show (6 : Int32) = nI 6 from rfl, pk_sub (by omega), pk_mul, nI_add]
        congr 1
        show c0 + _ + _ = c0 + (_ + S 6 2 * sc_wide (mname S m row q) n)
        unfold sc_wide
        rw [sc_dist_comm (mname S m row q) n, Nat.add_assoc]
      rw [e]
      exact nxt
end MJ
