/-! the model: what a row of a MOMENT costs -/
theorem q_uf_8 (F : Nat → Int32) (a b c : Int32) : q_uf (q_uf (q_uf F 8 a) 9 b) 8 c = q_uf (q_uf F 8 c) 9 b := by
  funext j
  show cond (Nat.beq j 8) c (cond (Nat.beq j 9) b (cond (Nat.beq j 8) a (F j))) = cond (Nat.beq j 9) b (cond (Nat.beq j 8) c (F j))
  cases h : Nat.beq j 8 with
  | true => rw [Nat.eq_of_beq_eq_true h]; rfl
  | false => rfl
theorem q_uf_9 (F : Nat → Int32) (a b c : Int32) : q_uf (q_uf (q_uf F 8 a) 9 b) 9 c = q_uf (q_uf F 8 a) 9 c := by
  funext j
  show cond (Nat.beq j 9) c (cond (Nat.beq j 9) b (cond (Nat.beq j 8) a (F j))) = cond (Nat.beq j 9) c (cond (Nat.beq j 8) a (F j))
  cases Nat.beq j 9 <;> rfl
/-- a row's place is a NAME, or none where there is no SOUND -/
def mpl (S : sc_S) (m row p : Nat) : Prop := (p < S 4 m → ∃ n, n < 35 ∧ sc_kth (sc_low (S 0 (S 3 m + p))) (S 1 (S 3 m + p)) (mdig row p) = some n) ∧ (¬ p < S 4 m → mdig row p = 0)
def mname (S : sc_S) (m row p : Nat) : Nat := if p < S 4 m then (sc_kth (sc_low (S 0 (S 3 m + p))) (S 1 (S 3 m + p)) (mdig row p)).getD 0 else 0
def mcode (S : sc_S) (m s : Nat) : Nat := sc_code (s / 27) (mname S m (s % 27) 0) (mname S m (s % 27) 1) (mname S m (s % 27) 2)
theorem sc_kth_lt : ∀ lo, lo < 12 → ∀ t, t < 36 → ∀ k, k < 3 → ∀ n, sc_kth lo t k = some n → n < 35 := by
  intro lo hlo t ht k hk n h
  unfold sc_kth at h
  by_cases e : t = 35
  · rw [if_pos e] at h
    by_cases e2 : lo + 12 * k ≤ 34
    · rw [if_pos e2] at h
      have := Option.some.inj h
      omega
    · rw [if_neg e2] at h
      cases h
  · rw [if_neg e] at h
    by_cases e2 : k = 0
    · rw [if_pos e2] at h
      have := Option.some.inj h
      omega
    · rw [if_neg e2] at h
      cases h
/-- what judge reads in a row's place -/
theorem mnm_cases {S : sc_S} (hw : sc_wf S) {m row p : Nat} (hm : m < S 7 1) (hr : row < 27) (hp : p < 3) : (mpl S m row p ∧ ((p < S 4 m ∧ mnm S m row p = nI (mname S m row p) ∧ mname S m row p < 35) ∨ (¬ p < S 4 m ∧ mnm S m row p = 100))) ∨ (¬ mpl S m row p ∧ mnm S m row p = -1) := by
  have w := hw.2.2.1 m hm
  unfold mpl mnm mname
  by_cases h : p < S 4 m
  · rw [if_pos h]
    have hi : S 3 m + p < S 7 0 := by omega
    have b := hw.2.2.2.2.1 _ hi
    cases e : sc_kth (sc_low (S 0 (S 3 m + p))) (S 1 (S 3 m + p)) (mdig row p) with
    | none => exact Or.inr ⟨fun q => (by obtain ⟨n, -, q2⟩ := q.1 h; cases q2), rfl⟩
    | some n =>
      have hn := sc_kth_lt _ (sc_low_lt _) _ (by omega) _ (mdig_lt hr hp) n e
      refine Or.inl ⟨⟨fun _ => ⟨n, hn, rfl⟩, fun q => absurd h q⟩, Or.inl ⟨h, ?_, ?_⟩⟩
      · rw [if_pos h]; rfl
      · rw [if_pos h]; exact hn
  · rw [if_neg h]
    by_cases e : mdig row p = 0
    · rw [if_pos e]
      exact Or.inl ⟨⟨fun q => absurd q h, fun _ => e⟩, Or.inr ⟨h, rfl⟩⟩
    · rw [if_neg e]
      exact Or.inr ⟨fun q => e (q.2 h), rfl⟩
/-- the cost of the first p places, and of the q wide ones of place p -/
def mc_p (S : sc_S) (m k row p : Nat) : Nat := sc_sum (min p (S 4 m)) (fun j => S 6 0 * sc_out k (mname S m row j) + S 6 1 * sc_tw (mname S m row j) + sc_sum j (fun i => S 6 2 * sc_wide (mname S m row i) (mname S m row j)))
def mg_p (S : sc_S) (m row p : Nat) : Nat := sc_sum (min p (S 4 m)) (fun j => sc_sg (mname S m row j))
def mok (S : sc_S) (m k row : Nat) : Prop := (S 5 m = 15 ∨ S 5 m = k) ∧ ∀ p, p < 3 → mpl S m row p
theorem sc_dist_comm (a b : Nat) : sc_dist a b = sc_dist b a := by
  unfold sc_dist
  by_cases h : a ≤ b
  · by_cases g : b ≤ a
    · rw [if_pos h, if_pos g]; omega
    · rw [if_pos h, if_neg g]
  · rw [if_neg h, if_pos (by omega)]
section MJ
variable {cI : ClassId} {tv : Nat} {K : q_K} {G : q_G}
theorem m_judge_wide (hG : q_Cl (F_M_judge cI tv K) G) (ad : Nat → Nat) (F : Nat → Int32) (A : Nat → Nat → Int32) {S : sc_S} (hR : mR S F A) {m k row p n : Nat} (b : Int32) (hr : row < 27) (hp : p < 3) (hps : p < S 4 m) (hn : n < 35) (hN : ∀ q, q < p → A 7 (3 * row + q) = nI (mname S m row q) ∧ mname S m row q < 35) (c0 : Nat) :
    ∀ (d q : Nat), q + d = p → G 243 [(0, .ref (ad 0)), (2, .int (nI k)), (3, .int (nI row)), (4, .int (nI p))] [] (wM cI ad (q_uf (q_uf F 8 (nI (c0 + sc_sum p (fun i => S 6 2 * sc_wide (mname S m row i) n)))) 9 b) A) 0 0 → G 181 [(0, .ref (ad 0)), (2, .int (nI k)), (3, .int (nI row)), (4, .int (nI p)), (5, .int (nI n)), (9, .int (nI q))] [] (wM cI ad (q_uf (q_uf F 8 (nI (c0 + sc_sum q (fun i => S 6 2 * sc_wide (mname S m row i) n)))) 9 b) A) 0 0 := by
  intro d
  induction d with
  | zero =>
    intro q hq h
    have : q = p := by omega
    subst this
    exact sg_M_judge_181 hG ad _ A (nI k) (nI row) (nI q) (nI n) (nI q) ⟨fun _ => h, fun c => absurd (nI_le (Nat.le_refl q) (by omega)) c⟩
  | succ d ih =>
    intro q hq h
    obtain ⟨a1, a2⟩ := hN q (by omega)
    have e3 : 3 * nI row + nI q = nI (3 * row + q) := by rw [show (3 : Int32) = nI 3 from rfl, pk_mul, nI_add]
    have e5 : F 5 = nI (S 6 2) := hR.2.2.1 2 (by decide)
    have nxt := ih (q + 1) (by omega) h
    refine sg_M_judge_181 hG ad _ A (nI k) (nI row) (nI p) (nI n) (nI q) ⟨fun c => absurd (nge (by omega) (by omega) c) (by omega), fun _ => ?_⟩
    rw [e3, nI_clamp (by omega), a1, sm_sized n (by omega) _ (by omega), show nI q + 1 = nI (q + 1) from nI_1 q]
    refine ⟨vp_in_nI (by omega) (by decide), fun c => ?_, fun c => ?_⟩
    · have hd : sc_dist n (mname S m row q) ≤ 6 := nge (by unfold sc_dist; split <;> omega) (by decide) (show nI _ ≤ nI 6 from c)
      rw [q_uf_8]
      show G 181 _ [] (wM cI ad (q_uf (q_uf F 8 (nI (c0 + sc_sum q (fun i => S 6 2 * sc_wide (mname S m row i) n)) + 0)) 9 b) A) 0 0
      have e : nI (c0 + sc_sum q (fun i => S 6 2 * sc_wide (mname S m row i) n)) + 0 = nI (c0 + sc_sum (q + 1) (fun i => S 6 2 * sc_wide (mname S m row i) n)) := by
        rw [show (0 : Int32) = nI 0 from rfl, nI_add]
        congr 1
        show c0 + _ + 0 = c0 + (_ + S 6 2 * sc_wide (mname S m row q) n)
        unfold sc_wide
        rw [sc_dist_comm, Nat.sub_eq_zero_of_le hd, Nat.mul_zero]
        rfl
      rw [e]
      exact nxt
    · have hd : 6 < sc_dist n (mname S m row q) := nng (by unfold sc_dist; split <;> omega) (by decide) (show ¬ nI _ ≤ nI 6 from c)
      rw [q_uf_8]
      show G 181 _ [] (wM cI ad (q_uf (q_uf F 8 (nI (c0 + sc_sum q (fun i => S 6 2 * sc_wide (mname S m row i) n)) + F 5 * (nI (sc_dist n (mname S m row q)) - 6))) 9 b) A) 0 0
      have e : nI (c0 + sc_sum q (fun i => S 6 2 * sc_wide (mname S m row i) n)) + F 5 * (nI (sc_dist n (mname S m row q)) - 6) = nI (c0 + sc_sum (q + 1) (fun i => S 6 2 * sc_wide (mname S m row i) n)) := by
        rw [e5, show (6 : Int32) = nI 6 from rfl, pk_sub (by omega), pk_mul, nI_add]
        congr 1
        show c0 + _ + _ = c0 + (_ + S 6 2 * sc_wide (mname S m row q) n)
        unfold sc_wide
        rw [sc_dist_comm (mname S m row q) n, Nat.add_assoc]
      rw [e]
      exact nxt
theorem m_judge_row (hG : q_Cl (F_M_judge cI tv K) G) (ad : Nat → Nat) (F : Nat → Int32) (A : Nat → Nat → Int32) {S : sc_S} (hw : sc_wf S) (hR : mR S F A) {m k row : Nat} (hm : m < S 7 1) (hk : k < 15) (hr : row < 27) (hN : ∀ p, p < 3 → A 7 (3 * row + p) = mnm S m row p)
    (h1 : (∀ p, p < 3 → mpl S m row p) → K (some (.int 1)) (wM cI ad (q_uf (q_uf F 8 (nI (mc_p S m k row 3))) 9 (nI (mg_p S m row 3))) A))
    (h0 : ¬ (∀ p, p < 3 → mpl S m row p) → ∀ a b, K (some (.int 0)) (wM cI ad (q_uf (q_uf F 8 a) 9 b) A)) :
    ∀ (d p : Nat), p + d = 3 → (∀ q, q < p → mpl S m row q) → G 36 [(0, .ref (ad 0)), (2, .int (nI k)), (3, .int (nI row)), (4, .int (nI p))] [] (wM cI ad (q_uf (q_uf F 8 (nI (mc_p S m k row p))) 9 (nI (mg_p S m row p))) A) 0 0 := by
  intro d
  induction d with
  | zero =>
    intro p hp hq
    have : p = 3 := by omega
    subst this
    exact sg_M_judge_36 hG ad _ A (nI k) (nI row) (nI 3) ⟨fun _ => h1 hq, fun c => absurd (show nI 3 ≤ nI 3 from nI_le (by omega) (by decide)) c⟩
  | succ d ih =>
    intro p hp hq
    have e3 : 3 * nI row + nI p = nI (3 * row + p) := by rw [show (3 : Int32) = nI 3 from rfl, pk_mul, nI_add]
    have w := hw.2.2.1 m hm
    have go : mpl S m row p → ∀ c g : Nat, c = mc_p S m k row (p + 1) → g = mg_p S m row (p + 1) → G 243 [(0, .ref (ad 0)), (2, .int (nI k)), (3, .int (nI row)), (4, .int (nI p))] [] (wM cI ad (q_uf (q_uf F 8 (nI c)) 9 (nI g)) A) 0 0 := by
      intro hpl c g ec eg
      refine sg_M_judge_243 hG ad _ A (nI k) (nI row) (nI p) ?_
      rw [show nI p + 1 = nI (p + 1) from nI_1 p, ec, eg]
      refine ih (p + 1) (by omega) (fun q hq2 => ?_)
      rcases Nat.lt_or_ge q p with z | z
      · exact hq q z
      · rw [show q = p by omega]; exact hpl
    refine sg_M_judge_36 hG ad _ A (nI k) (nI row) (nI p) ⟨fun c => absurd (nge (by decide) (by omega) (show nI 3 ≤ nI p from c)) (by omega), fun _ => ?_⟩
    rw [e3, nI_clamp (by omega), hN p (by omega)]
    refine ⟨vp_in_nI (by omega) (by decide), ?_⟩
    rcases mnm_cases hw hm hr (show p < 3 by omega) with ⟨hpl, ⟨hps, hx, hn⟩ | ⟨hps, hx⟩⟩ | ⟨hpl, hx⟩
    · rw [hx]
      generalize hne : mname S m row p = n at hn hx ⊢
      refine ⟨fun _ => ⟨fun _ => ?_, fun c => absurd (neq (by omega) (by decide) (show nI n = nI 100 from c)) (by omega)⟩, fun c => absurd (nI_pos' (by omega)) c⟩
      have e7 : nI k + 7 = nI (k + 7) := nI_add k 7
      have e13 : nI k + 13 = nI (k + 13) := nI_add k 13
      have ef3 : F 3 = nI (S 6 0) := hR.2.2.1 0 (by decide)
      have ef4 : F 4 = nI (S 6 1) := hR.2.2.1 1 (by decide)
      have low : ∀ q, q < p → A 7 (3 * row + q) = nI (mname S m row q) ∧ mname S m row q < 35 := by
        intro q hq2
        rcases mnm_cases hw hm hr (show q < 3 by omega) with ⟨-, ⟨a, b, c⟩ | ⟨a, b⟩⟩ | ⟨a, b⟩
        · exact ⟨(hN q (by omega)).trans b, c⟩
        · exact absurd (Nat.lt_trans hq2 hps) a
        · exact absurd (hq q hq2) a
      -- behind the part for the KEY
      have rest : ∀ c : Nat, c = mc_p S m k row p + S 6 0 * sc_out k n → G 134 [(0, .ref (ad 0)), (2, .int (nI k)), (3, .int (nI row)), (4, .int (nI p)), (5, .int (nI n))] [] (wM cI ad (q_uf (q_uf F 8 (nI c)) 9 (nI (mg_p S m row p))) A) 0 0 := by
        intro c ec
        have fin : ∀ c2 : Nat, c2 = c + S 6 1 * sc_tw n → G 178 [(0, .ref (ad 0)), (2, .int (nI k)), (3, .int (nI row)), (4, .int (nI p)), (5, .int (nI n))] [] (wM cI ad (q_uf (q_uf F 8 (nI c2)) 9 (nI (mg_p S m row p + sc_sg n))) A) 0 0 := by
          intro c2 ec2
          refine sg_M_judge_178 hG ad _ A (nI k) (nI row) (nI p) (nI n) ?_
          have h := m_judge_wide (k := k) (n := n) hG ad F A hR (nI (mg_p S m row p + sc_sg n)) hr (show p < 3 by omega) hps hn low c2 p 0 (by omega)
          refine h ?_
          refine go hpl _ _ ?_ ?_
          · unfold mc_p at ec ⊢
            rw [show min (p + 1) (S 4 m) = min p (S 4 m) + 1 by omega]
            show _ = sc_sum (min p (S 4 m)) _ + _
            rw [show min p (S 4 m) = p by omega] at ec ⊢
            dsimp only at ec ⊢
            rw [ec2, ec, hne]
            omega
          · unfold mg_p
            rw [show min (p + 1) (S 4 m) = min p (S 4 m) + 1 by omega]
            show _ = sc_sum (min p (S 4 m)) _ + _
            rw [show min p (S 4 m) = p by omega]
            dsimp only
            rw [hne]
        refine sg_M_judge_134 hG ad _ A (nI k) (nI row) (nI p) (nI n) ?_
        rw [sm_size_signs n hn]
        refine ⟨fun c3 => ?_, fun c3 => ?_⟩
        · have ht : sc_tw n = 0 := by
            unfold sc_tw
            rw [if_neg (nne (by unfold sc_sg; split <;> omega) (by decide) (show ¬ nI (sc_sg n) = nI 2 from c3))]
          rw [q_uf_8, q_uf_9]
          show G 178 _ [] (wM cI ad (q_uf (q_uf F 8 (nI c + 0)) 9 (nI (mg_p S m row p) + nI (sc_sg n))) A) 0 0
          rw [show nI c + 0 = nI (c + 0) from nI_add c 0, nI_add]
          exact fin (c + 0) (by rw [ht]; omega)
        · have ht : sc_tw n = 1 := by
            unfold sc_tw
            rw [if_pos (neq (by unfold sc_sg; split <;> omega) (by decide) (show nI (sc_sg n) = nI 2 from c3))]
          rw [q_uf_8, q_uf_9]
          show G 178 _ [] (wM cI ad (q_uf (q_uf F 8 (nI c + F 4)) 9 (nI (mg_p S m row p) + nI (sc_sg n))) A) 0 0
          rw [ef4, nI_add, nI_add]
          exact fin (c + S 6 1) (by rw [ht]; omega)
      rw [e7, e13]
      refine ⟨fun c1 => ⟨fun c2 => ?_, fun c2 => ?_⟩, fun c1 => ?_⟩
      · have a1 := nge (by omega) (by omega) c1
        have a2 := nge (by omega) (by omega) c2
        rw [q_uf_8]
        show G 134 _ [] (wM cI ad (q_uf (q_uf F 8 (nI (mc_p S m k row p) + 0)) 9 (nI (mg_p S m row p))) A) 0 0
        rw [show nI (mc_p S m k row p) + 0 = nI (mc_p S m k row p + 0) from nI_add _ 0]
        refine rest _ ?_
        unfold sc_out
        rw [show k + 7 - n + (n - (k + 13)) = 0 by omega]
        rfl
      · have a1 := nge (by omega) (by omega) c1
        have a2 := nng (by omega) (by omega) c2
        rw [q_uf_8]
        show G 134 _ [] (wM cI ad (q_uf (q_uf F 8 (nI (mc_p S m k row p) + F 3 * (nI n - nI (k + 13)))) 9 (nI (mg_p S m row p))) A) 0 0
        rw [ef3, pk_sub (by omega), pk_mul, nI_add]
        refine rest _ ?_
        unfold sc_out
        rw [show k + 7 - n + (n - (k + 13)) = n - (k + 13) by omega]
      · have a1 := nng (by omega) (by omega) c1
        rw [q_uf_8]
        show G 134 _ [] (wM cI ad (q_uf (q_uf F 8 (nI (mc_p S m k row p) + F 3 * (nI (k + 7) - nI n))) 9 (nI (mg_p S m row p))) A) 0 0
        rw [ef3, pk_sub (by omega), pk_mul, nI_add]
        refine rest _ ?_
        unfold sc_out
        rw [show k + 7 - n + (n - (k + 13)) = k + 7 - n by omega]
    · rw [hx]
      refine ⟨fun _ => ⟨fun c => absurd rfl c, fun _ => ?_⟩, fun c => absurd (by decide) c⟩
      refine go hpl _ _ ?_ ?_
      · unfold mc_p
        rw [show min (p + 1) (S 4 m) = min p (S 4 m) by omega]
      · unfold mg_p
        rw [show min (p + 1) (S 4 m) = min p (S 4 m) by omega]
    · rw [hx]
      exact ⟨fun c => absurd c (by decide), fun _ => h0 (fun q => hpl (q p (by omega))) _ _⟩
theorem m_judge (ad : Nat → Nat) (F : Nat → Int32) (A : Nat → Nat → Int32) {S : sc_S} (hw : sc_wf S) (hR : mR S F A) {m k row : Nat} (hm : m < S 7 1) (hk : k < 15) (hr : row < 27) (hN : ∀ p, p < 3 → A 7 (3 * row + p) = mnm S m row p)
    (h1 : mok S m k row → K (some (.int 1)) (wM cI ad (q_uf (q_uf F 8 (nI (mc_p S m k row 3))) 9 (nI (mg_p S m row 3))) A))
    (h0 : ¬ mok S m k row → ∀ a b, K (some (.int 0)) (wM cI ad (q_uf (q_uf F 8 a) 9 b) A)) :
    T_M_judge cI tv [.ref (ad 0), .int (nI m), .int (nI k), .int (nI row)] (wM cI ad F A) K := by
  refine ⟨q_le0 _ _ rfl, fun G hG => ?_⟩
  have hM := wf_M hw
  have w := hw.2.2.1 m hm
  refine sg_M_judge_0 hG ad F A (nI m) (nI k) (nI row) ?_
  refine sg_M_judge_10 hG ad _ A (nI m) (nI k) (nI row) ?_
  rw [nI_clamp (by omega), (hR.2.2.2.2 m hm).2.2]
  have hin : vp_in (nI m) 18 := vp_in_nI (by omega) (by decide)
  have row1 : (S 5 m = 15 ∨ S 5 m = k) → G 33 [(0, .ref (ad 0)), (2, .int (nI k)), (3, .int (nI row))] [] (wM cI ad (q_uf (q_uf F 8 0) 9 0) A) 0 0 := by
    intro hkey
    refine sg_M_judge_33 hG ad _ A (nI k) (nI row) ?_
    have h := m_judge_row (K := K) hG ad F A hw hR hm hk hr hN (fun q => h1 ⟨hkey, q⟩) (fun q => h0 (fun z => q z.2)) 3 0 rfl (fun q hq => absurd hq (Nat.not_lt_zero q))
    have ec : mc_p S m k row 0 = 0 := by unfold mc_p; rw [Nat.zero_min]; rfl
    have eg : mg_p S m row 0 = 0 := by unfold mg_p; rw [Nat.zero_min]; rfl
    rw [ec, eg] at h
    exact h
  refine ⟨hin, fun c => row1 (Or.inl (neq (by omega) (by decide) (show nI (S 5 m) = nI 15 from c))), fun c => ⟨hin, fun c2 => row1 (Or.inr (neq (by omega) (by omega) c2)), fun c2 => ?_⟩⟩
  refine h0 (fun z => ?_) _ _
  rcases z.1 with z | z
  · exact c (by rw [z]; rfl)
  · exact c2 (by rw [z])
end MJ
