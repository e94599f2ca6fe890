/-! the model: a whole layer more -/
def mStep (S : sc_S) (m : Nat) (c g r : Nat → Nat) (cf : Nat → c_T) (c' g' r' n' fr : Nat → Nat) (A : Nat → Nat → Int32) : Prop := (∀ s, s < 405 → mEnt S (m + 1) c' g' r' n' A s) ∧ ∀ s, s < 405 → mS S (m + 1) s → mBst S m s c g r 405 (fr s) ∧ c' s = c (fr s) + mlk S m (fr s) s + lC S (m + 1) s ∧ g' s = g (fr s) + lG S (m + 1) s ∧ c_tr 1000000 (c_sum 405 (mWs S m s cf)) = some (c (fr s) + mlk S m (fr s) s, n' s) ∧ r' s = cntP (mLow S m (fun s => 405 * r (fr s) + s) s) 405 ∧ A 18 (405 * (m + 1) + s) = nI (fr s)
section MNx
variable {cI : ClassId} {tv : Nat} {K : q_K} {G : q_G}
theorem lC_le {S : sc_S} (hw : sc_wf S) {m s : Nat} (hm : m < S 7 1) (hs : s < 405) (hok : mS S m s) : lC S m s ≤ 4680 := by
  have w := hw.2.2.1 m hm
  have w0 := hw.2.2.2.2.2 0 (by decide)
  have w1 := hw.2.2.2.2.2 1 (by decide)
  have w2 := hw.2.2.2.2.2 2 (by decide)
  unfold lC mc_p
  have hn : ∀ j, j < min 3 (S 4 m) → mname S m (s % 27) j < 35 := by
    intro j hj
    obtain ⟨n, h1, h2⟩ := (hok.2 j (by omega)).1 (by omega)
    unfold mname
    rw [if_pos (by omega), h2]
    exact h1
  have h := sc_sum_le (k := min 3 (S 4 m)) (B := 1560) (f := fun j => S 6 0 * sc_out (s / 27) (mname S m (s % 27) j) + S 6 1 * sc_tw (mname S m (s % 27) j) + sc_sum j (fun i => S 6 2 * sc_wide (mname S m (s % 27) i) (mname S m (s % 27) j))) (fun j hj => by
    have a := hn j hj
    have b1 : sc_out (s / 27) (mname S m (s % 27) j) ≤ 21 := by unfold sc_out; omega
    have b2 : sc_tw (mname S m (s % 27) j) ≤ 1 := by unfold sc_tw; split <;> omega
    have c1 : S 6 0 * sc_out (s / 27) (mname S m (s % 27) j) ≤ 20 * 21 := Nat.mul_le_mul w0 b1
    have c2 : S 6 1 * sc_tw (mname S m (s % 27) j) ≤ 20 * 1 := Nat.mul_le_mul w1 b2
    have c3 := sc_sum_le (k := j) (B := 560) (f := fun i => S 6 2 * sc_wide (mname S m (s % 27) i) (mname S m (s % 27) j)) (fun i hi => by
      have a2 := hn i (by omega)
      have b3 : sc_wide (mname S m (s % 27) i) (mname S m (s % 27) j) ≤ 28 := by unfold sc_wide sc_dist; split <;> omega
      have := Nat.mul_le_mul w2 b3
      omega)
    have c4 : j * 560 ≤ 2 * 560 := Nat.mul_le_mul_right _ (by omega)
    show _ + _ + _ ≤ 1560
    omega)
  have h3 : min 3 (S 4 m) * 1560 ≤ 3 * 1560 := Nat.mul_le_mul_right _ (by omega)
  omega
theorem sc_sg_le {n : Nat} (h : n < 35) : sc_sg n ≤ 2 := by unfold sc_sg; split <;> omega
theorem lG_le {S : sc_S} (hw : sc_wf S) {m s : Nat} (hm : m < S 7 1) (hok : mS S m s) : lG S m s ≤ 2 * S 4 m := by
  have w := hw.2.2.1 m hm
  unfold lG mg_p
  have h := sc_sum_le (k := min 3 (S 4 m)) (B := 2) (f := fun j => sc_sg (mname S m (s % 27) j)) (fun j hj => by
    obtain ⟨n, h1, h2⟩ := (hok.2 j (by omega)).1 (by omega)
    have e : mname S m (s % 27) j = n := by unfold mname; rw [if_pos (by omega), h2]; rfl
    show sc_sg (mname S m (s % 27) j) ≤ 2
    rw [e]
    exact sc_sg_le h1)
  rw [Nat.min_eq_right w.2.1] at h ⊢
  omega
/-- in each MOMENT there is a state -/
theorem mS_ex {S : sc_S} (hw : sc_wf S) {m : Nat} (hm : m < S 7 1) : ∃ s, s < 405 ∧ mS S m s := by
  have w := hw.2.2.1 m hm
  obtain ⟨k, hk, hkk⟩ : ∃ k, k < 15 ∧ (S 5 m = 15 ∨ S 5 m = k) := by
    by_cases h : S 5 m = 15
    · exact ⟨0, by decide, Or.inl h⟩
    · exact ⟨S 5 m, by omega, Or.inr rfl⟩
  refine ⟨27 * k, by omega, ?_⟩
  show mok S m (27 * k / 27) (27 * k % 27)
  rw [show 27 * k / 27 = k by omega, show 27 * k % 27 = 0 by omega]
  refine ⟨hkk, fun p hp => ⟨fun hps => ?_, fun _ => ?_⟩⟩
  · have hd : mdig 0 p = 0 := by
      match p, hp with
      | 0, _ => rfl
      | 1, _ => rfl
      | 2, _ => rfl
    have b := hw.2.2.2.2.1 (S 3 m + p) (by omega)
    rw [hd]
    have hl := sc_low_lt (S 0 (S 3 m + p))
    unfold sc_kth
    rcases b.2.1 with h | h
    · rw [if_pos h, if_pos (by omega)]
      exact ⟨_, by omega, rfl⟩
    · rw [if_neg (by omega), if_pos rfl]
      exact ⟨_, h.1, rfl⟩
  · match p, hp with
    | 0, _ => rfl
    | 1, _ => rfl
    | 2, _ => rfl
theorem m_goOn (ad : Nat → Nat) (F : Nat → Int32) (A : Nat → Nat → Int32) {S : sc_S} (hw : sc_wf S) (hR : mR S F A) {m : Nat} (hm : m + 1 < S 7 1)
    {c g r n : Nat → Nat} {cf : Nat → c_T} (hN : mNms S m (A 7)) (hE : ∀ b, b < 405 → mEnt S m c g r n A b) (hb : ∀ b, b < 405 → mS S m b → c b < 100000 ∧ g b < 64 ∧ r b < 405 ∧ c_tr 1000000 (cf b) = some (c b, n b)) (hn : ∀ b, b < 405 → ¬ mS S m b → cf b = none)
    (hK : ∀ (F' : Nat → Int32) (A' : Nat → Nat → Int32) (c' g' r' n' fr : Nat → Nat), mFF F F' → (∀ k, (k < 7 ∨ 18 < k) → A' k = A k) → mNms S (m + 1) (A' 7) → (∀ x, x < 405 * (m + 1) → A' 18 x = A 18 x) → mStep S m c g r cf c' g' r' n' fr A' → K none (wM cI ad F' A')) :
    T_M_goOn cI tv [.ref (ad 0), .int (nI (m + 1))] (wM cI ad F A) K := by
  refine ⟨q_le0 _ _ rfl, fun G hG => ?_⟩
  have hM := wf_M hw
  have hex := mS_ex hw (show m < S 7 1 by omega)
  -- 4: the new layer is taken over, with its ranks
  have last : ∀ (F2 : Nat → Int32) (A2 : Nat → Nat → Int32) (fr nw : Nat → Nat), mFF F F2 → (∀ k, (k < 7 ∨ 18 < k) → A2 k = A k) → mNms S (m + 1) (A2 7) → (∀ x, x < 405 * (m + 1) → A2 18 x = A 18 x) → (∀ s, s < 405 → (¬ mS S (m + 1) s → A2 14 s = -1) ∧ (mS S (m + 1) s → mBst S m s c g r 405 (fr s) ∧ c_tr 1000000 (c_sum 405 (mWs S m s cf)) = some (c (fr s) + mlk S m (fr s) s, nw s) ∧ A2 14 s = nI (c (fr s) + mlk S m (fr s) s + lC S (m + 1) s) ∧ A2 15 s = nI (g (fr s) + lG S (m + 1) s) ∧ A2 16 s = nI (405 * r (fr s) + s) ∧ A2 17 s = nI (nw s) ∧ A2 18 (405 * (m + 1) + s) = nI (fr s))) →
      G 59 [(0, .ref (ad 0)), (2, .int (nI 0))] [] (wM cI ad F2 A2) 0 0 := by
    intro F2 A2 fr nw hF2 hA2 hN2 h18 hX
    let c' : Nat → Nat := fun s => c (fr s) + mlk S m (fr s) s + lC S (m + 1) s
    let g' : Nat → Nat := fun s => g (fr s) + lG S (m + 1) s
    let r' : Nat → Nat := fun s => cntP (mLow S m (fun s => 405 * r (fr s) + s) s) 405
    have loop : ∀ (d s : Nat) (A' : Nat → Nat → Int32), s + d = 405 → (∀ k, (k < 10 ∨ 13 < k) → A' k = A2 k) → (∀ t, t < s → mEnt S (m + 1) c' g' r' nw A' t) → G 59 [(0, .ref (ad 0)), (2, .int (nI s))] [] (wM cI ad F2 A') 0 0 := by
      intro d
      induction d with
      | zero =>
        intro s A' hd hA hE'
        refine sg_M_goOn_59 hG ad F2 A' (nI s) ⟨fun _ => hK F2 A' c' g' r' nw fr hF2 (fun k hk => ?_) ?_ (fun x hx => ?_) ⟨fun t ht => hE' t (by omega), fun t ht hok => ?_⟩, fun cc => absurd (show nI 405 ≤ nI s from nI_le (by omega) (by omega)) cc⟩
        · rw [hA k (by omega)]; exact hA2 k hk
        · rw [hA 7 (by decide)]; exact hN2
        · rw [hA 18 (by decide)]; exact h18 x hx
        · obtain ⟨x1, x2, x3, x4, x5, x6, x7⟩ := (hX t ht).2 hok
          exact ⟨x1, rfl, rfl, x2, rfl, by rw [hA 18 (by decide)]; exact x7⟩
      | succ d ih =>
        intro s A' hd hA hE'
        have hs : s < 405 := by omega
        have hin : vp_in (nI s) 405 := vp_in_nI hs (by decide)
        have hcl : (nI s).toNatClampNeg = s := nI_clamp (by omega)
        refine sg_M_goOn_59 hG ad F2 A' (nI s) ⟨fun cc => absurd (nge (by decide) (by omega) (show nI 405 ≤ nI s from cc)) (by omega), fun _ => ⟨hin, hin, hin, hin, ?_⟩⟩
        refine sg_M_goOn_90 hG ad F2 _ (nI s) ⟨hin, hin, hin, ?_⟩
        refine sg_M_goOn_109 hG ad F2 _ (nI s) ?_
        rw [hcl]
        have key : ∀ B : Nat → Nat → Int32, (∀ k, (k < 10 ∨ 13 < k) → B k = A2 k) → B 10 = upd (A' 10) s (A' 14 s) → B 11 = upd (A' 11) s (A' 15 s) → B 12 = upd (A' 12) s 0 → B 13 = upd (A' 13) s (A' 17 s) → G 111 [(0, .ref (ad 0)), (2, .int (nI s)), (3, .int 0)] [] (wM cI ad F2 B) 0 0 := by
          intro B b0 b10 b11 b12 b13
          have done : ∀ B2 : Nat → Nat → Int32, (∀ k, k ≠ 12 → B2 k = B k) → (∀ t, t ≠ s → B2 12 t = B 12 t) → (mS S (m + 1) s → B2 12 s = nI (r' s)) → G 59 [(0, .ref (ad 0)), (2, .int (nI (s + 1)))] [] (wM cI ad F2 B2) 0 0 := by
            intro B2 h1 h2 h3
            refine ih (s + 1) B2 (by omega) (fun k hk => by rw [h1 k (by omega)]; exact b0 k hk) (fun t ht => ?_)
            rcases Nat.lt_or_ge t s with z | z
            · have e := hE' t z
              show (mS S (m + 1) t → B2 10 t = _ ∧ B2 11 t = _ ∧ B2 12 t = _ ∧ B2 13 t = _) ∧ (¬ mS S (m + 1) t → B2 10 t = -1)
              rw [h1 10 (by decide), h1 11 (by decide), h1 13 (by decide), h2 t (by omega), b10, b11, b12, b13, pk_un (by omega), pk_un (by omega), pk_un (by omega), pk_un (by omega)]
              exact e
            · have : t = s := by omega
              subst this
              show (mS S (m + 1) t → B2 10 t = _ ∧ B2 11 t = _ ∧ B2 12 t = _ ∧ B2 13 t = _) ∧ (¬ mS S (m + 1) t → B2 10 t = -1)
              rw [h1 10 (by decide), h1 11 (by decide), h1 13 (by decide), b10, b11, b13, upd_s, upd_s, upd_s, hA 14 (by decide), hA 15 (by decide), hA 17 (by decide)]
              refine ⟨fun hok => ?_, (hX t hs).1⟩
              obtain ⟨x1, x2, x3, x4, x5, x6, x7⟩ := (hX t hs).2 hok
              exact ⟨x3, x4, h3 hok, x6⟩
          by_cases hok : mS S (m + 1) s
          · have bnd : ∀ b, b < 405 → mS S (m + 1) b → 405 * r (fr b) + b < 200000 ∧ c' b < 200000 := by
              intro b hbl hbo
              obtain ⟨x1, -⟩ := (hX b hbl).2 hbo
              obtain ⟨p1, p2, p3, p4⟩ := hb (fr b) x1.1 x1.2.1
              have l1 := mlk_le hw (show m < S 7 1 by omega) x1.1 hbl
              have l2 := lC_le hw hm hbl hbo
              refine ⟨by omega, ?_⟩
              show c (fr b) + mlk S m (fr b) b + lC S (m + 1) b < 200000
              omega
            refine m_rank_loop (K := K) (m := m) (s := s) (cd := fun s => 405 * r (fr s) + s) (v := c') hG ad F2 hs (fun b h1 h2 => (bnd b h1 h2).1) (fun b h1 h2 => (bnd b h1 h2).2) hok B (fun b hbl => ?_) (fun B2 h1 h2 h3 => done B2 h1 h2 (fun _ => h3)) 405 0 B rfl (fun k _ => rfl) (fun t _ => rfl) (by rw [b12, upd_s]; rfl)
            rw [b0 14 (by decide), b0 16 (by decide)]
            refine ⟨fun hbo => ?_, (hX b hbl).1⟩
            obtain ⟨x1, x2, x3, x4, x5, x6, x7⟩ := (hX b hbl).2 hbo
            exact ⟨x3, x5⟩
          · refine sg_M_goOn_111 hG ad F2 B (nI s) 0 ⟨fun cc => absurd cc (by decide), fun _ => ⟨hin, ?_⟩⟩
            rw [hcl, b0 14 (by decide), (hX s hs).1 hok]
            refine ⟨fun _ => ?_, fun cc => absurd (by decide) cc⟩
            rw [show nI s + 1 = nI (s + 1) from nI_1 s]
            exact done B (fun k _ => rfl) (fun t _ => rfl) (fun z => absurd z hok)
        refine key _ (fun k hk => ?_) rfl rfl rfl rfl
        rw [q_ua_ne (by omega), q_ua_ne (by omega), q_ua_ne (by omega), q_ua_ne (by omega)]
        exact hA k hk
    exact loop 405 0 A2 rfl (fun k _ => rfl) (fun t ht => absurd ht (Nat.not_lt_zero t))
  -- 3: every state of the new layer is reached
  have reach : ∀ (F1 : Nat → Int32) (A1 : Nat → Nat → Int32), mFF F F1 → (∀ k, (k < 7 ∨ 9 < k) → A1 k = A k) → mNms S (m + 1) (A1 7) → (∀ a b, a < 27 → b < 27 → rok S m a → rok S (m + 1) b → A1 9 (27 * a + b) = nI (stpA S m a b)) → ∀ (d s : Nat) (F' : Nat → Int32) (A' : Nat → Nat → Int32), s + d = 405 → mFF F F' → (∀ k, (k < 14 ∨ 18 < k) → A' k = A1 k) → (∀ x, x < 405 * (m + 1) → A' 18 x = A 18 x) → (∀ t, t < s → mNx S m c g r cf A' t) → G 38 [(0, .ref (ad 0)), (1, .int (nI (m + 1))), (2, .int (nI s))] [] (wM cI ad F' A') 0 0 := by
    intro F1 A1 hF1 hA1 hN1 hst1 d
    induction d with
    | zero =>
      intro s F' A' hd hF hA h18 hX
      refine sg_M_goOn_38 hG ad F' A' (nI (m + 1)) (nI s) ⟨fun _ => ?_, fun cc => absurd (show nI 405 ≤ nI s from nI_le (by omega) (by omega)) cc⟩
      obtain ⟨h, hh⟩ := Classical.axiomOfChoice (r := fun (t : Nat) (q : Nat × Nat) => t < 405 → mS S (m + 1) t → mBst S m t c g r 405 q.1 ∧ c_tr 1000000 (c_sum 405 (mWs S m t cf)) = some (c q.1 + mlk S m q.1 t, q.2) ∧ A' 14 t = nI (c q.1 + mlk S m q.1 t + lC S (m + 1) t) ∧ A' 15 t = nI (g q.1 + lG S (m + 1) t) ∧ A' 16 t = nI (405 * r q.1 + t) ∧ A' 17 t = nI q.2 ∧ A' 18 (405 * (m + 1) + t) = nI q.1) (fun t => by
        by_cases ht : t < 405 ∧ mS S (m + 1) t
        · obtain ⟨q, w, y⟩ := (hX t (by omega)).2 ht.2
          exact ⟨(q, w), fun _ _ => y⟩
        · exact ⟨(0, 0), fun h1 h2 => absurd ⟨h1, h2⟩ ht⟩)
      exact last F' A' (fun t => (h t).1) (fun t => (h t).2) hF (fun k hk => by rw [hA k (by omega)]; exact hA1 k (by omega)) (by rw [hA 7 (by decide)]; exact hN1) h18 (fun t ht => ⟨(hX t (by omega)).1, fun hok => hh t ht hok⟩)
    | succ d ih =>
      intro s F' A' hd hF hA h18 hX
      have hs : s < 405 := by omega
      have hRi : mR S F' A' := mR_of hR (fun j hj => hF j (by omega) (by omega)) (fun k hk => by rw [hA k (by omega)]; exact hA1 k (by omega))
      refine sg_M_goOn_38 hG ad F' A' (nI (m + 1)) (nI s) ⟨fun cc => absurd (nge (by decide) (by omega) (show nI 405 ≤ nI s from cc)) (by omega), fun _ => ?_⟩
      refine m_reach (n := n) (cf := cf) ad F' A' hw hRi hm hs (by rw [hA 7 (by decide)]; exact hN1) (fun b hbl => ?_) hb hn (by rw [hA 9 (by decide)]; exact hst1) hex (fun F2 A2 f1 f2 f3 f4 f5 => ?_)
      · have e := hE b hbl
        show (mS S m b → A' 10 b = _ ∧ A' 11 b = _ ∧ A' 12 b = _ ∧ A' 13 b = _) ∧ (¬ mS S m b → A' 10 b = -1)
        rw [hA 10 (by decide), hA 11 (by decide), hA 12 (by decide), hA 13 (by decide), hA1 10 (by decide), hA1 11 (by decide), hA1 12 (by decide), hA1 13 (by decide)]
        exact e
      · refine sg_M_goOn_51 hG ad F2 A2 (nI (m + 1)) (nI s) ?_
        rw [show nI s + 1 = nI (s + 1) from nI_1 s]
        refine ih (s + 1) F2 A2 (by omega) (fun j h8 h9 => by rw [f1 j h8 h9]; exact hF j h8 h9) (fun k hk => by rw [f2 k hk]; exact hA k hk) (fun x hx => by rw [f4 x (by omega)]; exact h18 x hx) (fun t ht => ?_)
        rcases Nat.lt_or_ge t s with z | z
        · have e := hX t z
          unfold mNx at e ⊢
          rw [f3 14 t (by decide) (by decide) (by omega), f3 15 t (by decide) (by decide) (by omega), f3 16 t (by decide) (by decide) (by omega), f3 17 t (by decide) (by decide) (by omega), f4 _ (by omega)]
          exact e
        · rw [show t = s by omega]
          exact f5
  -- 2: names and steps
  have mid : ∀ A0 : Nat → Nat → Int32, (∀ k, k ≠ 8 → A0 k = A k) → mNms S m (A0 8) → ∀ x2 : Int32, T_M_findNames cI tv [.ref (ad 0), .int (nI (m + 1))] (wM cI ad F A0) (fun r w1 => G 31 [(0, .ref (ad 0)), (1, .int (nI (m + 1))), (2, .int x2)] (r.toList ++ []) w1 0 0) := by
    intro A0 h0 h8 x2
    refine m_findNames ad F A0 hw (mR_of hR (fun j _ => rfl) (fun k hk => h0 k (by omega))) hm (fun f hf => ?_)
    refine sg_M_goOn_31 hG ad F _ (nI (m + 1)) x2 ?_
    refine m_findSteps (m := m) ad F _ hw (mR_of hR (fun j _ => rfl) (fun k hk => by rw [q_ua_ne (by omega)]; exact h0 k (by omega))) hm (fun b p h1 h2 => hf b p h1 h2) (fun a p h1 h2 => h8 a p h1 h2) (fun f9 hf9 => ?_)
    refine sg_M_goOn_36 hG ad F _ (nI (m + 1)) x2 ?_
    refine reach F (q_ua (q_ua A0 7 f) 9 f9) (fun j _ _ => rfl) (fun k hk => by rw [q_ua_ne (by omega), q_ua_ne (by omega)]; exact h0 k (by omega)) hf hf9 405 0 F _ rfl (fun j _ _ => rfl) (fun k _ => rfl) (fun x _ => ?_) (fun t ht => absurd ht (Nat.not_lt_zero t))
    show A0 18 x = A 18 x
    rw [h0 18 (by decide)]
  -- 1: the names are put aside
  have copy : ∀ (d k : Nat) (A0 : Nat → Nat → Int32), k + d = 81 → (∀ j, j ≠ 8 → A0 j = A j) → (∀ j, j < k → A0 8 j = A 7 j) → G 2 [(0, .ref (ad 0)), (1, .int (nI (m + 1))), (2, .int (nI k))] [] (wM cI ad F A0) 0 0 := by
    intro d
    induction d with
    | zero =>
      intro k A0 hd h0 h8
      refine sg_M_goOn_2 hG ad F A0 (nI (m + 1)) (nI k) ⟨fun _ => mid A0 h0 (fun row p h1 h2 => ?_) _, fun cc => absurd (show nI 81 ≤ nI k from nI_le (by omega) (by omega)) cc⟩
      rw [h8 (3 * row + p) (by omega)]
      exact hN row p h1 h2
    | succ d ih =>
      intro k A0 hd h0 h8
      have hin : vp_in (nI k) 81 := vp_in_nI (by omega) (by decide)
      refine sg_M_goOn_2 hG ad F A0 (nI (m + 1)) (nI k) ⟨fun cc => absurd (nge (by decide) (by omega) (show nI 81 ≤ nI k from cc)) (by omega), fun _ => ⟨hin, hin, ?_⟩⟩
      rw [nI_clamp (by omega), show nI k + 1 = nI (k + 1) from nI_1 k]
      refine ih (k + 1) _ (by omega) (fun j hj => by rw [q_ua_ne hj]; exact h0 j hj) (fun j hj => ?_)
      show upd (A0 8) k (A0 7 k) j = _
      rcases Nat.lt_or_ge j k with z | z
      · rw [pk_un (by omega)]; exact h8 j z
      · rw [show j = k by omega, upd_s, h0 7 (by decide)]
  exact sg_M_goOn_0 hG ad F A (nI (m + 1)) (copy 81 0 A rfl (fun j _ => rfl) (fun j hj => absurd hj (Nat.not_lt_zero j)))
end MNx
