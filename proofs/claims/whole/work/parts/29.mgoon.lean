/-! the model: from one layer to the next -/
def mNx (S : sc_S) (m : Nat) (c g r : Nat → Nat) (cf : Nat → c_T) (A : Nat → Nat → Int32) (s : Nat) : Prop := (¬ mS S (m + 1) s → A 14 s = -1) ∧ (mS S (m + 1) s → ∃ q w : Nat, mBst S m s c g r 405 q ∧ c_tr 1000000 (c_sum 405 (mWs S m s cf)) = some (c q + mlk S m q s, w) ∧ A 14 s = nI (c q + mlk S m q s + lC S (m + 1) s) ∧ A 15 s = nI (g q + lG S (m + 1) s) ∧ A 16 s = nI (405 * r q + s) ∧ A 17 s = nI w ∧ A 18 (405 * (m + 1) + s) = nI q)
section MGo
variable {cI : ClassId} {tv : Nat} {K : q_K} {G : q_G}
theorem m_reach (ad : Nat → Nat) (F : Nat → Int32) (A : Nat → Nat → Int32) {S : sc_S} (hw : sc_wf S) (hR : mR S F A) {m s : Nat} (hm : m + 1 < S 7 1) (hs : s < 405)
    {c g r n : Nat → Nat} {cf : Nat → c_T} (hN : mNms S (m + 1) (A 7)) (hE : ∀ b, b < 405 → mEnt S m c g r n A b) (hb : ∀ b, b < 405 → mS S m b → c b < 100000 ∧ g b < 64 ∧ r b < 405 ∧ c_tr 1000000 (cf b) = some (c b, n b)) (hn : ∀ b, b < 405 → ¬ mS S m b → cf b = none)
    (hst : ∀ a b, a < 27 → b < 27 → rok S m a → rok S (m + 1) b → A 9 (27 * a + b) = nI (stpA S m a b)) (hex : ∃ b, b < 405 ∧ mS S m b)
    (hK : ∀ (F' : Nat → Int32) (A' : Nat → Nat → Int32), mFF F F' → (∀ k, (k < 14 ∨ 18 < k) → A' k = A k) → (∀ k t, 14 ≤ k → k ≤ 17 → t ≠ s → A' k t = A k t) → (∀ x, x ≠ 405 * (m + 1) + s → A' 18 x = A 18 x) → mNx S m c g r cf A' s → K none (wM cI ad F' A')) :
    T_M_reach cI tv [.ref (ad 0), .int (nI (m + 1)), .int (nI s)] (wM cI ad F A) K := by
  refine ⟨q_le0 _ _ rfl, fun G hG => ?_⟩
  have hM := wf_M hw
  have hin : vp_in (nI s) 405 := vp_in_nI hs (by decide)
  have hcl : (nI s).toNatClampNeg = s := nI_clamp (by omega)
  have d27 : nI s / 27 = nI (s / 27) := pk_div (d := 27) (by omega) (by decide) (by decide)
  have r27 : nI s - nI s / 27 * 27 = nI (s % 27) := pk_rem (d := 27) (by omega) (by decide) (by decide)
  refine sg_M_reach_0 hG ad F A (nI (m + 1)) (nI s) ⟨hin, ?_⟩
  rw [r27, d27, hcl]
  refine m_judge (m := m + 1) (k := s / 27) (row := s % 27) ad F _ hw (show mR S F (q_ua A 14 _) from hR) hm (by omega) (by omega) (fun p hp => hN _ _ (by omega) hp) (fun q => ?_) (fun q a b => ?_)
  · refine sg_M_reach_20 hG ad _ _ (nI (m + 1)) (nI s) 1 ⟨fun _ => ?_, fun cc => absurd cc (by decide)⟩
    refine m_reach_loop (K := K) (m := m) (s := s) (n := n) (cf := cf) hG ad (q_uf (q_uf F 8 (nI (mc_p S (m + 1) (s / 27) (s % 27) 3))) 9 (nI (mg_p S (m + 1) (s % 27) 3))) (q_ua A 14 (upd (A 14) s (-1))) hw (mR_of hR (fun j hj => by rw [q_uf_ne (by omega), q_uf_ne (by omega)]) (fun k hk => q_ua_ne (by omega))) hm hs q hE hb hn hst hex (fun β w hbst hsum => ?_) 405 0 (-1) 0 0 rfl (Or.inl ⟨fun b' h => absurd h (Nat.not_lt_zero b'), rfl, rfl, rfl⟩)
    obtain ⟨q1, q2, q3⟩ := id hbst
    obtain ⟨t10, t11, t12, t13⟩ := (hE β q1).1 q2
    have hinq : vp_in (nI β) 405 := vp_in_nI q1 (by decide)
    have hclq : (nI β).toNatClampNeg = β := nI_clamp (by omega)
    refine sg_M_reach_35 hG ad _ _ (nI (m + 1)) (nI s) (nI β) _ (nI w) (nI 405) ⟨fun _ => ⟨hin, hinq, hin, ?_⟩, fun cc => absurd (show nI 405 ≤ nI 405 from nI_le (Nat.le_refl _) (by decide)) cc⟩
    refine sg_M_reach_248 hG ad _ _ (nI (m + 1)) (nI s) (nI β) (nI w) ⟨hinq, hin, hin, ?_⟩
    have e18 : 405 * nI (m + 1) + nI s = nI (405 * (m + 1) + s) := by rw [show (405 : Int32) = nI 405 from rfl, pk_mul, nI_add]
    refine sg_M_reach_274 hG ad _ _ (nI (m + 1)) (nI s) (nI β) ?_
    rw [e18, hcl, hclq, nI_clamp (show 405 * (m + 1) + s < 2 ^ 31 by omega)]
    refine ⟨vp_in_nI (by omega) (by decide), hK _ _ (fun j h8 h9 => by rw [q_uf_ne h9, q_uf_ne h8]) (fun k hk => ?_) (fun k t hk1 hk2 ht => ?_) (fun x hx => ?_) ⟨fun z => absurd q z, fun _ => ⟨β, w, hbst, hsum, ?_, ?_, ?_, ?_, ?_⟩⟩⟩
    · rw [q_ua_ne (by omega), q_ua_ne (by omega), q_ua_ne (by omega), q_ua_ne (by omega), q_ua_ne (by omega), q_ua_ne (by omega)]
    · rcases (show k = 14 ∨ k = 15 ∨ k = 16 ∨ k = 17 by omega) with rfl | rfl | rfl | rfl
      · show upd (upd (A 14) s (-1)) s _ t = A 14 t
        rw [pk_un ht, pk_un ht]
      · show upd (A 15) s _ t = A 15 t
        rw [pk_un ht]
      · show upd (A 16) s _ t = A 16 t
        rw [pk_un ht]
      · show upd (A 17) s _ t = A 17 t
        rw [pk_un ht]
    · show upd (A 18) (405 * (m + 1) + s) _ x = A 18 x
      rw [pk_un hx]
    · show upd (upd (A 14) s (-1)) s (nI (c β + mlk S m β s) + nI (mc_p S (m + 1) (s / 27) (s % 27) 3)) s = _
      rw [upd_s, nI_add]
      rfl
    · show upd (A 15) s (A 11 β + nI (mg_p S (m + 1) (s % 27) 3)) s = _
      rw [upd_s, t11, nI_add]
      rfl
    · show upd (A 16) s (405 * A 12 β + nI s) s = _
      rw [upd_s, t12, show (405 : Int32) = nI 405 from rfl, pk_mul, nI_add]
    · show upd (A 17) s (nI w) s = _
      rw [upd_s]
    · show upd (A 18) (405 * (m + 1) + s) (nI β) (405 * (m + 1) + s) = _
      rw [upd_s]
  · refine sg_M_reach_20 hG ad _ _ (nI (m + 1)) (nI s) 0 ⟨fun cc => absurd rfl cc, fun _ => ?_⟩
    refine hK _ _ (fun j h8 h9 => by rw [q_uf_ne h9, q_uf_ne h8]) (fun k hk => q_ua_ne (by omega)) (fun k t hk1 hk2 ht => ?_) (fun x hx => rfl) ⟨fun _ => ?_, fun z => absurd z q⟩
    · rcases Nat.lt_or_ge 14 k with z | z
      · rw [q_ua_ne (by omega)]
      · rw [show k = 14 by omega]
        show upd (A 14) s (-1) t = A 14 t
        rw [pk_un ht]
    · show upd (A 14) s (-1) s = -1
      rw [upd_s]
noncomputable def cntP (P : Nat → Prop) : Nat → Nat
  | 0 => 0
  | k + 1 => cntP P k + @ite _ (P k) (Classical.propDecidable _) 1 0
theorem cntP_pos {P : Nat → Prop} {k : Nat} (h : P k) : cntP P (k + 1) = cntP P k + 1 := by
  show cntP P k + @ite _ (P k) (Classical.propDecidable _) 1 0 = _
  rw [if_pos h]
theorem cntP_neg {P : Nat → Prop} {k : Nat} (h : ¬ P k) : cntP P (k + 1) = cntP P k := by
  show cntP P k + @ite _ (P k) (Classical.propDecidable _) 1 0 = _
  rw [if_neg h]
  rfl
theorem cntP_le {P Q : Nat → Prop} (h : ∀ b, P b → Q b) : ∀ k, cntP P k ≤ cntP Q k
  | 0 => Nat.le_refl _
  | k + 1 => by
    have ih := cntP_le h k
    by_cases hp : P k
    · rw [cntP_pos hp, cntP_pos (h k hp)]; omega
    · rw [cntP_neg hp]
      by_cases hq : Q k
      · rw [cntP_pos hq]; omega
      · rw [cntP_neg hq]; exact ih
theorem cntP_lt {P Q : Nat → Prop} (h : ∀ b, P b → Q b) {x : Nat} (hx : Q x) (hnx : ¬ P x) : ∀ k, x < k → cntP P k < cntP Q k
  | 0, hk => absurd hk (Nat.not_lt_zero _)
  | k + 1, hk => by
    rcases Nat.lt_or_ge x k with z | z
    · have ih := cntP_lt h hx hnx k z
      by_cases hp : P k
      · rw [cntP_pos hp, cntP_pos (h k hp)]; omega
      · rw [cntP_neg hp]
        by_cases hq : Q k
        · rw [cntP_pos hq]; omega
        · rw [cntP_neg hq]; exact ih
    · have : x = k := by omega
      subst this
      have := cntP_le h x
      rw [cntP_neg hnx, cntP_pos hx]; omega
theorem cntP_bound (P : Nat → Prop) : ∀ k, cntP P k ≤ k
  | 0 => Nat.le_refl _
  | k + 1 => by
    have := cntP_bound P k
    by_cases hp : P k
    · rw [cntP_pos hp]; omega
    · rw [cntP_neg hp]; omega
/-- the rank of s by its code among the allowed -/
def mLow (S : sc_S) (m : Nat) (cd : Nat → Nat) (s : Nat) : Nat → Prop := fun b => mS S (m + 1) b ∧ cd b < cd s
/-- the loop that counts the smaller codes -/
theorem m_rank_loop (hG : q_Cl (F_M_goOn cI tv K) G) (ad : Nat → Nat) (F : Nat → Int32) {S : sc_S} {m s : Nat} (hs : s < 405) {cd v : Nat → Nat} (hcd : ∀ b, b < 405 → mS S (m + 1) b → cd b < 200000) (hv : ∀ b, b < 405 → mS S (m + 1) b → v b < 200000) (hok : mS S (m + 1) s) (A0 : Nat → Nat → Int32) (h14 : ∀ b, b < 405 → (mS S (m + 1) b → A0 14 b = nI (v b) ∧ A0 16 b = nI (cd b)) ∧ (¬ mS S (m + 1) b → A0 14 b = -1))
    (hE : ∀ A' : Nat → Nat → Int32, (∀ k, k ≠ 12 → A' k = A0 k) → (∀ t, t ≠ s → A' 12 t = A0 12 t) → A' 12 s = nI (cntP (mLow S m cd s) 405) → G 59 [(0, .ref (ad 0)), (2, .int (nI (s + 1)))] [] (wM cI ad F A') 0 0) :
    ∀ (d b : Nat) (A' : Nat → Nat → Int32), b + d = 405 → (∀ k, k ≠ 12 → A' k = A0 k) → (∀ t, t ≠ s → A' 12 t = A0 12 t) → A' 12 s = nI (cntP (mLow S m cd s) b) → G 111 [(0, .ref (ad 0)), (2, .int (nI s)), (3, .int (nI b))] [] (wM cI ad F A') 0 0 := by
  have hin : vp_in (nI s) 405 := vp_in_nI hs (by decide)
  have hcl : (nI s).toNatClampNeg = s := nI_clamp (by omega)
  intro d
  induction d with
  | zero =>
    intro b A' hd h1 h2 h3
    have : b = 405 := by omega
    subst this
    refine sg_M_goOn_111 hG ad F A' (nI s) (nI 405) ⟨fun _ => ?_, fun c => absurd (show nI 405 ≤ nI 405 from nI_le (Nat.le_refl _) (by decide)) c⟩
    rw [show nI s + 1 = nI (s + 1) from nI_1 s]
    exact hE A' h1 h2 h3
  | succ d ih =>
    intro b A' hd h1 h2 h3
    have hinb : vp_in (nI b) 405 := vp_in_nI (by omega) (by decide)
    have hclb : (nI b).toNatClampNeg = b := nI_clamp (by omega)
    obtain ⟨a1, a2⟩ := (h14 s hs).1 hok
    refine sg_M_goOn_111 hG ad F A' (nI s) (nI b) ⟨fun c => absurd (nge (by decide) (by omega) (show nI 405 ≤ nI b from c)) (by omega), fun _ => ⟨hin, ?_⟩⟩
    rw [hcl, hclb, h1 14 (by decide), h1 16 (by decide), a1, a2, h3, show nI b + 1 = nI (b + 1) from nI_1 b]
    refine ⟨fun c => absurd c (nI_pos (by have := hv s hs hok; omega)), fun _ => ⟨hin, hinb, ?_⟩⟩
    have step : ∀ x : Int32, x = nI (cntP (mLow S m cd s) (b + 1)) → G 111 [(0, .ref (ad 0)), (2, .int (nI s)), (3, .int (nI (b + 1)))] [] (wM cI ad F (q_ua A' 12 (upd (A' 12) s x))) 0 0 := by
      intro x hx
      refine ih (b + 1) _ (by omega) (fun k hk => by rw [q_ua_ne hk]; exact h1 k hk) (fun t ht => ?_) ?_
      · show upd (A' 12) s x t = _
        rw [pk_un ht]; exact h2 t ht
      · show upd (A' 12) s x s = _
        rw [upd_s]; exact hx
    by_cases hb : mS S (m + 1) b
    · obtain ⟨b1, b2⟩ := (h14 b (by omega)).1 hb
      rw [b1, b2]
      have := hcd b (by omega) hb
      have := hcd s hs hok
      have := hv b (by omega) hb
      refine ⟨fun c => absurd c (nI_pos (by omega)), fun _ => ⟨hinb, hin, fun c => ⟨hin, step _ ?_⟩, fun c => ⟨hin, sg_M_goOn_168 hG ad F _ (nI s) (nI (b + 1)) (step _ ?_)⟩⟩⟩
      · have hle := nge (by omega) (by omega) c
        rw [cntP_neg (fun z => absurd z.2 (by omega)), show (0 : Int32) = nI 0 from rfl, nI_add]
        rfl
      · have hlt := nng (by omega) (by omega) c
        rw [cntP_pos (show mLow S m cd s b from ⟨hb, hlt⟩)]
        exact nI_1 _
    · rw [(h14 b (by omega)).2 hb]
      refine ⟨fun _ => ⟨hin, step _ ?_⟩, fun c => absurd (by decide) c⟩
      rw [cntP_neg (fun z => hb z.1), show (0 : Int32) = nI 0 from rfl, nI_add]
      rfl
end MGo
