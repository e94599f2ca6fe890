/-! the class: where states lie, what KEYS and places pay -/
def xo (S : sc_S) : Nat → Nat
  | 0 => 0
  | m + 1 => xo S m + 15 * p3 (S 4 m)
theorem p3_le {k : Nat} (h : 1 ≤ k) (h3 : k ≤ 3) : p3 k ≤ 9 * k := by
  rcases (show k = 1 ∨ k = 2 ∨ k = 3 by omega) with rfl | rfl | rfl <;> decide
theorem xo_le {S : sc_S} (hw : sc_wf S) : ∀ m, m < S 7 1 → xo S m ≤ 135 * S 3 m
  | 0, _ => Nat.zero_le _
  | m + 1, hm => by
    have ih := xo_le hw m (by omega)
    have w := hw.2.2.1 m (by omega)
    have e := w.2.2.2.2.1 hm
    have p := p3_le w.1 w.2.1
    show xo S m + 15 * p3 (S 4 m) ≤ _
    rw [e]
    omega
theorem xo_lt {S : sc_S} (hw : sc_wf S) {m : Nat} (hm : m < S 7 1) : xo S m + 15 * p3 (S 4 m) ≤ 2430 := by
  have ih := xo_le hw m hm
  have w := hw.2.2.1 m hm
  have p := p3_le w.1 w.2.1
  have := hw.1
  omega
section XL
variable {cI : ClassId} {tv : Nat} {K : q_K}
theorem x_layOut (ad : Nat → Nat) (F : Nat → Int32) (A : Nat → Nat → Int32) {S : sc_S} (hw : sc_wf S) (hR : xR S F A) (hK : ∀ A' : Nat → Nat → Int32, (∀ k, k ≠ 15 → A' k = A k) → (∀ m, m < S 7 1 → A' 15 m = nI (xo S m)) → K none (wX cI ad F A')) : T_R_layOutStates cI tv [.ref (ad 3)] (wX cI ad F A) K := by
  refine ⟨q_le0 _ _ rfl, fun G hG => ?_⟩
  have hM := wf_M hw
  refine sg_R_layOutStates_0 hG ad F A ?_
  have loop : ∀ (d m : Nat) (A' : Nat → Nat → Int32), m + d = S 7 1 → (∀ k, k ≠ 15 → A' k = A k) → (∀ t, t < m → A' 15 t = nI (xo S t)) → G 4 [(0, .ref (ad 3)), (1, .int (nI (xo S m))), (2, .int (nI m))] [] (wX cI ad F A') 0 0 := by
    intro d
    induction d with
    | zero =>
      intro m A' hd h1 h2
      refine sg_R_layOutStates_4 hG ad F A' _ (nI m) ⟨fun _ => hK A' h1 (fun t ht => h2 t (by omega)), fun c => ?_⟩
      rw [hR.2.1] at c
      exact absurd (nI_le (by omega) (by omega)) c
    | succ d ih =>
      intro m A' hd h1 h2
      refine sg_R_layOutStates_4 hG ad F A' _ (nI m) ⟨fun c => ?_, fun _ => ⟨vp_in_nI (by omega) (by decide), ?_⟩⟩
      · rw [hR.2.1] at c
        have := nge (by omega) (by omega) c
        omega
      · rw [nI_clamp (by omega)]
        refine x_picksAt ad F _ hw (xR_of hR (fun j _ => rfl) (fun k hk hk2 => by rw [q_ua_ne (by omega)]; exact h1 k (by omega))) (by omega) ?_
        refine sg_R_layOutStates_30 hG ad F _ (nI (xo S m)) (nI m) _ _ _ ?_
        rw [show nI m + 1 = nI (m + 1) from nI_1 m, show (15 : Int32) = nI 15 from rfl, pk_mul, nI_add]
        refine ih (m + 1) _ (by omega) (fun k hk => by rw [q_ua_ne hk]; exact h1 k hk) (fun t ht => ?_)
        show upd (A' 15) m (nI (xo S m)) t = _
        rcases Nat.lt_or_ge t m with z | z
        · rw [pk_un (by omega)]; exact h2 t z
        · rw [show t = m by omega, upd_s]
  exact loop (S 7 1) 0 A (by omega) (fun k _ => rfl) (fun t ht => absurd ht (Nat.not_lt_zero t))
theorem x_linkKeys (ad : Nat → Nat) (F : Nat → Int32) (A : Nat → Nat → Int32) {S : sc_S} (hR : xR S F A) (hK : ∀ A' : Nat → Nat → Int32, (∀ k, k ≠ 21 → A' k = A k) → (∀ k k', k < 15 → k' < 15 → A' 21 (15 * k + k') = nI (64 * (S 6 4 * sc_kd k k'))) → K none (wX cI ad F A')) : T_R_linkKeys cI tv [.ref (ad 3)] (wX cI ad F A) K := by
  refine ⟨q_le0 _ _ rfl, fun G hG => ?_⟩
  refine sg_R_linkKeys_0 hG ad F A ?_
  have e7 : F 7 = nI (S 6 4) := hR.2.2.1 4 (by decide)
  have outer : ∀ (d a : Nat) (A' : Nat → Nat → Int32), a + d = 15 → (∀ k, k ≠ 21 → A' k = A k) → (∀ k k', k < a → k' < 15 → A' 21 (15 * k + k') = nI (64 * (S 6 4 * sc_kd k k'))) → G 2 [(0, .ref (ad 3)), (1, .int (nI a))] [] (wX cI ad F A') 0 0 := by
    intro d
    induction d with
    | zero =>
      intro a A' hd h1 h2
      exact sg_R_linkKeys_2 hG ad F A' (nI a) ⟨fun _ => hK A' h1 (fun k k' g1 g2 => h2 k k' (by omega) g2), fun c => absurd (show nI 15 ≤ nI a from nI_le (by omega) (by omega)) c⟩
    | succ d ih =>
      intro a A' hd h1 h2
      refine sg_R_linkKeys_2 hG ad F A' (nI a) ⟨fun c => absurd (nge (by decide) (by omega) (show nI 15 ≤ nI a from c)) (by omega), fun _ => ?_⟩
      have inner : ∀ (e b : Nat) (A' : Nat → Nat → Int32), b + e = 15 → (∀ k, k ≠ 21 → A' k = A k) → (∀ k k', k < a → k' < 15 → A' 21 (15 * k + k') = nI (64 * (S 6 4 * sc_kd k k'))) → (∀ k', k' < b → A' 21 (15 * a + k') = nI (64 * (S 6 4 * sc_kd a k'))) → G 10 [(0, .ref (ad 3)), (1, .int (nI a)), (2, .int (nI b))] [] (wX cI ad F A') 0 0 := by
        intro e
        induction e with
        | zero =>
          intro b A' he h1 h2 h3
          refine sg_R_linkKeys_10 hG ad F A' (nI a) (nI b) ⟨fun _ => ?_, fun c => absurd (show nI 15 ≤ nI b from nI_le (by omega) (by omega)) c⟩
          rw [show nI a + 1 = nI (a + 1) from nI_1 a]
          refine ih (a + 1) A' (by omega) h1 (fun k k' g1 g2 => ?_)
          rcases Nat.lt_or_ge k a with z | z
          · exact h2 k k' z g2
          · rw [show k = a by omega]; exact h3 k' (by omega)
        | succ e ihe =>
          intro b A' he h1 h2 h3
          have ei : nI a * 15 + nI b = nI (15 * a + b) := by rw [show (15 : Int32) = nI 15 from rfl, pk_mul, nI_add, Nat.mul_comm]
          refine sg_R_linkKeys_10 hG ad F A' (nI a) (nI b) ⟨fun c => absurd (nge (by decide) (by omega) (show nI 15 ≤ nI b from c)) (by omega), fun _ => ?_⟩
          rw [ei, nI_clamp (by omega), sx_turn a (by omega) b (by omega), sx_absd b (by omega) a (by omega), e7, show nI b + 1 = nI (b + 1) from nI_1 b]
          have nx : ∀ x : Int32, x = nI (64 * (S 6 4 * sc_kd a b)) → G 10 [(0, .ref (ad 3)), (1, .int (nI a)), (2, .int (nI (b + 1)))] [] (wX cI ad F (q_ua A' 21 (upd (A' 21) (15 * a + b) x))) 0 0 := by
            intro x hx
            refine ihe (b + 1) _ (by omega) (fun k hk => by rw [q_ua_ne hk]; exact h1 k hk) (fun k k' g1 g2 => ?_) (fun k' g => ?_)
            · show upd (A' 21) (15 * a + b) x (15 * k + k') = _
              rw [pk_un (by omega)]; exact h2 k k' g1 g2
            · show upd (A' 21) (15 * a + b) x (15 * a + k') = _
              rcases Nat.lt_or_ge k' b with z | z
              · rw [pk_un (by omega)]; exact h3 k' z
              · rw [show k' = b by omega, upd_s]; exact hx
          have hin : vp_in (nI (15 * a + b)) 225 := vp_in_nI (by omega) (by decide)
          refine ⟨fun c => ⟨hin, nx _ ?_⟩, fun c => ⟨hin, nx _ ?_⟩⟩
          · have hne : ¬ sc_dist a b = 12 := fun q => by rw [if_pos q] at c; exact absurd c (by decide)
            unfold sc_kd
            rw [if_neg hne, show (64 : Int32) = nI 64 from rfl, pk_mul, pk_mul, sc_dist_comm, Nat.mul_assoc]
          · have he2 : sc_dist a b = 12 := Decidable.byContradiction (fun q => c (by rw [if_neg q]))
            unfold sc_kd
            rw [if_pos he2, show (64 : Int32) = nI 64 from rfl, show (1 : Int32) = nI 1 from rfl, pk_mul, pk_mul, Nat.mul_assoc]
      exact inner 15 0 A' rfl h1 h2 (fun k' hk => absurd hk (Nat.not_lt_zero k'))
  exact outer 15 0 A rfl (fun k _ => rfl) (fun k k' hk => absurd hk (Nat.not_lt_zero k))
/-- what a place pays between two MOMENTS, by the options -/
def xst (S : sc_S) (m p d e : Nat) : Nat := if p < min (S 4 m) (S 4 (m + 1)) then S 6 3 * sc_bad (opn S (S 3 m + p) d) (S 0 (S 3 m + p)) (opn S (S 3 (m + 1) + p) e) (S 0 (S 3 (m + 1) + p)) else 0
def xStp (S : sc_S) (m : Nat) (f : Nat → Int32) : Prop := ∀ p d e, p < 3 → d < 3 → e < 3 → f (9 * p + 3 * d + e) = nI (64 * xst S m p d e)
theorem x_min {a b : Nat} (ha : a < 2 ^ 31) (hb : b < 2 ^ 31) : jf_J_min (nI a) (nI b) = nI (min a b) := by
  unfold jf_J_min
  by_cases h : b < a
  · rw [if_pos (nI_lt h ha), Nat.min_eq_right (by omega)]
  · rw [if_neg (fun q => h (nlt' hb ha q)), Nat.min_eq_left (by omega)]
theorem x_max {a b : Nat} (ha : a < 2 ^ 31) (hb : b < 2 ^ 31) : jf_J_max (nI a) (nI b) = nI (max a b) := by
  unfold jf_J_max
  by_cases h : a < b
  · rw [if_pos (nI_lt h hb), Nat.max_eq_right (by omega)]
  · rw [if_neg (fun q => h (nlt' ha hb q)), Nat.max_eq_left (by omega)]
theorem x_linkSteps (ad : Nat → Nat) (F : Nat → Int32) (A : Nat → Nat → Int32) {S : sc_S} (hw : sc_wf S) (hR : xR S F A) {m : Nat} (hm : m + 1 < S 7 1) (hK : ∀ f : Nat → Int32, xStp S m f → K none (wX cI ad F (q_ua A 22 f))) : T_R_linkSteps cI tv [.ref (ad 3), .int (nI m)] (wX cI ad F A) K := by
  refine ⟨q_le0 _ _ rfl, fun G hG => ?_⟩
  have hM := wf_M hw
  have w := hw.2.2.1 m (by omega)
  have w1 := hw.2.2.1 (m + 1) hm
  have r := hR.2.2.2.2 m (by omega)
  have r1 := hR.2.2.2.2 (m + 1) hm
  have n18 := hw.1
  have e6 : F 6 = nI (S 6 3) := hR.2.2.1 3 (by decide)
  refine sg_R_linkSteps_0 hG ad F A (nI m) ?_
  rw [show nI m + 1 = nI (m + 1) from nI_1 m, nI_clamp (show m < 2 ^ 31 by omega), nI_clamp (show m + 1 < 2 ^ 31 by omega), r.1, r1.1, r.2.1, r1.2.1, x_min (by omega) (by omega)]
  refine ⟨vp_in_nI (by omega) (by decide), vp_in_nI (by omega) (by decide), vp_in_nI (by omega) (by decide), vp_in_nI (by omega) (by decide), ?_⟩
  have outer : ∀ (d p : Nat) (f : Nat → Int32), p + d = 3 → (∀ q a b, q < p → a < 3 → b < 3 → f (9 * q + 3 * a + b) = nI (64 * xst S m q a b)) → G 50 [(0, .ref (ad 3)), (2, .int (nI (S 3 m))), (3, .int (nI (S 3 (m + 1)))), (4, .int (nI (min (S 4 m) (S 4 (m + 1))))), (5, .int (nI p))] [] (wX cI ad F (q_ua A 22 f)) 0 0 := by
    intro d
    induction d with
    | zero =>
      intro p f hd hf
      exact sg_R_linkSteps_50 hG ad F _ _ _ _ (nI p) ⟨fun _ => hK f (fun q a b h1 h2 h3 => hf q a b (by omega) h2 h3), fun c => absurd (show nI 3 ≤ nI p from nI_le (by omega) (by omega)) c⟩
    | succ d ih =>
      intro p f hd hf
      refine sg_R_linkSteps_50 hG ad F _ _ _ _ (nI p) ⟨fun c => absurd (nge (by decide) (by omega) (show nI 3 ≤ nI p from c)) (by omega), fun _ => ?_⟩
      have inner : ∀ (e x : Nat) (f : Nat → Int32), x + e = 9 → (∀ q a b, q < p → a < 3 → b < 3 → f (9 * q + 3 * a + b) = nI (64 * xst S m q a b)) → (∀ a b, a < 3 → b < 3 → 3 * a + b < x → f (9 * p + 3 * a + b) = nI (64 * xst S m p a b)) → G 59 [(0, .ref (ad 3)), (2, .int (nI (S 3 m))), (3, .int (nI (S 3 (m + 1)))), (4, .int (nI (min (S 4 m) (S 4 (m + 1))))), (5, .int (nI p)), (6, .int (nI x))] [] (wX cI ad F (q_ua A 22 f)) 0 0 := by
        intro e
        induction e with
        | zero =>
          intro x f he h1 h2
          refine sg_R_linkSteps_59 hG ad F _ _ _ _ (nI p) (nI x) ⟨fun _ => ?_, fun c => absurd (show nI 9 ≤ nI x from nI_le (by omega) (by omega)) c⟩
          rw [show nI p + 1 = nI (p + 1) from nI_1 p]
          refine ih (p + 1) f (by omega) (fun q a b g1 g2 g3 => ?_)
          rcases Nat.lt_or_ge q p with z | z
          · exact h1 q a b z g2 g3
          · rw [show q = p by omega]; exact h2 a b g2 g3 (by omega)
        | succ e ihe =>
          intro x f he h1 h2
          have ei : nI p * 3 * 3 + nI x = nI (9 * p + x) := by
            rw [show (3 : Int32) = nI 3 from rfl, pk_mul, pk_mul, nI_add, show p * 3 * 3 = 9 * p by omega]
          have hin : vp_in (nI (9 * p + x)) 27 := vp_in_nI (by omega) (by decide)
          have nx : ∀ y : Int32, y = nI (64 * xst S m p (x / 3) (x % 3)) → G 59 [(0, .ref (ad 3)), (2, .int (nI (S 3 m))), (3, .int (nI (S 3 (m + 1)))), (4, .int (nI (min (S 4 m) (S 4 (m + 1))))), (5, .int (nI p)), (6, .int (nI x + 1))] [] (wX cI ad F (q_ua (q_ua A 22 f) 22 (upd f (9 * p + x) y))) 0 0 := by
            intro y hy
            rw [show nI x + 1 = nI (x + 1) from nI_1 x, q_ua_ua]
            refine ihe (x + 1) _ (by omega) (fun q a b g1 g2 g3 => ?_) (fun a b g2 g3 g4 => ?_)
            · rw [pk_un (by omega)]; exact h1 q a b g1 g2 g3
            · rcases Nat.lt_or_ge (3 * a + b) x with z | z
              · rw [pk_un (by omega)]; exact h2 a b g2 g3 z
              · rw [show 9 * p + 3 * a + b = 9 * p + x by omega, upd_s, hy, show x / 3 = a by omega, show x % 3 = b by omega]
          refine sg_R_linkSteps_59 hG ad F _ _ _ _ (nI p) (nI x) ⟨fun c => absurd (nge (by decide) (by omega) (show nI 9 ≤ nI x from c)) (by omega), fun _ => ⟨fun c => ?_, fun c => ?_⟩⟩
          · have hle := nge (by omega) (by omega) c
            refine sg_R_linkSteps_100 hG ad F _ _ _ _ (nI p) (nI x) ⟨fun _ => ?_, fun c2 => absurd rfl c2⟩
            rw [ei, nI_clamp (by omega)]
            refine ⟨hin, nx 0 ?_⟩
            unfold xst
            rw [if_neg (by omega)]
            rfl
          · have hlt := nng (by omega) (by omega) c
            have d3 : nI x / 3 = nI (x / 3) := pk_div (d := 3) (by omega) (by decide) (by decide)
            have r3 : nI x - nI x / 3 * 3 = nI (x % 3) := pk_rem (d := 3) (by omega) (by decide) (by decide)
            rw [r3, d3, nI_add, nI_add]
            refine x_isBadStep ad F _ hw (xR_of hR (fun j _ => rfl) (fun k h4 h11 => q_ua_ne (by omega))) (by omega) (by omega) (by omega) (by omega) ?_
            have hb := sc_bad_le (opn S (S 3 m + p) (x / 3)) (S 0 (S 3 m + p)) (opn S (S 3 (m + 1) + p) (x % 3)) (S 0 (S 3 (m + 1) + p))
            refine sg_R_linkSteps_93 hG ad F _ _ _ _ (nI p) (nI x) _ ⟨fun c2 => ?_, fun c2 => ⟨fun c3 => absurd c3 (by decide), fun _ => ?_⟩⟩
            · have hz := neq (by omega) (by decide) (show nI _ = nI 0 from c2)
              refine sg_R_linkSteps_100 hG ad F _ _ _ _ (nI p) (nI x) ⟨fun _ => ?_, fun c4 => absurd rfl c4⟩
              rw [ei, nI_clamp (by omega)]
              refine ⟨hin, nx 0 ?_⟩
              unfold xst
              rw [if_pos hlt, hz, Nat.mul_zero]
              rfl
            · have hz := nne (by omega) (by decide) (show ¬ nI _ = nI 0 from c2)
              rw [ei, nI_clamp (by omega)]
              refine ⟨hin, nx (64 * F 6) ?_⟩
              unfold xst
              rw [if_pos hlt, show sc_bad (opn S (S 3 m + p) (x / 3)) (S 0 (S 3 m + p)) (opn S (S 3 (m + 1) + p) (x % 3)) (S 0 (S 3 (m + 1) + p)) = 1 by omega, Nat.mul_one, e6, show (64 : Int32) = nI 64 from rfl, pk_mul]
      exact inner 9 0 f rfl hf (fun a b _ _ h => absurd h (Nat.not_lt_zero _))
  have h := outer 3 0 (A 22) rfl (fun q a b hq => absurd hq (Nat.not_lt_zero q))
  rw [q_ua_self] at h
  exact h
theorem x_lookAtTheEnd (ad : Nat → Nat) (F : Nat → Int32) (A : Nat → Nat → Int32) (hK : ∀ A' : Nat → Nat → Int32, (∀ k, k ≠ 17 → k ≠ 18 → A' k = A k) → (∀ k, k < 15 → A' 17 k = nI 0 ∧ A' 18 k = nI 1) → K none (wX cI ad (q_uf F 11 1) A')) : T_R_lookAtTheEnd cI tv [.ref (ad 3)] (wX cI ad F A) K := by
  refine ⟨q_le0 _ _ rfl, fun G hG => ?_⟩
  refine sg_R_lookAtTheEnd_0 hG ad F A ?_
  have loop : ∀ (d k : Nat) (A' : Nat → Nat → Int32), k + d = 15 → (∀ j, j ≠ 17 → j ≠ 18 → A' j = A j) → (∀ j, j < k → A' 17 j = nI 0 ∧ A' 18 j = nI 1) → G 7 [(0, .ref (ad 3)), (1, .int (nI k))] [] (wX cI ad (q_uf F 11 1) A') 0 0 := by
    intro d
    induction d with
    | zero =>
      intro k A' hd h1 h2
      exact sg_R_lookAtTheEnd_7 hG ad _ A' (nI k) ⟨fun _ => hK A' h1 (fun j hj => h2 j (by omega)), fun c => absurd (show nI 15 ≤ nI k from nI_le (by omega) (by omega)) c⟩
    | succ d ih =>
      intro k A' hd h1 h2
      have hin : vp_in (nI k) 405 := vp_in_nI (by omega) (by decide)
      refine sg_R_lookAtTheEnd_7 hG ad _ A' (nI k) ⟨fun c => absurd (nge (by decide) (by omega) (show nI 15 ≤ nI k from c)) (by omega), fun _ => ⟨hin, hin, ?_⟩⟩
      refine sg_R_lookAtTheEnd_27 hG ad _ _ (nI k) ?_
      rw [nI_clamp (by omega), show nI k + 1 = nI (k + 1) from nI_1 k]
      refine ih (k + 1) _ (by omega) (fun j g1 g2 => by rw [q_ua_ne g2, q_ua_ne g1]; exact h1 j g1 g2) (fun j hj => ?_)
      show upd (A' 17) k 0 j = _ ∧ upd (A' 18) k 1 j = _
      rcases Nat.lt_or_ge j k with z | z
      · rw [pk_un (by omega), pk_un (by omega)]; exact h2 j z
      · rw [show j = k by omega, upd_s, upd_s]; exact ⟨rfl, rfl⟩
  exact loop 15 0 A rfl (fun j _ _ => rfl) (fun j hj => absurd hj (Nat.not_lt_zero j))
end XL
