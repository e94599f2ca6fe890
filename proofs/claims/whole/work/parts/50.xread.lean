/-! the class: reading off the first of the best -/
noncomputable def xB (S : sc_S) (m t : Nat) : Nat := match cV S (S 7 1 - 1 - m) m t with
  | some x => x.1
  | none => 0
def xVal (S : sc_S) (m : Nat) (f : Nat → Int32) : Prop := ∀ t, t < xN S m → (xal S m t → f (xo S m + t) = nI (xB S m t) ∧ xB S m t ≤ 6000000) ∧ (¬ xal S m t → f (xo S m + t) = nI 268435456)
theorem s3_mono {S : sc_S} (hw : sc_wf S) : ∀ e k, k + e < S 7 1 → 0 < e → S 3 k + S 4 k ≤ S 3 (k + e) := by
  intro e
  induction e with
  | zero => intro k _ h; omega
  | succ e ihe =>
    intro k hk _
    have a2 := (hw.2.2.1 (k + e) (by omega)).2.2.2.2.1 (by omega)
    rw [show k + (e + 1) = k + e + 1 by omega, a2]
    rcases Nat.eq_zero_or_pos e with z | z
    · rw [z]; exact Nat.le_refl _
    · have := ihe k (by omega) z
      omega
theorem xlk_le {S : sc_S} (hw : sc_wf S) {m s t : Nat} (hm : m + 1 < S 7 1) (hs : s < xN S m) (ht : t < xN S (m + 1)) : xlk S m s t ≤ 340 := by
  have w := hw.2.2.1 m (by omega)
  have w64 := hw.2.2.2.2.2 4 (by decide)
  have k1 : s / p3 (S 4 m) < 15 := Nat.div_lt_of_lt_mul (by unfold xN at hs; rw [Nat.mul_comm]; exact hs)
  have k2 : t / p3 (S 4 (m + 1)) < 15 := Nat.div_lt_of_lt_mul (by unfold xN at ht; rw [Nat.mul_comm]; exact ht)
  have h1 := Nat.mul_le_mul w64 (kd_le k1 k2)
  have h2 : sc_sum (min (S 4 m) (S 4 (m + 1))) (fun j => xst S m j (xdg (S 4 m) s j) (xdg (S 4 (m + 1)) t j)) ≤ min (S 4 m) (S 4 (m + 1)) * 20 := sc_sum_le (fun j _ => xst_le hw m j _ _)
  unfold xlk
  omega
section XR
variable {cI : ClassId} {tv : Nat} {K : q_K}
theorem x_valueBetween (ad : Nat → Nat) (F : Nat → Int32) (A : Nat → Nat → Int32) {S : sc_S} (hw : sc_wf S) (hR : xR S F A) {m s t : Nat} (hm : m + 1 < S 7 1) (hs : s < xN S m) (ht : t < xN S (m + 1)) (h21 : ∀ k k', k < 15 → k' < 15 → A 21 (15 * k + k') = nI (64 * (S 6 4 * sc_kd k k'))) (h22 : xStp S m (A 22)) (hK : K (some (.int (nI (64 * xlk S m s t)))) (wX cI ad F A)) : T_R_valueBetween cI tv [.ref (ad 3), .int (nI (m + 1)), .int (nI s), .int (nI t)] (wX cI ad F A) K := by
  refine ⟨q_le0 _ _ rfl, fun G hG => ?_⟩
  have hM := wf_M hw
  have w := hw.2.2.1 m (by omega)
  have w1 := hw.2.2.1 (m + 1) hm
  have r := hR.2.2.2.2 m (by omega)
  have r1 := hR.2.2.2.2 (m + 1) hm
  have p := p3_pos (S 4 m)
  have p1 := p3_pos (S 4 (m + 1))
  have k1 : s / p3 (S 4 m) < 15 := Nat.div_lt_of_lt_mul (by unfold xN at hs; rw [Nat.mul_comm]; exact hs)
  have k2 : t / p3 (S 4 (m + 1)) < 15 := Nat.div_lt_of_lt_mul (by unfold xN at ht; rw [Nat.mul_comm]; exact ht)
  have hs4 : s < 405 := by unfold xN at hs; omega
  have ht4 : t < 405 := by unfold xN at ht; omega
  refine sg_R_valueBetween_0 hG ad F A (nI (m + 1)) (nI s) (nI t) ?_
  rw [nI_pred m, nI_clamp (show m < 2 ^ 31 by omega), nI_clamp (show m + 1 < 2 ^ 31 by omega), r.2.1, r1.2.1, nI_clamp (show S 4 m < 2 ^ 31 by omega), nI_clamp (show S 4 (m + 1) < 2 ^ 31 by omega), pk4_p3, pk4_p3, pk_div (by omega) (by omega) (by omega), pk_div (by omega) (by omega) (by omega), show (15 : Int32) = nI 15 from rfl, pk_mul, nI_add, Nat.mul_comm _ 15, nI_clamp (show 15 * (s / p3 (S 4 m)) + t / p3 (S 4 (m + 1)) < 2 ^ 31 by omega), h21 _ _ k1 k2]
  refine ⟨vp_in_nI (by omega) (by decide), vp_in_nI (by omega) (by decide), vp_in_nI (by omega) (by decide), nI_ne0 (by omega) (by omega), vp_in_nI (by omega) (by decide), nI_ne0 (by omega) (by omega), vp_in_nI (by omega) (by decide), ?_⟩
  refine sg_R_valueBetween_59 hG ad F A _ _ _ _ _ ?_
  have loop : ∀ (d j : Nat), j + d = min (S 4 m) (S 4 (m + 1)) → G 62 [(0, .ref (ad 3)), (2, .int (nI s)), (3, .int (nI t)), (4, .int (nI (S 4 m))), (5, .int (nI (S 4 (m + 1)))), (8, .int (nI (64 * (S 6 4 * sc_kd (s / p3 (S 4 m)) (t / p3 (S 4 (m + 1))) + sc_sum j (fun j => xst S m j (xdg (S 4 m) s j) (xdg (S 4 (m + 1)) t j)))))), (9, .int (nI j))] [] (wX cI ad F A) 0 0 := by
    intro d
    induction d with
    | zero =>
      intro j hd
      have e : j = min (S 4 m) (S 4 (m + 1)) := by omega
      subst e
      refine sg_R_valueBetween_62 hG ad F A _ _ _ _ _ _ ⟨fun _ => hK, fun c => ?_⟩
      rw [x_min (by omega) (by omega)] at c
      exact absurd (nI_le (Nat.le_refl _) (by omega)) c
    | succ d ih =>
      intro j hd
      have d1 := xdg_lt (S 4 m) s j
      have d2 := xdg_lt (S 4 (m + 1)) t j
      refine sg_R_valueBetween_62 hG ad F A _ _ _ _ _ _ ⟨fun c => ?_, fun _ => ?_⟩
      · rw [x_min (by omega) (by omega)] at c
        have := nge (by omega) (by omega) c
        omega
      · refine x_digit (by omega) w.2.1 (by omega) ?_
        refine sg_R_valueBetween_82 hG ad F A _ _ _ _ _ _ _ ?_
        refine x_digit (by omega) w1.2.1 (by omega) ?_
        refine sg_R_valueBetween_92 hG ad F A _ _ _ _ _ _ _ _ ?_
        have ei : nI j * 3 * 3 + (nI (xdg (S 4 m) s j) * 3 + nI (xdg (S 4 (m + 1)) t j)) = nI (9 * j + 3 * xdg (S 4 m) s j + xdg (S 4 (m + 1)) t j) := by
          rw [show (3 : Int32) = nI 3 from rfl, pk_mul, pk_mul, pk_mul, nI_add, nI_add]
          congr 1
          omega
        rw [ei, nI_clamp (show 9 * j + 3 * xdg (S 4 m) s j + xdg (S 4 (m + 1)) t j < 2 ^ 31 by omega), h22 j _ _ (by omega) d1 d2, nI_add, show nI j + 1 = nI (j + 1) from nI_1 j]
        refine ⟨vp_in_nI (by omega) (by decide), ?_⟩
        have h := ih (j + 1) (by omega)
        rw [show sc_sum (j + 1) (fun j => xst S m j (xdg (S 4 m) s j) (xdg (S 4 (m + 1)) t j)) = sc_sum j (fun j => xst S m j (xdg (S 4 m) s j) (xdg (S 4 (m + 1)) t j)) + xst S m j (xdg (S 4 m) s j) (xdg (S 4 (m + 1)) t j) from rfl, ← Nat.add_assoc, Nat.mul_add] at h
        exact h
  exact loop (min (S 4 m) (S 4 (m + 1))) 0 (by omega)
def xBst (S : sc_S) (M : Nat) (lb : Nat → Nat) (b q : Nat) : Prop := q < b ∧ xal S M q ∧ ∀ t, t < b → xal S M t → lb q + xB S M q ≤ lb t + xB S M t ∧ (lb t + xB S M t = lb q + xB S M q → q ≤ t)
theorem x_firstOfBest (ad : Nat → Nat) (F : Nat → Int32) (A : Nat → Nat → Int32) {S : sc_S} (hw : sc_wf S) (hR : xR S F A) {M before : Nat} {lb : Nat → Nat} (hm : M < S 7 1) (h15 : A 15 M = nI (xo S M)) (hv : xVal S M (A 14)) (hlb : ∀ t, lb t ≤ 30000) (h0 : M = 0 → ∀ t, lb t = 0) (hK2 : ∀ m t, M = m + 1 → t < xN S M → ∀ K' : q_K, K' (some (.int (nI (lb t)))) (wX cI ad F A) → T_R_valueBetween cI tv [.ref (ad 3), .int (nI M), .int (nI before), .int (nI t)] (wX cI ad F A) K') (hK : ∀ q, xBst S M lb (xN S M) q → K (some (.int (nI q))) (wX cI ad F A)) : T_R_firstOfBest cI tv [.ref (ad 3), .int (nI M), .int (nI before)] (wX cI ad F A) K := by
  refine ⟨q_le0 _ _ rfl, fun G hG => ?_⟩
  have hM := wf_M hw
  have w := hw.2.2.1 M hm
  have p := p3_pos (S 4 M)
  have hxo := xo_lt hw hm
  have hin : vp_in (nI M) 18 := vp_in_nI (by omega) (by decide)
  refine sg_R_firstOfBest_0 hG ad F A _ _ ?_
  refine x_picksAt ad F A hw hR hm ?_
  refine sg_R_firstOfBest_7 hG ad F A _ _ _ _ ?_
  rw [show (15 : Int32) = nI 15 from rfl, pk_mul]
  have loop : ∀ (d i best bs : Nat), i + d = xN S M → ((best = 268435456 ∧ ∀ t, t < i → ¬ xal S M t) ∨ (xBst S M lb i bs ∧ best = lb bs + xB S M bs ∧ best ≤ 6100000)) → G 19 [(0, .ref (ad 3)), (1, .int (nI M)), (2, .int (nI before)), (3, .int (nI (xN S M))), (4, .int (nI best)), (5, .int (nI bs)), (6, .int (nI i))] [] (wX cI ad F A) 0 0 := by
    intro d
    induction d with
    | zero =>
      intro i best bs hd hI
      have e : i = xN S M := by omega
      subst e
      refine sg_R_firstOfBest_19 hG ad F A _ _ _ _ _ _ ⟨fun _ => ?_, fun c => absurd (nI_le (Nat.le_refl _) (by unfold xN; omega)) c⟩
      rcases hI with ⟨-, z⟩ | ⟨z, -⟩
      · obtain ⟨t, t1, t2⟩ := xal_ex hw hm
        exact absurd t2 (z t t1)
      · exact hK bs z
    | succ d ih =>
      intro i best bs hd hI
      have hi : i < xN S M := by omega
      have hi4 : i < 15 * p3 (S 4 M) := hi
      have hxN : xN S M ≤ 405 := by unfold xN; omega
      have hbest : best ≤ 268435456 := by rcases hI with ⟨z, -⟩ | ⟨-, -, z⟩ <;> omega
      refine sg_R_firstOfBest_19 hG ad F A _ _ _ _ _ _ ⟨fun c => absurd (nge (by omega) (by omega) c) (by omega), fun _ => ⟨hin, ?_⟩⟩
      rw [nI_clamp (show M < 2 ^ 31 by omega), h15, nI_add, nI_clamp (show xo S M + i < 2 ^ 31 by omega)]
      refine ⟨vp_in_nI (by omega) (by decide), ?_⟩
      obtain ⟨v1, v2⟩ := hv i hi
      have fin : ∀ best' bs', ((best' = 268435456 ∧ ∀ t, t < i + 1 → ¬ xal S M t) ∨ (xBst S M lb (i + 1) bs' ∧ best' = lb bs' + xB S M bs' ∧ best' ≤ 6100000)) → G 80 [(0, .ref (ad 3)), (1, .int (nI M)), (2, .int (nI before)), (3, .int (nI (xN S M))), (4, .int (nI best')), (5, .int (nI bs')), (6, .int (nI i))] [] (wX cI ad F A) 0 0 := by
        intro best' bs' h
        refine sg_R_firstOfBest_80 hG ad F A _ _ _ _ _ _ ?_
        rw [show nI i + 1 = nI (i + 1) from nI_1 i]
        exact ih (i + 1) best' bs' (by omega) h
      by_cases hok : xal S M i
      · obtain ⟨e1, e2⟩ := v1 hok
        rw [e1]
        have hlbi := hlb i
        have cmp : G 65 [(0, .ref (ad 3)), (1, .int (nI M)), (2, .int (nI before)), (3, .int (nI (xN S M))), (4, .int (nI best)), (5, .int (nI bs)), (6, .int (nI i)), (7, .int (nI (lb i + xB S M i)))] [] (wX cI ad F A) 0 0 := by
          refine sg_R_firstOfBest_65 hG ad F A _ _ _ _ _ _ _ ⟨fun c => ?_, fun c => ?_⟩
          · have hle := nge (by omega) (by omega) c
            refine fin best bs (Or.inr ?_)
            rcases hI with ⟨z, -⟩ | ⟨⟨g1, g2, g3⟩, g4, g5⟩
            · omega
            · refine ⟨⟨by omega, g2, fun t ht hal => ?_⟩, g4, g5⟩
              rcases Nat.lt_or_ge t i with z | z
              · exact g3 t z hal
              · rw [show t = i by omega]; exact ⟨by omega, fun _ => by omega⟩
          · have hlt := nng (by omega) (by omega) c
            refine fin _ i (Or.inr ⟨⟨by omega, hok, fun t ht hal => ?_⟩, rfl, by omega⟩)
            rcases Nat.lt_or_ge t i with z | z
            · rcases hI with ⟨-, y⟩ | ⟨⟨g1, g2, g3⟩, g4, g5⟩
              · exact absurd hal (y t z)
              · have := (g3 t z hal).1
                exact ⟨by omega, fun q => by omega⟩
            · rw [show t = i by omega]; exact ⟨Nat.le_refl _, fun _ => Nat.le_refl _⟩
        refine ⟨fun c => absurd (nge (by decide) (by omega) (show nI 268435456 ≤ nI _ from c)) (by omega), fun _ => ⟨fun c => ?_, fun c => ?_⟩⟩
        · have hz : M = 0 := by
            have := nge (by omega) (by decide) (show nI M ≤ nI 0 from c)
            omega
          rw [h0 hz i, Nat.zero_add] at cmp
          exact cmp
        · have hpos : 0 < M := by
            have := nng (by omega) (by decide) (show ¬ nI M ≤ nI 0 from c)
            omega
          refine hK2 (M - 1) i (by omega) hi _ ?_
          refine sg_R_firstOfBest_62 hG ad F A _ _ _ _ _ _ _ _ _ ?_
          rw [nI_add, Nat.add_comm]
          exact cmp
      · rw [v2 hok]
        refine ⟨fun _ => ?_, fun c => absurd (nI_le (Nat.le_refl 268435456) (by decide)) c⟩
        refine sg_R_firstOfBest_65 hG ad F A _ _ _ _ _ _ _ ⟨fun _ => fin best bs ?_, fun c => absurd (nI_le hbest (by decide)) c⟩
        rcases hI with ⟨z, y⟩ | ⟨⟨g1, g2, g3⟩, g4, g5⟩
        · refine Or.inl ⟨z, fun t ht hal => ?_⟩
          rcases Nat.lt_or_ge t i with x | x
          · exact y t x hal
          · rw [show t = i by omega] at hal; exact hok hal
        · refine Or.inr ⟨⟨by omega, g2, fun t ht hal => ?_⟩, g4, g5⟩
          rcases Nat.lt_or_ge t i with x | x
          · exact g3 t x hal
          · rw [show t = i by omega] at hal; exact absurd hal hok
  exact loop (xN S M) 0 268435456 0 (by omega) (Or.inl ⟨rfl, fun t ht => absurd ht (Nat.not_lt_zero t)⟩)
theorem x_keep (ad : Nat → Nat) (F : Nat → Int32) (A : Nat → Nat → Int32) {S : sc_S} (hw : sc_wf S) (hR : xR S F A) {m s : Nat} (hm : m < S 7 1) (hs : s < xN S m) (hK : ∀ A' : Nat → Nat → Int32, (∀ k, k ≠ 12 → k ≠ 13 → A' k = A k) → (∀ i, A' 13 i = if i = m then nI (s / p3 (S 4 m)) else A 13 i) → (∀ i, i < S 3 m ∨ S 3 m + S 4 m ≤ i → A' 12 i = A 12 i) → (∀ j, j < S 4 m → A' 12 (S 3 m + j) = nI (opn S (S 3 m + j) (xdg (S 4 m) s j))) → K none (wX cI ad F A')) : T_R_keep cI tv [.ref (ad 3), .int (nI m), .int (nI s)] (wX cI ad F A) K := by
  refine ⟨q_le0 _ _ rfl, fun G hG => ?_⟩
  have hM := wf_M hw
  have w := hw.2.2.1 m hm
  have n18 := hw.1
  have r := hR.2.2.2.2 m hm
  have p := p3_pos (S 4 m)
  have hin : vp_in (nI m) 18 := vp_in_nI (by omega) (by decide)
  have hs4 : s < 405 := by unfold xN at hs; omega
  refine sg_R_keep_0 hG ad F A _ _ ?_
  rw [nI_clamp (show m < 2 ^ 31 by omega), r.1, r.2.1, nI_clamp (show S 4 m < 2 ^ 31 by omega), pk4_p3, pk_div (by omega) (by omega) (by omega)]
  refine ⟨hin, hin, vp_in_nI (by omega) (by decide), nI_ne0 (by omega) (by omega), hin, ?_⟩
  have loop : ∀ (d j : Nat) (A' : Nat → Nat → Int32), j + d = S 4 m → (∀ k, k ≠ 12 → k ≠ 13 → A' k = A k) → (∀ i, A' 13 i = if i = m then nI (s / p3 (S 4 m)) else A 13 i) → (∀ i, i < S 3 m ∨ S 3 m + S 4 m ≤ i → A' 12 i = A 12 i) → (∀ t, t < j → A' 12 (S 3 m + t) = nI (opn S (S 3 m + t) (xdg (S 4 m) s t))) → G 37 [(0, .ref (ad 3)), (2, .int (nI s)), (3, .int (nI (S 4 m))), (4, .int (nI (S 3 m))), (5, .int (nI j))] [] (wX cI ad F A') 0 0 := by
    intro d
    induction d with
    | zero =>
      intro j A' hd h1 h2 h3 h4
      have e : j = S 4 m := by omega
      subst e
      exact sg_R_keep_37 hG ad F A' _ _ _ _ ⟨fun _ => hK A' h1 h2 h3 h4, fun c => absurd (nI_le (Nat.le_refl _) (by omega)) c⟩
    | succ d ih =>
      intro j A' hd h1 h2 h3 h4
      have hdg := xdg_lt (S 4 m) s j
      have hi : S 3 m + j < S 7 0 := by omega
      refine sg_R_keep_37 hG ad F A' _ _ _ _ ⟨fun c => absurd (nge (by omega) (by omega) c) (by omega), fun _ => ?_⟩
      refine x_digit (by omega) w.2.1 (by omega) ?_
      refine sg_R_keep_50 hG ad F A' _ _ _ _ _ ?_
      have ei : (nI (S 3 m) + nI j) * 3 + nI (xdg (S 4 m) s j) = nI (3 * (S 3 m + j) + xdg (S 4 m) s j) := by
        rw [nI_add, show (3 : Int32) = nI 3 from rfl, pk_mul, nI_add, Nat.mul_comm]
      have ev : A' 10 (3 * (S 3 m + j) + xdg (S 4 m) s j) = nI (opn S (S 3 m + j) (xdg (S 4 m) s j)) := by
        rw [h1 10 (by decide) (by decide)]
        exact ((hR.2.2.2.1 _ hi).2.2.2 _ hdg).1
      rw [ei, nI_clamp (show 3 * (S 3 m + j) + xdg (S 4 m) s j < 2 ^ 31 by omega), nI_add, nI_clamp (show S 3 m + j < 2 ^ 31 by omega), ev, show nI j + 1 = nI (j + 1) from nI_1 j]
      refine ⟨vp_in_nI (by omega) (by decide), vp_in_nI (by omega) (by decide), ?_⟩
      refine ih (j + 1) _ (by omega) (fun k g1 g2 => by rw [q_ua_ne g1]; exact h1 k g1 g2) h2 (fun i g => ?_) (fun t ht => ?_)
      · show upd (A' 12) (S 3 m + j) _ i = _
        rw [pk_un (by omega)]; exact h3 i g
      · show upd (A' 12) (S 3 m + j) _ (S 3 m + t) = _
        rcases Nat.lt_or_ge t j with z | z
        · rw [pk_un (by omega)]; exact h4 t z
        · rw [show t = j by omega, upd_s]
  refine loop (S 4 m) 0 _ (by omega) (fun k g1 g2 => q_ua_ne g2) (fun i => ?_) (fun i _ => rfl) (fun t ht => absurd ht (Nat.not_lt_zero t))
  show upd (A 13) m _ i = _
  by_cases e : i = m
  · rw [if_pos e, e, upd_s]
  · rw [if_neg e, pk_un e]
end XR
