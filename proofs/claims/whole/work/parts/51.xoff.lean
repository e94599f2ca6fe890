/-! the class: all MOMENTS are read off; CHOICES are counted -/
def xGood (S : sc_S) (p : Nat → Nat) (n : Nat) : Prop := (0 < n → p 0 < xN S 0 ∧ xal S 0 (p 0) ∧ ∀ s, s < xN S 0 → xal S 0 s → xB S 0 (p 0) ≤ xB S 0 s ∧ (xB S 0 s = xB S 0 (p 0) → p 0 ≤ s)) ∧ ∀ m, m + 1 < n → p (m + 1) < xN S (m + 1) ∧ xal S (m + 1) (p (m + 1)) ∧ ∀ t, t < xN S (m + 1) → xal S (m + 1) t → xlv S m (p m) (p (m + 1)) + xB S (m + 1) (p (m + 1)) ≤ xlv S m (p m) t + xB S (m + 1) t ∧ (xlv S m (p m) t + xB S (m + 1) t = xlv S m (p m) (p (m + 1)) + xB S (m + 1) (p (m + 1)) → p (m + 1) ≤ t)
theorem xGood_lt {S : sc_S} {p : Nat → Nat} {n m : Nat} (h : xGood S p n) (hm : m < n) : p m < xN S m ∧ xal S m (p m) := by
  cases m with
  | zero => exact ⟨(h.1 hm).1, (h.1 hm).2.1⟩
  | succ m => exact ⟨(h.2 m hm).1, (h.2 m hm).2.1⟩
def xKept (S : sc_S) (p : Nat → Nat) (n : Nat) (A : Nat → Nat → Int32) : Prop := ∀ i, i < n → A 13 i = nI (p i / p3 (S 4 i)) ∧ ∀ j, j < S 4 i → A 12 (S 3 i + j) = nI (opn S (S 3 i + j) (xdg (S 4 i) (p i) j))
section XO
variable {cI : ClassId} {tv : Nat} {K : q_K}
theorem x_readOff (ad : Nat → Nat) (F : Nat → Int32) (A : Nat → Nat → Int32) {S : sc_S} (hw : sc_wf S) (hR : xR S F A) (h15 : ∀ m, m < S 7 1 → A 15 m = nI (xo S m)) (h21 : ∀ k k', k < 15 → k' < 15 → A 21 (15 * k + k') = nI (64 * (S 6 4 * sc_kd k k'))) (hv : ∀ m, m < S 7 1 → xVal S m (A 14)) (hK : ∀ (A' : Nat → Nat → Int32) (p : Nat → Nat), (∀ k, k ≠ 12 → k ≠ 13 → k ≠ 22 → A' k = A k) → xGood S p (S 7 1) → xKept S p (S 7 1) A' → K none (wX cI ad F A')) : T_R_readOff cI tv [.ref (ad 3)] (wX cI ad F A) K := by
  refine ⟨q_le0 _ _ rfl, fun G hG => ?_⟩
  have hM := wf_M hw
  refine sg_R_readOff_0 hG ad F A ?_
  have loop : ∀ (d m st : Nat) (A' : Nat → Nat → Int32) (p : Nat → Nat), m + d = S 7 1 → (∀ i, m = i + 1 → st = p i) → (∀ k, k ≠ 12 → k ≠ 13 → k ≠ 22 → A' k = A k) → xGood S p m → xKept S p m A' → G 4 [(0, .ref (ad 3)), (1, .int (nI st)), (2, .int (nI m))] [] (wX cI ad F A') 0 0 := by
    intro d
    induction d with
    | zero =>
      intro m st A' p hd hst h1 h2 h3
      have e : m = S 7 1 := by omega
      subst e
      refine sg_R_readOff_4 hG ad F A' _ _ ⟨fun _ => hK A' p h1 h2 h3, fun c => ?_⟩
      rw [hR.2.1] at c
      exact absurd (nI_le (Nat.le_refl _) (by omega)) c
    | succ d ih =>
      intro m st A' p hd hst h1 h2 h3
      have hm : m < S 7 1 := by omega
      -- what is done with the state found
      have keep : ∀ (A1 : Nat → Nat → Int32) (q : Nat), (∀ k, k ≠ 12 → k ≠ 13 → k ≠ 22 → A1 k = A k) → A1 12 = A' 12 → A1 13 = A' 13 → q < xN S m → ∀ p' : Nat → Nat, p' m = q → (∀ i, i ≠ m → p' i = p i) → xGood S p' (m + 1) → G 32 [(0, .ref (ad 3)), (1, .int (nI st)), (2, .int (nI m))] [.int (nI q)] (wX cI ad F A1) 0 0 := by
        intro A1 q g1 g12 g13 hq p' ep ep2 hg
        refine sg_R_readOff_32 hG ad F A1 _ _ _ ?_
        refine x_keep ad F A1 hw (xR_of hR (fun _ _ => rfl) (fun k hk hk2 => g1 k (by omega) (by omega) (by omega))) hm hq (fun A2 f1 f2 f3 f4 => ?_)
        refine sg_R_readOff_39 hG ad F A2 _ _ ?_
        rw [show nI m + 1 = nI (m + 1) from nI_1 m]
        refine ih (m + 1) q A2 p' (by omega) (fun i hi => by rw [show i = m by omega, ep]) (fun k a b c => by rw [f1 k a b]; exact g1 k a b c) hg (fun i hi => ?_)
        rcases Nat.lt_or_ge i m with z | z
        · have hne : i ≠ m := by omega
          have mono := s3_mono hw (m - i) i (by omega) (by omega)
          rw [show i + (m - i) = m by omega] at mono
          rw [ep2 i hne, f2, if_neg hne, g13]
          refine ⟨(h3 i z).1, fun j hj => ?_⟩
          rw [f3 _ (by omega), g12]
          exact (h3 i z).2 j hj
        · have e : i = m := by omega
          subst e
          rw [ep, f2, if_pos rfl]
          exact ⟨rfl, fun j hj => f4 j hj⟩
      refine sg_R_readOff_4 hG ad F A' _ _ ⟨fun c => ?_, fun _ => ⟨fun c => ?_, fun c => ?_⟩⟩
      · rw [hR.2.1] at c
        exact absurd (nge (by omega) (by omega) c) (by omega)
      · have hz : m = 0 := by
          have := nge (by omega) (by decide) (show nI m ≤ nI 0 from c)
          omega
        subst hz
        refine x_firstOfBest ad F A' hw (xR_of hR (fun _ _ => rfl) (fun k hk hk2 => h1 k (by omega) (by omega) (by omega))) (lb := fun _ => 0) hm (by rw [h1 15 (by decide) (by decide) (by decide)]; exact h15 0 hm) (by rw [h1 14 (by decide) (by decide) (by decide)]; exact hv 0 hm) (fun _ => Nat.zero_le _) (fun _ _ => rfl) (fun i t hi => by omega) (fun q hq => ?_)
        obtain ⟨p', e1, e2⟩ : ∃ p' : Nat → Nat, p' 0 = q ∧ ∀ i, i ≠ 0 → p' i = p i := ⟨fun i => if i = 0 then q else p i, if_pos rfl, fun i h => if_neg h⟩
        refine keep A' q h1 rfl rfl hq.1 p' e1 e2 ⟨fun _ => ?_, fun i hi => by omega⟩
        rw [e1]
        refine ⟨hq.1, hq.2.1, fun s hs hal => ?_⟩
        have h := hq.2.2 s hs hal
        have h2 : 0 + xB S 0 q ≤ 0 + xB S 0 s ∧ (0 + xB S 0 s = 0 + xB S 0 q → q ≤ s) := h
        exact ⟨by omega, fun e => h2.2 (by omega)⟩
      · have hpos : 0 < m := by
          have := nng (by omega) (by decide) (show ¬ nI m ≤ nI 0 from c)
          omega
        obtain ⟨i, rfl⟩ : ∃ i, m = i + 1 := ⟨m - 1, by omega⟩
        have est := hst i rfl
        subst est
        have hpi := xGood_lt h2 (show i < i + 1 by omega)
        rw [nI_pred i]
        refine x_linkSteps ad F A' hw (xR_of hR (fun _ _ => rfl) (fun k hk hk2 => h1 k (by omega) (by omega) (by omega))) hm (fun f hf => ?_)
        refine sg_R_readOff_26 hG ad F _ _ _ ?_
        have hR1 : xR S F (q_ua A' 22 f) := xR_of hR (fun _ _ => rfl) (fun k hk hk2 => by rw [q_ua_ne (by omega)]; exact h1 k (by omega) (by omega) (by omega))
        have e15 : (q_ua A' 22 f) 15 (i + 1) = nI (xo S (i + 1)) := by
          show A' 15 (i + 1) = _
          rw [h1 15 (by decide) (by decide) (by decide)]; exact h15 (i + 1) hm
        have e14 : xVal S (i + 1) ((q_ua A' 22 f) 14) := by
          show xVal S (i + 1) (A' 14)
          rw [h1 14 (by decide) (by decide) (by decide)]; exact hv (i + 1) hm
        have e21 : ∀ k k', k < 15 → k' < 15 → (q_ua A' 22 f) 21 (15 * k + k') = nI (64 * (S 6 4 * sc_kd k k')) := by
          show ∀ k k', k < 15 → k' < 15 → A' 21 (15 * k + k') = nI (64 * (S 6 4 * sc_kd k k'))
          rw [h1 21 (by decide) (by decide) (by decide)]; exact h21
        obtain ⟨lb, l1, l2⟩ : ∃ lb : Nat → Nat, (∀ t, t < xN S (i + 1) → lb t = 64 * xlk S i (p i) t) ∧ ∀ t, lb t ≤ 30000 := by
          refine ⟨fun t => if t < xN S (i + 1) then 64 * xlk S i (p i) t else 0, fun t ht => if_pos ht, fun t => ?_⟩
          show (if t < xN S (i + 1) then 64 * xlk S i (p i) t else 0) ≤ 30000
          split
          · rename_i ht
            have := xlk_le hw hm hpi.1 ht
            omega
          · decide
        refine x_firstOfBest ad F (q_ua A' 22 f) hw hR1 (lb := lb) hm e15 e14 l2 (fun z => by omega) (fun i2 t hi2 ht K' hK' => ?_) (fun q hq => ?_)
        · have ei : i2 = i := by omega
          subst ei
          refine x_valueBetween ad F (q_ua A' 22 f) hw hR1 hm hpi.1 ht e21 hf ?_
          rw [l1 t ht] at hK'
          exact hK'
        · obtain ⟨p', e1, e2⟩ : ∃ p' : Nat → Nat, p' (i + 1) = q ∧ ∀ j, j ≠ i + 1 → p' j = p j := ⟨fun j => if j = i + 1 then q else p j, if_pos rfl, fun j h => if_neg h⟩
          refine keep (q_ua A' 22 f) q (fun k a b c => by rw [q_ua_ne c]; exact h1 k a b c) rfl rfl hq.1 p' e1 e2 ⟨fun _ => ?_, fun j hj => ?_⟩
          · rw [e2 0 (by omega)]
            exact h2.1 (by omega)
          · rcases Nat.lt_or_ge (j + 1) (i + 1) with z | z
            · rw [e2 (j + 1) (by omega), e2 j (by omega)]
              exact h2.2 j z
            · have ej : j = i := by omega
              subst ej
              rw [e1, e2 j (by omega)]
              refine ⟨hq.1, hq.2.1, fun t ht hal => ?_⟩
              have h := hq.2.2 t ht hal
              rw [l1 t ht, l1 q hq.1] at h
              exact h
  exact loop (S 7 1) 0 0 A (fun _ => 0) (by omega) (fun i hi => by omega) (fun k _ _ _ => rfl) ⟨fun h => absurd h (Nat.not_lt_zero 0), fun m hm => by omega⟩ (fun i hi => absurd hi (Nat.not_lt_zero i))
theorem x_countChoices (ad : Nat → Nat) (F : Nat → Int32) (A : Nat → Nat → Int32) {S : sc_S} (hw : sc_wf S) (hR : xR S F A) {B : Nat} {V C : Nat → c_T} (h0 : 0 < S 7 1) (hB : B < 268435456) (hc : xcur B (xN S 0) V C (A 14) (A 16)) (hne : c_sum (xN S 0) V ≠ none) (hK : ∀ (F' : Nat → Int32) (b k ti : Nat), (∀ j, j ≠ 8 → j ≠ 9 → j ≠ 10 → F' j = F j) → c_sum (xN S 0) V = some (b, k) → b ≤ B → F' 8 = nI (b / 64) → F' 9 = nI (b % 64) → F' 10 = nI ti → c_tr 1000000 (c_sum (xN S 0) C) = some (b / 64, ti) → K none (wX cI ad F' A)) : T_R_countChoices cI tv [.ref (ad 3)] (wX cI ad F A) K := by
  refine ⟨q_le0 _ _ rfl, fun G hG => ?_⟩
  have p := p3_pos (S 4 0)
  have hxN : xN S 0 ≤ 405 := by unfold xN; omega
  refine sg_R_countChoices_0 hG ad F A ?_
  refine x_picksAt ad F A hw hR (m := 0) h0 ?_
  refine sg_R_countChoices_7 hG ad F A _ _ ?_
  rw [show (15 : Int32) = nI 15 from rfl, pk_mul]
  -- second loop
  have second : ∀ (b k : Nat), c_sum (xN S 0) V = some (b, k) → b ≤ B → (∀ t, t < xN S 0 → ∀ u w, V t = some (u, w) → b ≤ u) → (∃ t, t < xN S 0 ∧ ∃ w, V t = some (b, w)) → ∀ (d i ti : Nat) (F' : Nat → Int32), i + d = xN S 0 → (∀ j, j ≠ 8 → j ≠ 9 → j ≠ 10 → F' j = F j) → F' 8 = nI (b / 64) → F' 9 = nI (b % 64) → F' 10 = nI ti → ((ti = 0 ∧ (c_sum i C = none ∨ ∃ x w, c_tr 1000000 (c_sum i C) = some (x, w) ∧ b / 64 < x) ∧ ∀ t, t < i → ∀ u w, V t = some (u, w) → u / 64 ≠ b / 64) ∨ c_tr 1000000 (c_sum i C) = some (b / 64, ti)) → G 59 [(0, .ref (ad 3)), (1, .int (nI (xN S 0))), (3, .int (nI i))] [] (wX cI ad F' A) 0 0 := by
    intro b k hb hbB hmin hex d
    induction d with
    | zero =>
      intro i ti F' hd h1 h8 h9 h10 hI
      have e : i = xN S 0 := by omega
      subst e
      refine sg_R_countChoices_59 hG ad F' A _ _ ⟨fun _ => ?_, fun c => absurd (nI_le (Nat.le_refl _) (by omega)) c⟩
      rcases hI with ⟨-, -, z⟩ | z
      · obtain ⟨t, t1, w, t2⟩ := hex
        exact absurd rfl (z t t1 b w t2)
      · exact hK F' b k ti h1 hb hbB h8 h9 h10 z
    | succ d ih =>
      intro i ti F' hd h1 h8 h9 h10 hI
      have hi : i < xN S 0 := by omega
      obtain ⟨a, n, ea, en, hr⟩ := hc i hi
      have hab := xrep_le hB hr
      have hti : ti ≤ 1000000 := by
        rcases hI with ⟨z, -⟩ | z
        · omega
        · exact c_tr_le z
      refine sg_R_countChoices_59 hG ad F' A _ _ ⟨fun c => absurd (nge (by omega) (by omega) c) (by omega), fun _ => ⟨vp_in_nI (by omega) (by decide), ?_⟩⟩
      rw [nI_clamp (show i < 2 ^ 31 by omega), ea, en, h8, show nI a / 64 = nI (a / 64) from pk_div (by omega) (by decide) (by decide), show nI i + 1 = nI (i + 1) from nI_1 i]
      have hsum : c_sum (i + 1) C = c_add (c_sum i C) (C i) := rfl
      refine ⟨fun c => ih (i + 1) ti F' (by omega) h1 h8 h9 h10 ?_, fun c => ⟨vp_in_nI (by omega) (by decide), ?_⟩⟩
      · have hq := nne (by omega) (by omega) c
        rw [hsum]
        rcases hr with ⟨z1, z2, -, -⟩ | ⟨w, z1, z2, z3⟩
        · rw [z2, c_add_none]
          rcases hI with ⟨g1, g2, g3⟩ | g
          · refine Or.inl ⟨g1, g2, fun t ht u w hu => ?_⟩
            rcases Nat.lt_or_ge t i with y | y
            · exact g3 t y u w hu
            · rw [show t = i by omega, z1] at hu; cases hu
          · exact Or.inr g
        · have hge := hmin i hi a w z1
          have hgt : b / 64 < a / 64 := by omega
          rcases hI with ⟨g1, g2, g3⟩ | g
          · refine Or.inl ⟨g1, Or.inr ?_, fun t ht u w' hu => ?_⟩
            · rcases g2 with g2 | ⟨x, w2, g2, g4⟩
              · rw [g2, c_none_add]; exact ⟨_, _, z3, hgt⟩
              · rw [c_tr_some g2 z3]
                by_cases y1 : x < a / 64
                · rw [if_pos y1]; exact ⟨_, _, rfl, g4⟩
                · rw [if_neg y1]
                  by_cases y2 : a / 64 < x
                  · rw [if_pos y2]; exact ⟨_, _, rfl, hgt⟩
                  · rw [if_neg y2]; exact ⟨_, _, rfl, g4⟩
            · rcases Nat.lt_or_ge t i with y | y
              · exact g3 t y u w' hu
              · rw [show t = i by omega, z1] at hu
                have : u = a := (congrArg Prod.fst (Option.some.inj hu)).symm
                omega
          · refine Or.inr ?_
            rw [c_tr_some g z3, if_pos hgt]
      · have hq := neq (by omega) (by omega) c
        rw [h10, nI_add, show (1000000 : Int32) = nI 1000000 from rfl, x_min (by decide) (by omega)]
        refine ih (i + 1) (min 1000000 (ti + n)) _ (by omega) (fun j g1 g2 g3 => by rw [q_uf_ne g3]; exact h1 j g1 g2 g3) (by rw [q_uf_ne (by decide)]; exact h8) (by rw [q_uf_ne (by decide)]; exact h9) rfl (Or.inr ?_)
        rw [hsum]
        rcases hr with ⟨z1, z2, z3, z4⟩ | ⟨w, z1, z2, z3⟩
        · omega
        · have hn := c_tr_le z3
          rw [← hq]
          rcases hI with ⟨g1, g2, g3⟩ | g
          · rw [g1, Nat.zero_add, show min 1000000 n = n by omega]
            rcases g2 with g2 | ⟨x, w2, g2, g4⟩
            · rw [g2, c_none_add]; exact z3
            · rw [c_tr_some g2 z3, if_neg (by omega), if_pos (by omega)]
          · rw [c_tr_some g z3, if_neg (by omega), if_neg (by omega), hq]
  -- first loop
  have first : ∀ (d i best : Nat), i + d = xN S 0 → ((c_sum i V = none ∧ best = 268435456) ∨ ∃ k, c_sum i V = some (best, k) ∧ best ≤ B ∧ (∀ t, t < i → ∀ u w, V t = some (u, w) → best ≤ u) ∧ ∃ t, t < i ∧ ∃ w, V t = some (best, w)) → G 14 [(0, .ref (ad 3)), (1, .int (nI (xN S 0))), (2, .int (nI best)), (3, .int (nI i))] [] (wX cI ad F A) 0 0 := by
    intro d
    induction d with
    | zero =>
      intro i best hd hI
      have e : i = xN S 0 := by omega
      subst e
      refine sg_R_countChoices_14 hG ad F A _ _ _ ⟨fun _ => ?_, fun c => absurd (nI_le (Nat.le_refl _) (by omega)) c⟩
      refine sg_R_countChoices_52 hG ad _ A _ ?_
      rcases hI with ⟨z, -⟩ | ⟨k, z1, z2, z3, z4⟩
      · exact absurd z hne
      · refine second best k z1 z2 z3 z4 (xN S 0) 0 0 _ (by omega) (fun j g1 g2 g3 => by rw [q_uf_ne g3, q_uf_ne g2, q_uf_ne g1]) ?_ ?_ rfl (Or.inl ⟨rfl, Or.inl rfl, fun t ht => absurd ht (Nat.not_lt_zero t)⟩)
        · show nI best / 64 = _
          exact pk_div (by omega) (by decide) (by decide)
        · show nI best - nI best / 64 * 64 = _
          exact pk_rem (d := 64) (by omega) (by decide) (by decide)
    | succ d ih =>
      intro i best hd hI
      have hi : i < xN S 0 := by omega
      obtain ⟨a, n, ea, en, hr⟩ := hc i hi
      have hab := xrep_le hB hr
      have hbest : best ≤ 268435456 := by rcases hI with ⟨-, z⟩ | ⟨k, -, z, -⟩ <;> omega
      refine sg_R_countChoices_14 hG ad F A _ _ _ ⟨fun c => absurd (nge (by omega) (by omega) c) (by omega), fun _ => ⟨vp_in_nI (by omega) (by decide), ?_⟩⟩
      rw [nI_clamp (show i < 2 ^ 31 by omega), ea, x_min (by omega) (by omega), show nI i + 1 = nI (i + 1) from nI_1 i]
      refine ih (i + 1) _ (by omega) ?_
      have hsum : c_sum (i + 1) V = c_add (c_sum i V) (V i) := rfl
      rw [hsum]
      rcases hr with ⟨z1, z2, z3, -⟩ | ⟨w, z1, z2, -⟩
      · rw [z1, c_add_none, show min best a = best by omega]
        rcases hI with ⟨g1, g2⟩ | ⟨k, g1, g2, g3, t, g4, g5⟩
        · exact Or.inl ⟨g1, g2⟩
        · refine Or.inr ⟨k, g1, g2, fun t ht u w hu => ?_, t, by omega, g5⟩
          rcases Nat.lt_or_ge t i with y | y
          · exact g3 t y u w hu
          · rw [show t = i by omega, z1] at hu; cases hu
      · refine Or.inr ?_
        rcases hI with ⟨g1, g2⟩ | ⟨k, g1, g2, g3, t0, g4, w0, g5⟩
        · rw [g1, c_none_add, show min best a = a by omega]
          refine ⟨w, z1, z2, fun t ht u w' hu => ?_, i, by omega, w, z1⟩
          rcases Nat.lt_or_ge t i with y | y
          · exfalso
            refine c_sum_ne y ?_ g1
            rw [hu]; intro q; cases q
          · rw [show t = i by omega, z1] at hu
            have : u = a := (congrArg Prod.fst (Option.some.inj hu)).symm
            omega
        · rw [g1, z1]
          have hle : ∀ t, t < i + 1 → ∀ u w', V t = some (u, w') → min best a ≤ u := by
            intro t ht u w' hu
            rcases Nat.lt_or_ge t i with y | y
            · have := g3 t y u w' hu
              omega
            · rw [show t = i by omega, z1] at hu
              have : u = a := (congrArg Prod.fst (Option.some.inj hu)).symm
              omega
          show ∃ k', (if best < a then some (best, k) else if a < best then some (a, w) else some (best, k + w)) = some (min best a, k') ∧ _
          by_cases y1 : best < a
          · rw [if_pos y1]
            rw [show min best a = best by omega] at hle ⊢
            exact ⟨k, rfl, g2, hle, t0, by omega, w0, g5⟩
          · rw [if_neg y1]
            by_cases y2 : a < best
            · rw [if_pos y2]
              rw [show min best a = a by omega] at hle ⊢
              exact ⟨w, rfl, z2, hle, i, by omega, w, z1⟩
            · rw [if_neg y2]
              rw [show min best a = best by omega] at hle ⊢
              exact ⟨_, rfl, g2, hle, t0, by omega, w0, g5⟩
  exact first (xN S 0) 0 268435456 (by omega) (Or.inl ⟨rfl, rfl⟩)
end XO
