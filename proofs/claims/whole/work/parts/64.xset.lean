/-! the class: the calls that change -/
section XS
variable {cI : ClassId} {tv : Nat} {K : q_K}
theorem X_clear (ad : Nat → Nat) (F : Nat → Int32) (A : Nat → Nat → Int32) {S : sc_S} (hI : xI S F A) (hK : ∀ F' A', xI (sc_clr S) F' A' → K (some (.int (nI (S 7 0)))) (wX cI ad F' A')) : T_X_clear cI tv [.ref (ad 0)] (wX cI ad F A) K := by
  refine ⟨q_le0 _ _ rfl, fun G hG => ?_⟩
  refine sg_X_clear_0 hG ad F A ⟨q_le0 _ _ rfl, fun G2 hG2 => sg_S_empty_0 hG2 ad F A (sg_X_clear_15 hG ad _ A _ ?_)⟩
  rw [hI.1.1]
  have e0 : sc_clr S 7 0 = 0 := rfl
  have e1 : sc_clr S 7 1 = 0 := rfl
  refine hK _ A ⟨⟨rfl, rfl, fun j hj => ?_, fun i hi => absurd hi (by rw [e0]; exact Nat.not_lt_zero i), fun m hm => absurd hm (by rw [e1]; exact Nat.not_lt_zero m)⟩, fun c => absurd rfl c⟩
  rw [q_uf_ne (by omega), q_uf_ne (by omega), q_uf_ne (by omega)]
  exact hI.1.2.2.1 j hj
theorem isW_in {x : Int32} : ¬ jf_X_isWeight x = 0 ↔ inN 21 x := by
  unfold jf_X_isWeight
  by_cases h : x < 0
  · rw [if_pos h]; exact ⟨fun c => absurd rfl c, fun c => absurd c (in_not_neg (by decide) h)⟩
  · obtain ⟨j, hj, rfl⟩ := nI_nonneg h
    rw [if_neg h, in_nI (by decide) hj]
    by_cases h2 : (20 : Int32) < nI j
    · rw [if_pos h2]
      have := nlt' (by decide) hj (show nI 20 < nI j from h2)
      exact ⟨fun c => absurd rfl c, fun c => by omega⟩
    · rw [if_neg h2]
      have := nnl (by decide) hj (show ¬ nI 20 < nI j from h2)
      exact ⟨fun _ => by omega, fun _ => by decide⟩
theorem X_weights (ad : Nat → Nat) (F : Nat → Int32) (A : Nat → Nat → Int32) {S : sc_S} (hI : xI S F A) (a b c d e : Int32) (hK : ∀ F' A', xI (st_weights S a b c d e) F' A' → K (some (.int (an_weights a b c d e))) (wX cI ad F' A')) : T_X_weights cI tv [.ref (ad 0), .int a, .int b, .int c, .int d, .int e] (wX cI ad F A) K := by
  refine ⟨q_le0 _ _ rfl, fun G hG => ?_⟩
  unfold an_weights st_weights at hK
  have no : ¬ (inN 21 a ∧ inN 21 b ∧ inN 21 c ∧ inN 21 d ∧ inN 21 e) → G 41 [(0, .ref (ad 0)), (1, .int a), (2, .int b), (3, .int c), (4, .int d), (5, .int e)] [] (wX cI ad F A) 0 0 := by
    intro hn
    rw [cif_n hn, cif_n hn] at hK
    exact sg_X_weights_41 hG ad F A a b c d e ⟨fun z => absurd rfl z, fun _ => hK F A hI⟩
  refine sg_X_weights_0 hG ad F A a b c d e ⟨fun z => no (fun q => absurd z (isW_in.mpr q.1)), fun z1 => ⟨fun z => no (fun q => absurd z (isW_in.mpr q.2.1)), fun z2 => ⟨fun z => no (fun q => absurd z (isW_in.mpr q.2.2.1)), fun z3 => ⟨fun z => no (fun q => absurd z (isW_in.mpr q.2.2.2.1)), fun z4 => ⟨fun z => no (fun q => absurd z (isW_in.mpr q.2.2.2.2)), fun z5 => ⟨fun _ => ?_, fun z => absurd z (by decide)⟩⟩⟩⟩⟩⟩
  have h1 := isW_in.mp z1
  have h2 := isW_in.mp z2
  have h3 := isW_in.mp z3
  have h4 := isW_in.mp z4
  have h5 := isW_in.mp z5
  rw [cif_p ⟨h1, h2, h3, h4, h5⟩, cif_p ⟨h1, h2, h3, h4, h5⟩] at hK
  refine sg_X_weights_68 hG ad _ A _ _ _ (sg_X_weights_85 hG ad _ A _ ?_)
  refine hK _ A ⟨⟨?_, ?_, fun j hj => ?_, hI.1.2.2.2.1, hI.1.2.2.2.2⟩, fun z => absurd rfl z⟩
  · exact hI.1.1
  · exact hI.1.2.1
  · match j, hj with
    | 0, _ => exact (in_cl (by decide) h1).2
    | 1, _ => exact (in_cl (by decide) h2).2
    | 2, _ => exact (in_cl (by decide) h3).2
    | 3, _ => exact (in_cl (by decide) h4).2
    | 4, _ => exact (in_cl (by decide) h5).2
theorem X_key (ad : Nat → Nat) (F : Nat → Int32) (A : Nat → Nat → Int32) {S : sc_S} (hw : sc_wf S) (hI : xI S F A) (x k : Int32) (hK : ∀ F' A', xI (st_key S x k) F' A' → K (some (.int (an_key S x k))) (wX cI ad F' A')) : T_X_key cI tv [.ref (ad 0), .int x, .int k] (wX cI ad F A) K := by
  refine ⟨q_le0 _ _ rfl, fun G hG => ?_⟩
  have n18 := hw.1
  have hM := wf_M hw
  unfold an_key st_key at hK
  refine sg_X_key_0 hG ad F A x k (x_has ad F A hw hI.1 (fun i hi e => ?_) (fun hn => ?_))
  · subst e
    have hin : inN (S 7 0) (nI i) := ⟨i, hi, rfl⟩
    rw [cif_p hin] at hK
    refine sg_X_key_8 hG ad F A _ k 1 ⟨fun _ => ⟨fun c => ?_, fun c => ⟨fun c2 => ?_, fun c2 => ?_⟩⟩, fun c => absurd c (by decide)⟩
    · have hn := in_not_neg (n := 16) (by decide) c
      rw [cif_n hn, cif_n (fun z => hn z.2)] at hK; exact hK F A hI
    · have hk := (in_le (n := 15) (by decide) c).mp c2
      rw [cif_p hk, cif_p ⟨hin, hk⟩, nI_clamp (show i < 2 ^ 31 by omega)] at hK
      obtain ⟨j, hj, rfl⟩ := hk
      rw [nI_clamp (show j < 2 ^ 31 by omega)] at hK
      have hm := (hw.2.2.2.2.1 i hi).2.2.1
      have w := hw.2.2.1 (S 2 i) hm
      have r := hI.1.2.2.2.2 (S 2 i) hm
      have vm : vp_in (nI (S 2 i)) 18 := vp_in_nI (by omega) (by decide)
      rw [nI_clamp (show i < 2 ^ 31 by omega), (hI.1.2.2.2.1 i hi).2.2.1, nI_clamp (show S 2 i < 2 ^ 31 by omega), r.2.2]
      have hR' : ∀ F' : Nat → Int32, (∀ t, 1 ≤ t → t < 8 → F' t = F t) → xR (sc_u S 5 (S 2 i) j) F' (q_ua A 9 (upd (A 9) (S 2 i) (nI j))) := by
        intro F' hF
        refine ⟨by rw [hF 1 (by decide) (by decide)]; exact hI.1.1, by rw [hF 2 (by decide) (by decide)]; exact hI.1.2.1, fun t ht => by rw [hF (3 + t) (by omega) (by omega)]; exact hI.1.2.2.1 t ht, hI.1.2.2.2.1, fun m hm2 => ?_⟩
        have rm := hI.1.2.2.2.2 m hm2
        refine ⟨rm.1, rm.2.1, ?_⟩
        show upd (A 9) (S 2 i) (nI j) m = nI (sc_u S 5 (S 2 i) j 5 m)
        by_cases z : m = S 2 i
        · rw [z, upd_s, sc_u_s]
        · rw [pk_un z, sc_u_i z]; exact rm.2.2
      refine ⟨vp_in_nI (by omega) (by decide), vm, vm, fun c3 => ?_, fun c3 => ⟨fun c4 => ?_, fun c4 => ?_⟩⟩
      · exact hK _ _ ⟨hR' _ (fun t h1 _ => q_uf_ne (by omega)), fun z => absurd rfl z⟩
      · exact sg_X_key_79 hG ad _ _ _ (hK _ _ ⟨hR' _ (fun t h1 _ => q_uf_ne (by omega)), fun z => absurd rfl z⟩)
      · have ej : S 5 (S 2 i) = j := neq (by omega) (by omega) c4
        refine sg_X_key_79 hG ad _ _ _ (hK _ _ ⟨hR' _ (fun t h1 _ => q_uf_ne (by omega)), fun _ => ?_⟩)
        rw [sc_u_self ej]
        exact hI.2 c3
    · have hn : ¬ inN 16 k := fun z => c2 ((in_le (n := 15) (by decide) c).mpr z)
      rw [cif_n hn, cif_n (fun z => hn z.2)] at hK; exact hK F A hI
  · rw [cif_n hn, cif_n (fun z => hn z.1)] at hK
    exact sg_X_key_8 hG ad F A _ k 0 ⟨fun c => absurd rfl c, fun _ => hK F A hI⟩
theorem X_fix (ad : Nat → Nat) (F : Nat → Int32) (A : Nat → Nat → Int32) {S : sc_S} (hw : sc_wf S) (hI : xI S F A) (x n : Int32) (hK : ∀ F' A', xI (st_fix S x n) F' A' → K (some (.int (an_fix S x n))) (wX cI ad F' A')) : T_X_fix cI tv [.ref (ad 0), .int x, .int n] (wX cI ad F A) K := by
  refine ⟨q_le0 _ _ rfl, fun G hG => ?_⟩
  have n18 := hw.1
  unfold an_fix st_fix at hK
  refine sg_X_fix_0 hG ad F A x n (x_has ad F A hw hI.1 (fun i hi e => ?_) (fun hn => ?_))
  · subst e
    have hin : inN (S 7 0) (nI i) := ⟨i, hi, rfl⟩
    have vi : vp_in (nI i) 18 := vp_in_nI (by omega) (by decide)
    have b := hw.2.2.2.2.1 i hi
    have r := hI.1.2.2.2.1 i hi
    rw [cif_p hin, nI_clamp (show i < 2 ^ 31 by omega)] at hK
    have yes : okn S i n → G 45 [(0, .ref (ad 0)), (1, .int (nI i)), (2, .int n)] [] (wX cI ad F A) 0 0 := by
      intro ho
      rw [cif_p ho, cif_p ⟨hin, ho⟩] at hK
      have hcl := okn_cl ho
      refine sg_X_fix_45 hG ad F A (nI i) n ?_
      rw [nI_clamp (show i < 2 ^ 31 by omega), r.2.1]
      have hR' : ∀ F' : Nat → Int32, (∀ t, 1 ≤ t → t < 8 → F' t = F t) → xR (sc_u S 1 i n.toNatClampNeg) F' (q_ua A 5 (upd (A 5) i n)) := by
        intro F' hF
        refine ⟨by rw [hF 1 (by decide) (by decide)]; exact hI.1.1, by rw [hF 2 (by decide) (by decide)]; exact hI.1.2.1, fun t ht => by rw [hF (3 + t) (by omega) (by omega)]; exact hI.1.2.2.1 t ht, fun j hj => ?_, hI.1.2.2.2.2⟩
        have rj := hI.1.2.2.2.1 j hj
        refine ⟨rj.1, ?_, rj.2.2⟩
        show upd (A 5) i n j = nI (sc_u S 1 i n.toNatClampNeg 1 j)
        by_cases z : j = i
        · rw [z, upd_s, sc_u_s]; exact hcl.2
        · rw [pk_un z, sc_u_i z]; exact rj.2.1
      refine ⟨vi, vi, fun c3 => ?_, fun c3 => ⟨fun c4 => ?_, fun c4 => ?_⟩⟩
      · exact hK _ _ ⟨hR' _ (fun t h1 _ => q_uf_ne (by omega)), fun z => absurd rfl z⟩
      · exact hK _ _ ⟨hR' _ (fun t h1 _ => q_uf_ne (by omega)), fun z => absurd rfl z⟩
      · have ej : S 1 i = n.toNatClampNeg := by
          rw [hcl.2] at c4
          exact neq (by omega) (by omega) c4
        refine hK _ _ ⟨hR' _ (fun t h1 _ => q_uf_ne (by omega)), fun _ => ?_⟩
        rw [sc_u_self ej]
        exact hI.2 c3
    have no : ¬ okn S i n → G 42 [] [] (wX cI ad F A) 0 0 := by
      intro ho
      rw [cif_n ho, cif_n (fun z => ho z.2)] at hK
      exact sg_X_fix_42 hG ad F A (hK F A hI)
    refine sg_X_fix_8 hG ad F A _ n 1 ⟨fun _ => ⟨fun c => yes (Or.inl c), fun c => ⟨fun c2 => no ?_, fun c2 => ⟨vi, ?_⟩⟩⟩, fun c => absurd c (by decide)⟩
    · rintro (z | ⟨m, h1, h2, -⟩)
      · exact c z
      · exact absurd c2 (isN_in.mpr ⟨m, h1, h2⟩)
    · obtain ⟨m, hm, rfl⟩ := isN_in.mp c2
      rw [nI_clamp (show i < 2 ^ 31 by omega), r.1, sx_sounds m hm _ b.1]
      by_cases z : m % 12 = sc_low (S 0 i)
      · rw [if_pos z]
        exact ⟨fun _ => yes (Or.inr ⟨m, hm, rfl, z⟩), fun q => absurd q (by decide)⟩
      · rw [if_neg z]
        refine ⟨fun q => absurd rfl q, fun _ => no ?_⟩
        rintro (y | ⟨m2, h1, h2, h3⟩)
        · exact c y
        · have := neq (by omega) (by omega) h2
          rw [← this] at h3
          exact z h3
  · rw [cif_n hn, cif_n (fun z => hn z.1)] at hK
    exact sg_X_fix_8 hG ad F A _ n 0 ⟨fun c => absurd rfl c, fun _ => hK F A hI⟩
theorem x_list (ad : Nat → Nat) (F : Nat → Int32) (A : Nat → Nat → Int32) {s p : Nat} (hs : s < 18) (hp : p < 128) (h4 : A 4 s = nI p) (hK : ∀ A' : Nat → Nat → Int32, (∀ k, k ≠ 10 → k ≠ 11 → A' k = A k) → (∀ d, d < 3 → A' 10 (3 * s + d) = nI (sc_low p + 12 * d) ∧ A' 11 (3 * s + d) = nI (sc_plc (sc_low p + 12 * d) p)) → (∀ t, t < 3 * s → A' 10 t = A 10 t ∧ A' 11 t = A 11 t) → K none (wX cI ad F A')) : T_S_listOptions cI tv [.ref (ad 1), .int (nI s)] (wX cI ad F A) K := by
  refine ⟨q_le0 _ _ rfl, fun G hG => ?_⟩
  have vs : vp_in (nI s) 18 := vp_in_nI (by omega) (by decide)
  have hlo := sc_low_lt p
  refine sg_S_listOptions_0 hG ad F A (nI s) ⟨vs, ?_⟩
  rw [nI_clamp (show s < 2 ^ 31 by omega), h4, sx_low p hp]
  have loop : ∀ (e d : Nat) (A' : Nat → Nat → Int32), d + e = 3 → (∀ k, k ≠ 10 → k ≠ 11 → A' k = A k) → (∀ t, t < d → A' 10 (3 * s + t) = nI (sc_low p + 12 * t) ∧ A' 11 (3 * s + t) = nI (sc_plc (sc_low p + 12 * t) p)) → (∀ t, t < 3 * s → A' 10 t = A 10 t ∧ A' 11 t = A 11 t) → G 20 [(0, .ref (ad 1)), (1, .int (nI s)), (2, .int (nI (sc_low p))), (3, .int (nI d))] [] (wX cI ad F A') 0 0 := by
    intro e
    induction e with
    | zero =>
      intro d A' he h1 h2 h3
      have ed : d = 3 := by omega
      subst ed
      exact sg_S_listOptions_20 hG ad F A' _ _ _ ⟨fun _ => hK A' h1 h2 h3, fun c => absurd (nI_le (Nat.le_refl 3) (by decide)) c⟩
    | succ e ih =>
      intro d A' he h1 h2 h3
      have ei : nI s * 3 + nI d = nI (3 * s + d) := by rw [show (3 : Int32) = nI 3 from rfl, pk_mul, nI_add, Nat.mul_comm]
      have vd : vp_in (nI (3 * s + d)) 54 := vp_in_nI (by omega) (by decide)
      refine sg_S_listOptions_20 hG ad F A' _ _ _ ⟨fun c => absurd (nge (by decide) (by omega) (show nI 3 ≤ nI d from c)) (by omega), fun _ => ?_⟩
      have e4 : A' 4 s = nI p := by rw [h1 4 (by decide) (by decide)]; exact h4
      rw [ei, nI_clamp (show 3 * s + d < 2 ^ 31 by omega), nI_clamp (show s < 2 ^ 31 by omega), e4, show (12 : Int32) = nI 12 from rfl, pk_mul, nI_add, sx_place _ (by omega) _ hp]
      refine ⟨vd, vs, vd, ?_⟩
      refine sg_S_listOptions_66 hG ad F _ _ _ _ ?_
      rw [show nI d + 1 = nI (d + 1) from nI_1 d]
      refine ih (d + 1) _ (by omega) (fun k g1 g2 => by rw [q_ua_ne g2, q_ua_ne g1]; exact h1 k g1 g2) (fun t ht => ?_) (fun t ht => ?_)
      · show upd (A' 10) (3 * s + d) _ (3 * s + t) = _ ∧ upd (A' 11) (3 * s + d) _ (3 * s + t) = _
        rcases Nat.lt_or_ge t d with z | z
        · rw [pk_un (by omega), pk_un (by omega)]; exact h2 t z
        · rw [show t = d by omega, upd_s, upd_s]; exact ⟨rfl, rfl⟩
      · show upd (A' 10) (3 * s + d) _ t = _ ∧ upd (A' 11) (3 * s + d) _ t = _
        rw [pk_un (by omega), pk_un (by omega)]; exact h3 t ht
  exact loop 3 0 A rfl (fun _ _ _ => rfl) (fun t ht => absurd ht (Nat.not_lt_zero t)) (fun t _ => ⟨rfl, rfl⟩)
theorem x_putJ (ad : Nat → Nat) (F : Nat → Int32) (A : Nat → Nat → Int32) {S : sc_S} (hw : sc_wf S) (hR : xR S F A) {p : Nat} {w : Int32} (hz : ¬ w = 0) (hp : p < 128) (hs : S 7 0 < 18) (h0 : S 7 0 ≠ 0) (hK : ∀ F' A', xR (sc_putJ S p) F' A' → F' 0 = F 0 → K (some (.int (nI (S 7 0)))) (wX cI ad F' A')) : T_S_put cI tv [.ref (ad 1), .int (nI p), .int w] (wX cI ad F A) K := by
  refine ⟨q_le0 _ _ rfl, fun G hG => ?_⟩
  have hM := wf_M hw
  have hpos : 0 < S 7 1 := by have := hw.2.1; omega
  have wm := hw.2.2.1 (S 7 1 - 1) (by omega)
  have vs : vp_in (nI (S 7 0)) 18 := vp_in_nI hs (by decide)
  have em : nI (S 7 1) - 1 = nI (S 7 1 - 1) := pk_sub (show 1 ≤ S 7 1 from hpos)
  have vm : vp_in (nI (S 7 1 - 1)) 18 := vp_in_nI (by omega) (by decide)
  have cs := nI_clamp (show S 7 0 < 2 ^ 31 by omega)
  have cm := nI_clamp (show S 7 1 - 1 < 2 ^ 31 by omega)
  refine sg_S_put_0 hG ad F A _ w ⟨fun _ => ?_, fun c => absurd c hz⟩
  rw [hR.1, cs]
  refine ⟨vs, sg_S_put_57 hG ad F _ _ ?_⟩
  rw [cs]
  refine ⟨vs, sg_S_put_65 hG ad F _ _ ?_⟩
  rw [cs, hR.2.1, em]
  refine ⟨vs, sg_S_put_77 hG ad F _ _ ?_⟩
  rw [hR.2.1, em, cm]
  refine ⟨vm, vm, sg_S_put_92 hG ad F _ _ (sg_S_put_102 hG ad _ _ _ ?_)⟩
  refine x_list ad _ _ hs hp (show upd (A 4) (S 7 0) (nI p) (S 7 0) = nI p from upd_s _ _ _) (fun A' k1 k2 k3 => ?_)
  refine sg_S_put_107 hG ad _ A' _ ?_
  have a4 : ∀ i, A' 4 i = upd (A 4) (S 7 0) (nI p) i := fun i => by rw [k1 4 (by decide) (by decide)]; rfl
  have a5 : ∀ i, A' 5 i = upd (A 5) (S 7 0) 35 i := fun i => by rw [k1 5 (by decide) (by decide)]; rfl
  have a6 : ∀ i, A' 6 i = upd (A 6) (S 7 0) (nI (S 7 1 - 1)) i := fun i => by rw [k1 6 (by decide) (by decide)]; rfl
  have a8 : ∀ m, A' 8 m = upd (A 8) (S 7 1 - 1) (A 8 (S 7 1 - 1) + 1) m := fun m => by rw [k1 8 (by decide) (by decide)]; rfl
  refine hK _ A' ⟨?_, hR.2.1, fun j hj => by rw [q_uf_ne (by omega)]; exact hR.2.2.1 j hj, fun i hi => ?_, fun m hm => ?_⟩ rfl
  · show F 1 + 1 = nI (S 7 0 + 1)
    rw [hR.1]; exact nI_1 _
  · have hi' : i < S 7 0 + 1 := hi
    have s0 : sc_putJ S p 0 i = if i = S 7 0 then p else S 0 i := rfl
    have s1 : sc_putJ S p 1 i = if i = S 7 0 then 35 else S 1 i := rfl
    have s2 : sc_putJ S p 2 i = if i = S 7 0 then S 7 1 - 1 else S 2 i := rfl
    unfold opn
    rw [a4, a5, a6, s0, s1, s2]
    rcases Nat.lt_or_ge i (S 7 0) with z | z
    · have r := hR.2.2.2.1 i z
      rw [pk_un (by omega), pk_un (by omega), pk_un (by omega), if_neg (by omega), if_neg (by omega), if_neg (by omega)]
      refine ⟨r.1, r.2.1, r.2.2.1, fun d hd => ?_⟩
      have k := k3 (3 * i + d) (by omega)
      rw [k.1, k.2]
      exact r.2.2.2 d hd
    · have e : i = S 7 0 := by omega
      subst e
      rw [upd_s, upd_s, upd_s, if_pos rfl, if_pos rfl, if_pos rfl]
      exact ⟨rfl, rfl, rfl, k2⟩
  · have r := hR.2.2.2.2 m hm
    have s4 : sc_putJ S p 4 m = if m = S 7 1 - 1 then S 4 m + 1 else S 4 m := rfl
    refine ⟨by rw [k1 7 (by decide) (by decide)]; exact r.1, ?_, by rw [k1 9 (by decide) (by decide)]; exact r.2.2⟩
    rw [a8, s4]
    by_cases z : m = S 7 1 - 1
    · rw [if_pos z, ← z, upd_s, r.2.1]; exact nI_1 _
    · rw [if_neg z, pk_un z]; exact r.2.1
theorem x_putN (ad : Nat → Nat) (F : Nat → Int32) (A : Nat → Nat → Int32) {S : sc_S} (hw : sc_wf S) (hR : xR S F A) {p : Nat} (hp : p < 128) (hs : S 7 0 < 18) (hm18 : S 7 1 < 18) (hK : ∀ F' A', xR (sc_putN S p) F' A' → F' 0 = F 0 → K (some (.int (nI (S 7 0)))) (wX cI ad F' A')) : T_S_put cI tv [.ref (ad 1), .int (nI p), .int 0] (wX cI ad F A) K := by
  refine ⟨q_le0 _ _ rfl, fun G hG => ?_⟩
  have vs : vp_in (nI (S 7 0)) 18 := vp_in_nI hs (by decide)
  have vm : vp_in (nI (S 7 1)) 18 := vp_in_nI hm18 (by decide)
  have cs := nI_clamp (show S 7 0 < 2 ^ 31 by omega)
  have cm := nI_clamp (show S 7 1 < 2 ^ 31 by omega)
  refine sg_S_put_0 hG ad F A _ 0 ⟨fun c => absurd rfl c, fun _ => ?_⟩
  rw [hR.1, hR.2.1, cm]
  refine ⟨vm, sg_S_put_19 hG ad F _ _ _ ?_⟩
  rw [hR.2.1, cm]
  refine ⟨vm, sg_S_put_29 hG ad F _ _ _ ?_⟩
  rw [hR.2.1, cm]
  refine ⟨vm, sg_S_put_40 hG ad F _ _ _ (sg_S_put_50 hG ad _ _ _ _ ?_)⟩
  rw [cs]
  refine ⟨vs, sg_S_put_57 hG ad _ _ _ ?_⟩
  rw [cs]
  refine ⟨vs, sg_S_put_65 hG ad _ _ _ ?_⟩
  have ef : (q_uf F 2 (F 2 + 1)) 2 - 1 = nI (S 7 1) := by
    show F 2 + 1 - 1 = nI (S 7 1)
    rw [hR.2.1, show nI (S 7 1) + 1 = nI (S 7 1 + 1) from nI_1 _]; exact nI_pred _
  rw [cs, ef]
  refine ⟨vs, sg_S_put_77 hG ad _ _ _ ?_⟩
  rw [ef, cm]
  refine ⟨vm, vm, sg_S_put_92 hG ad _ _ _ (sg_S_put_102 hG ad _ _ _ ?_)⟩
  refine x_list ad _ _ hs hp (show upd (A 4) (S 7 0) (nI p) (S 7 0) = nI p from upd_s _ _ _) (fun A' k1 k2 k3 => ?_)
  refine sg_S_put_107 hG ad _ A' _ ?_
  have a4 : ∀ i, A' 4 i = upd (A 4) (S 7 0) (nI p) i := fun i => by rw [k1 4 (by decide) (by decide)]; rfl
  have a5 : ∀ i, A' 5 i = upd (A 5) (S 7 0) 35 i := fun i => by rw [k1 5 (by decide) (by decide)]; rfl
  have a6 : ∀ i, A' 6 i = upd (A 6) (S 7 0) (nI (S 7 1)) i := fun i => by rw [k1 6 (by decide) (by decide)]; rfl
  have a7 : ∀ m, A' 7 m = upd (A 7) (S 7 1) (nI (S 7 0)) m := fun m => by rw [k1 7 (by decide) (by decide)]; rfl
  have a8 : ∀ m, A' 8 m = upd (upd (A 8) (S 7 1) 0) (S 7 1) (upd (A 8) (S 7 1) 0 (S 7 1) + 1) m := fun m => by rw [k1 8 (by decide) (by decide)]; rfl
  have a9 : ∀ m, A' 9 m = upd (A 9) (S 7 1) 15 m := fun m => by rw [k1 9 (by decide) (by decide)]; rfl
  refine hK _ A' ⟨?_, ?_, fun j hj => by rw [q_uf_ne (by omega), q_uf_ne (by omega)]; exact hR.2.2.1 j hj, fun i hi => ?_, fun m hm => ?_⟩ rfl
  · show F 1 + 1 = nI (S 7 0 + 1)
    rw [hR.1]; exact nI_1 _
  · show F 2 + 1 = nI (S 7 1 + 1)
    rw [hR.2.1]; exact nI_1 _
  · have hi' : i < S 7 0 + 1 := hi
    have s0 : sc_putN S p 0 i = if i = S 7 0 then p else S 0 i := rfl
    have s1 : sc_putN S p 1 i = if i = S 7 0 then 35 else S 1 i := rfl
    have s2 : sc_putN S p 2 i = if i = S 7 0 then S 7 1 else S 2 i := rfl
    unfold opn
    rw [a4, a5, a6, s0, s1, s2]
    rcases Nat.lt_or_ge i (S 7 0) with z | z
    · have r := hR.2.2.2.1 i z
      rw [pk_un (by omega), pk_un (by omega), pk_un (by omega), if_neg (by omega), if_neg (by omega), if_neg (by omega)]
      refine ⟨r.1, r.2.1, r.2.2.1, fun d hd => ?_⟩
      have k := k3 (3 * i + d) (by omega)
      rw [k.1, k.2]
      exact r.2.2.2 d hd
    · have e : i = S 7 0 := by omega
      subst e
      rw [upd_s, upd_s, upd_s, if_pos rfl, if_pos rfl, if_pos rfl]
      exact ⟨rfl, rfl, rfl, k2⟩
  · have hm' : m < S 7 1 + 1 := hm
    have s3 : sc_putN S p 3 m = if m = S 7 1 then S 7 0 else S 3 m := rfl
    have s4 : sc_putN S p 4 m = if m = S 7 1 then 1 else S 4 m := rfl
    have s5 : sc_putN S p 5 m = if m = S 7 1 then 15 else S 5 m := rfl
    rw [a7, a8, a9, s3, s4, s5]
    rcases Nat.lt_or_ge m (S 7 1) with z | z
    · have r := hR.2.2.2.2 m z
      rw [pk_un (by omega), pk_un (by omega), pk_un (by omega), pk_un (by omega), if_neg (by omega), if_neg (by omega), if_neg (by omega)]
      exact r
    · have e : m = S 7 1 := by omega
      subst e
      rw [upd_s, upd_s, upd_s, upd_s, if_pos rfl, if_pos rfl, if_pos rfl]
      exact ⟨rfl, rfl, rfl⟩
theorem wf_M70 {S : sc_S} (hw : sc_wf S) (h : S 7 0 < 18) : S 7 1 < 18 := by
  have hM := wf_M (wf_putN hw (show 0 < 128 by decide) h)
  have e : sc_putN S 0 7 1 = S 7 1 + 1 := rfl
  omega
theorem X_pitch (ad : Nat → Nat) (F : Nat → Int32) (A : Nat → Nat → Int32) {S : sc_S} (hw : sc_wf S) (hI : xI S F A) (x w : Int32) (hK : ∀ F' A', xI (st_pitch S x w) F' A' → K (some (.int (an_pitch S x w))) (wX cI ad F' A')) : T_X_pitch cI tv [.ref (ad 0), .int x, .int w] (wX cI ad F A) K := by
  refine ⟨q_le0 _ _ rfl, fun G hG => ?_⟩
  have n18 := hw.1
  have hM := wf_M hw
  unfold an_pitch st_pitch at hK
  have out : ¬ inN 128 x → K (some (.int (-2))) (wX cI ad F A) := by
    intro hn
    rw [cif_n hn, cif_n (fun z => hn z.1)] at hK
    exact hK F A hI
  refine sg_X_pitch_0 hG ad F A x w ⟨fun c => out (in_not_neg (by decide) c), fun c => ⟨fun c2 => ?_, fun c2 => out (fun z => c2 ((in_lt (n := 128) (by decide) c).mpr z))⟩⟩
  have hin := (in_lt (n := 128) (by decide) c).mp c2
  obtain ⟨p, hp, rfl⟩ := id hin
  rw [cif_p hin, nI_clamp (show p < 2 ^ 31 by omega)] at hK
  have hR0 : xR S (q_uf F 0 0) A := xR_of1 hI.1 (fun t h1 _ => q_uf_ne (by omega)) (fun _ _ _ => rfl)
  have full : ¬ (¬ w = 0 ∧ njo S) → ¬ F 1 < 18 → K (some (.int (-4))) (wX cI ad F A) := by
    intro h1 h2
    rw [hI.1.1] at h2
    have e : S 7 0 = 18 := by have := nnl (by omega) (by decide) (show ¬ nI (S 7 0) < nI 18 from h2); omega
    rw [cif_n h1, cif_p e, cif_n (fun z => z.2.2 e)] at hK
    exact hK F A hI
  refine ⟨fun c3 => ⟨fun c4 => ?_, fun c4 => full (fun z => z.1 c3) c4⟩, fun c3 => ?_⟩
  · subst c3
    rw [hI.1.1] at c4
    have hs : S 7 0 < 18 := nlt' (by omega) (by decide) (show nI (S 7 0) < nI 18 from c4)
    have hnj : ¬ (¬ (0 : Int32) = 0 ∧ njo S) := fun z => z.1 rfl
    rw [cif_n hnj, cif_n (show ¬ S 7 0 = 18 by omega), cif_p ⟨hin, hnj, by omega⟩, cif_p rfl] at hK
    refine x_putN ad _ A hw hR0 hp hs (wf_M70 hw hs) (fun F' A' h1 h2 => sg_X_pitch_60 hG ad F' A' _ _ _ (hK F' A' ⟨h1, fun z => absurd (h2.trans rfl) z⟩))
  · have join : ∀ s0 : Int32, ((s0 = 0 ∧ njo S) ∨ (¬ s0 = 0 ∧ ¬ njo S)) → G 25 [(0, .ref (ad 0)), (1, .int (nI p)), (2, .int w)] [.int s0] (wX cI ad F A) 0 0 := by
      intro s0 hj
      refine sg_X_pitch_25 hG ad F A _ _ _ ⟨fun d => ?_, fun d => ?_⟩
      · have hnj : ¬ njo S := by
          rcases hj with ⟨z, -⟩ | ⟨-, z⟩
          · exact absurd z d
          · exact z
        have hnj2 : ¬ (¬ w = 0 ∧ njo S) := fun z => hnj z.2
        refine ⟨fun c4 => ?_, fun c4 => full hnj2 c4⟩
        rw [hI.1.1] at c4
        have hs : S 7 0 < 18 := nlt' (by omega) (by decide) (show nI (S 7 0) < nI 18 from c4)
        rw [cif_n hnj2, cif_n (show ¬ S 7 0 = 18 by omega), cif_p ⟨hin, hnj2, by omega⟩, cif_n c3] at hK
        refine x_putJ ad _ A hw hR0 c3 hp hs (fun z => hnj (Or.inl z)) (fun F' A' h1 h2 => sg_X_pitch_60 hG ad F' A' _ _ _ (hK F' A' ⟨h1, fun z => absurd (h2.trans rfl) z⟩))
      · have hnj : njo S := by
          rcases hj with ⟨-, z⟩ | ⟨z, -⟩
          · exact z
          · exact absurd d z
        rw [cif_p (show ¬ w = 0 ∧ njo S from ⟨c3, hnj⟩), cif_n (show ¬ (inN 128 (nI p) ∧ ¬ (¬ w = 0 ∧ njo S) ∧ ¬ S 7 0 = 18) from fun z => z.2.1 ⟨c3, hnj⟩)] at hK
        exact hK F A hI
    refine ⟨q_le0 _ _ rfl, fun G2 hG2 => sg_S_canJoin_0 hG2 ad F A ?_⟩
    rw [hI.1.2.1]
    refine ⟨fun d => join 0 (Or.inl ⟨rfl, Or.inl ?_⟩), fun d => ?_⟩
    · have := nge (by omega) (by decide) (show nI (S 7 1) ≤ nI 0 from d)
      exact hw.2.1.mp (by omega)
    · have hpos := nng (by omega) (by decide) (show ¬ nI (S 7 1) ≤ nI 0 from d)
      have em : nI (S 7 1) - 1 = nI (S 7 1 - 1) := pk_sub (show 1 ≤ S 7 1 from hpos)
      have wm := hw.2.2.1 (S 7 1 - 1) (by omega)
      rw [em, nI_clamp (show S 7 1 - 1 < 2 ^ 31 by omega), (hI.1.2.2.2.2 (S 7 1 - 1) (by omega)).2.1]
      refine ⟨vp_in_nI (by omega) (by decide), fun e => join 0 (Or.inl ⟨rfl, Or.inr ?_⟩), fun e => join 1 (Or.inr ⟨by decide, fun z => ?_⟩)⟩
      · have := nge (by decide) (by omega) (show nI 3 ≤ nI _ from e)
        omega
      · have := nng (by decide) (by omega) (show ¬ nI 3 ≤ nI _ from e)
        rcases z with z | z
        · have := hw.2.1.mpr z
          omega
        · omega
end XS
