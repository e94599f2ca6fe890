/-! the class: intervals, shades, scales -/
section XG2
variable {cI : ClassId} {tv : Nat} {K : q_K}
theorem X_interval (ad : Nat → Nat) (F : Nat → Int32) (A : Nat → Nat → Int32) {S : sc_S} (hw : sc_wf S) (hI : xI S F A) (x y w : Int32) (hK : ∀ F' A', xI S F' A' → K (some (.int (an_interval S x y w))) (wX cI ad F' A')) : T_X_interval cI tv [.ref (ad 0), .int x, .int y, .int w] (wX cI ad F A) K := by
  refine ⟨q_le0 _ _ rfl, fun G hG => ?_⟩
  have n18 := hw.1
  unfold an_interval at hK
  have no : ¬ (inN (S 7 0) x ∧ inN (S 7 0) y) → G 22 [] [] (wX cI ad F A) 0 0 := by
    intro hn
    rw [cif_n hn] at hK
    exact sg_X_interval_22 hG ad F A (hK F A hI)
  refine sg_X_interval_0 hG ad F A x y w (x_has ad F A hw hI.1 (fun i hi e => ?_) (fun hn => ?_))
  · subst e
    refine sg_X_interval_8 hG ad F A _ y w 1 ⟨fun c => absurd c (by decide), fun _ => x_has ad F A hw hI.1 (fun j hj e => ?_) (fun hn => ?_)⟩
    · subst e
      rw [cif_p ⟨⟨i, hi, rfl⟩, ⟨j, hj, rfl⟩⟩, nI_clamp (show i < 2 ^ 31 by omega), nI_clamp (show j < 2 ^ 31 by omega)] at hK
      refine sg_X_interval_19 hG ad F A _ _ w 1 ⟨fun _ => ⟨fun c => ?_, fun c => ⟨fun c2 => ?_, fun c2 => ?_⟩⟩, fun c => absurd c (by decide)⟩
      · rw [cif_n (in_not_neg (by decide) c)] at hK
        exact sg_X_interval_33 hG ad F A (hK F A hI)
      · rw [cif_p ((in_le (n := 1) (by decide) c).mp c2)] at hK
        refine x_meant ad F A hw hI (fun F' A' h1 h2 => ?_)
        have hk := hK F' A' h1
        unfold an_ivl at hk
        have bi := h2.1.2.2.2.2.2 i hi
        have bj := h2.1.2.2.2.2.2 j hj
        have pi := (hw.2.2.2.2.1 i hi).1
        have pj := (hw.2.2.2.2.1 j hj).1
        have vi : vp_in (nI i) 18 := vp_in_nI (by omega) (by decide)
        have vj : vp_in (nI j) 18 := vp_in_nI (by omega) (by decide)
        have hsub : (nI (Mn S 1 j) - nI (Mn S 1 i)).toInt = (Mn S 1 j : Int) - Mn S 1 i := pk_sub_toInt (by omega) (by omega)
        refine sg_X_interval_40 hG ad F' A' (nI i) (nI j) w ?_
        rw [nI_clamp (show i < 2 ^ 31 by omega), nI_clamp (show j < 2 ^ 31 by omega), h2.2.2.2.2.2 i hi, h2.2.2.2.2.2 j hj, (h1.1.2.2.2.1 i hi).1, (h1.1.2.2.2.1 j hj).1, sx_place _ (by omega) _ pi, sx_place _ (by omega) _ pj]
        have far : ¬ (Mn S 1 i ≤ Mn S 1 j + 19 ∧ Mn S 1 j ≤ Mn S 1 i + 19) → G 70 [] [] (wX cI ad F' A') 0 0 := by
          intro hn
          rw [cif_n hn] at hk
          exact sg_X_interval_70 hG ad F' A' hk
        refine ⟨vj, vi, fun c3 => far ?_, fun c3 => ⟨fun c4 => ⟨fun c5 => ⟨vj, vj, vi, vi, ?_⟩, fun c5 => ?_⟩, fun c4 => far ?_⟩⟩
        · rw [Int32.lt_iff_toInt_lt, hsub, show (-19 : Int32).toInt = -19 from rfl] at c3
          omega
        · rw [Int32.lt_iff_toInt_lt, hsub, show (-19 : Int32).toInt = -19 from rfl] at c3
          rw [Int32.le_iff_toInt_le, hsub, show (19 : Int32).toInt = 19 from rfl] at c4
          rw [cif_p (by omega), cif_n c5] at hk
          exact sg_X_interval_118 hG ad F' A' _ _ hk
        · rw [Int32.lt_iff_toInt_lt, hsub, show (-19 : Int32).toInt = -19 from rfl] at c3
          rw [Int32.le_iff_toInt_le, hsub, show (19 : Int32).toInt = 19 from rfl] at c4
          rw [cif_p (by omega), cif_p c5] at hk
          exact hk
        · rw [Int32.le_iff_toInt_le, hsub, show (19 : Int32).toInt = 19 from rfl] at c4
          omega
      · rw [cif_n (fun z => c2 ((in_le (n := 1) (by decide) c).mpr z))] at hK
        exact sg_X_interval_33 hG ad F A (hK F A hI)
    · exact sg_X_interval_19 hG ad F A _ _ w 0 ⟨fun c => absurd rfl c, fun _ => no (fun z => hn z.2)⟩
  · exact sg_X_interval_8 hG ad F A _ y w 0 ⟨fun _ => no (fun z => hn z.1), fun c => absurd rfl c⟩
theorem X_quality (ad : Nat → Nat) (F : Nat → Int32) (A : Nat → Nat → Int32) (v w : Int32) (hK : K (some (.int (an_quality v w))) (wX cI ad F A)) : T_X_quality cI tv [.ref (ad 0), .int v, .int w] (wX cI ad F A) K := by
  refine ⟨q_le0 _ _ rfl, fun G hG => ?_⟩
  unfold an_quality at hK
  refine sg_X_quality_0 hG ad F A v w ⟨fun c => ?_, fun c => ⟨fun c2 => ?_, fun c2 => ⟨fun c3 => ⟨fun c4 => ?_, fun c4 => ⟨fun c5 => ?_, fun c5 => ?_⟩⟩, fun c3 => ?_⟩⟩⟩
  · rw [cif_n (fun z => absurd c (isV_in.mpr z.1))] at hK; exact hK
  · rw [cif_n (fun z => in_not_neg (by decide) c2 z.2)] at hK; exact hK
  · rw [cif_p ⟨isV_in.mp c, (in_le (n := 2) (by decide) c2).mp c3⟩, if_pos c4] at hK; exact hK
  · rw [cif_p ⟨isV_in.mp c, (in_le (n := 2) (by decide) c2).mp c3⟩, if_neg c4, if_pos c5] at hK; exact hK
  · rw [cif_p ⟨isV_in.mp c, (in_le (n := 2) (by decide) c2).mp c3⟩, if_neg c4, if_neg c5] at hK; exact hK
  · rw [cif_n (fun z => c3 ((in_le (n := 2) (by decide) c2).mpr z.2))] at hK; exact hK
theorem X_add (ad : Nat → Nat) (F : Nat → Int32) (A : Nat → Nat → Int32) (v o : Int32) (hK : K (some (.int (an_add v o))) (wX cI ad F A)) : T_X_add cI tv [.ref (ad 0), .int v, .int o] (wX cI ad F A) K := by
  refine ⟨q_le0 _ _ rfl, fun G hG => ?_⟩
  unfold an_add at hK
  refine sg_X_add_0 hG ad F A v o ⟨fun c => ?_, fun c => ⟨fun c2 => ⟨fun c3 => ?_, fun c3 => ?_⟩, fun c2 => ?_⟩⟩
  · rw [cif_n (fun z => absurd c (isV_in.mpr z.1))] at hK; exact hK
  · rw [cif_p ⟨isV_in.mp c, isV_in.mp c2⟩, cif_n (fun z => absurd c3 (isV_in.mpr z))] at hK; exact hK
  · rw [cif_p ⟨isV_in.mp c, isV_in.mp c2⟩, cif_p (isV_in.mp c3)] at hK; exact hK
  · rw [cif_n (fun z => absurd c2 (isV_in.mpr z.2))] at hK; exact hK
theorem X_transpose (ad : Nat → Nat) (F : Nat → Int32) (A : Nat → Nat → Int32) {S : sc_S} (hw : sc_wf S) (hI : xI S F A) (x v w : Int32) (hK : ∀ F' A', xI S F' A' → K (some (.int (an_transpose S x v w))) (wX cI ad F' A')) : T_X_transpose cI tv [.ref (ad 0), .int x, .int v, .int w] (wX cI ad F A) K := by
  refine ⟨q_le0 _ _ rfl, fun G hG => ?_⟩
  have n18 := hw.1
  unfold an_transpose at hK
  refine sg_X_transpose_0 hG ad F A x v w (x_has ad F A hw hI.1 (fun i hi e => ?_) (fun hn => ?_))
  · subst e
    rw [cif_p ⟨i, hi, rfl⟩, nI_clamp (show i < 2 ^ 31 by omega)] at hK
    refine sg_X_transpose_8 hG ad F A _ v w 1 ⟨fun _ => ⟨fun c => ?_, fun c => ⟨fun c2 => ?_, fun c2 => ⟨fun c3 => ?_, fun c3 => ?_⟩⟩⟩, fun c => absurd c (by decide)⟩
    · rw [cif_n (fun z => absurd c (isV_in.mpr z.1))] at hK; exact hK F A hI
    · rw [cif_n (fun z => in_not_neg (by decide) c2 z.2)] at hK; exact hK F A hI
    · rw [cif_p ⟨isV_in.mp c, (in_le (n := 1) (by decide) c2).mp c3⟩] at hK
      refine x_meant ad F A hw hI (fun F' A' h1 h2 => ?_)
      have hk := hK F' A' h1
      unfold an_tr at hk
      have vi : vp_in (nI i) 18 := vp_in_nI (by omega) (by decide)
      refine sg_X_transpose_42 hG ad F' A' (nI i) v w _ ?_
      rw [nI_clamp (show i < 2 ^ 31 by omega), h2.2.2.2.2.2 i hi, (h1.1.2.2.2.1 i hi).1]
      refine ⟨vi, vi, fun d => ?_, fun d => ⟨fun d2 => ?_, fun d2 => ⟨fun d3 => ⟨fun d4 => ?_, fun d4 => ?_⟩, fun d3 => ?_⟩⟩⟩
      · rw [cif_n (fun z => absurd d (isN_in.mpr z.1))] at hk; exact hk
      · rw [cif_n (fun z => in_not_neg (by decide) d2 z.2)] at hk; exact hk
      · rw [cif_p ⟨isN_in.mp d, (in_lt (n := 128) (by decide) d2).mp d3⟩, cif_n d4] at hk; exact hk
      · rw [cif_p ⟨isN_in.mp d, (in_lt (n := 128) (by decide) d2).mp d3⟩, cif_p d4] at hk; exact hk
      · rw [cif_n (fun z => d3 ((in_lt (n := 128) (by decide) d2).mpr z.2))] at hk; exact hk
    · rw [cif_n (fun z => c3 ((in_le (n := 1) (by decide) c2).mpr z.2))] at hK; exact hK F A hI
  · rw [cif_n hn] at hK
    exact sg_X_transpose_8 hG ad F A _ v w 0 ⟨fun c => absurd rfl c, fun _ => hK F A hI⟩
theorem X_micro (ad : Nat → Nat) (F : Nat → Int32) (A : Nat → Nat → Int32) {S : sc_S} (hw : sc_wf S) (hI : xI S F A) (x n b : Int32) (hK : ∀ F' A', xI S F' A' → K (some (.int (an_micro S x n b))) (wX cI ad F' A')) : T_X_micro cI tv [.ref (ad 0), .int x, .int n, .int b] (wX cI ad F A) K := by
  refine ⟨q_le0 _ _ rfl, fun G hG => ?_⟩
  have n18 := hw.1
  unfold an_micro at hK
  refine sg_X_micro_0 hG ad F A x n b (x_has ad F A hw hI.1 (fun i hi e => ?_) (fun hn => ?_))
  · subst e
    rw [cif_p ⟨i, hi, rfl⟩, nI_clamp (show i < 2 ^ 31 by omega)] at hK
    have vi : vp_in (nI i) 18 := vp_in_nI (by omega) (by decide)
    have fin : (¬ n < -6 ∧ ¬ 6 < n ∧ (b = 2 ∨ b = 3)) → T_X_meant cI tv [.ref (ad 0)] (wX cI ad F A) (fun r w1 => G 44 [(0, .ref (ad 0)), (1, .int (nI i)), (2, .int n), (3, .int b)] (r.toList ++ [.int 6]) w1 0 0) := by
      intro hc
      rw [cif_p hc] at hK
      refine x_meant ad F A hw hI (fun F' A' h1 h2 => sg_X_micro_44 hG ad F' A' (nI i) n b 6 ?_)
      rw [nI_clamp (show i < 2 ^ 31 by omega), h2.2.2.2.2.2 i hi]
      refine ⟨vi, ?_, hK F' A' h1⟩
      rcases hc.2.2 with e | e
      · rw [e]; decide
      · rw [e]; decide
    refine sg_X_micro_8 hG ad F A _ n b 1 ⟨fun _ => ⟨fun c => ?_, fun c => ⟨fun c2 => ?_, fun c2 => ⟨fun c3 => fin ⟨c, c2, Or.inl c3⟩, fun c3 => ⟨fun c4 => fin ⟨c, c2, Or.inr c4⟩, fun c4 => ?_⟩⟩⟩⟩, fun c => absurd c (by decide)⟩
    · rw [cif_n (fun z => z.1 c)] at hK; exact hK F A hI
    · rw [cif_n (fun z => z.2.1 c2)] at hK; exact hK F A hI
    · rw [cif_n (fun z => by rcases z.2.2 with q | q; exact c3 q; exact c4 q)] at hK; exact hK F A hI
  · rw [cif_n hn] at hK
    exact sg_X_micro_8 hG ad F A _ n b 0 ⟨fun c => absurd rfl c, fun _ => hK F A hI⟩
theorem X_step (ad : Nat → Nat) (F : Nat → Int32) (A : Nat → Nat → Int32) {x n : Int32} (hn : ¬ n = 0) (hK : K (some (.int (jf_J_floorMod x n))) (wX cI ad F A)) : T_X_step cI tv [.ref (ad 0), .int x, .int n] (wX cI ad F A) K := by
  refine ⟨q_le0 _ _ rfl, fun G hG => ?_⟩
  exact sg_X_step_0 hG ad F A x n ⟨fun _ => ⟨hn, hK⟩, fun c => absurd c hn⟩
theorem X_equal (ad : Nat → Nat) (F : Nat → Int32) (A : Nat → Nat → Int32) (x y : Int32) (hK : K (some (.int (an_equal x y))) (wX cI ad F A)) : T_X_equal cI tv [.ref (ad 0), .int x, .int y] (wX cI ad F A) K := by
  refine ⟨q_le0 _ _ rfl, fun G hG => ?_⟩
  unfold an_equal at hK
  refine sg_X_equal_0 hG ad F A x y ⟨fun c => ?_, fun c => ⟨fun c2 => ⟨fun c3 => ⟨fun c4 => ?_, fun c4 => ?_⟩, fun c3 => ?_⟩, fun c2 => ?_⟩⟩
  · rw [cif_n (fun z => absurd c (isN_in.mpr z.1))] at hK; exact hK
  · rw [cif_p ⟨isN_in.mp c, isN_in.mp c2⟩, cif_n c3, cif_n c4] at hK; exact hK
  · rw [cif_p ⟨isN_in.mp c, isN_in.mp c2⟩, cif_n c3, cif_p c4] at hK; exact hK
  · rw [cif_p ⟨isN_in.mp c, isN_in.mp c2⟩, cif_p c3] at hK; exact hK
  · rw [cif_n (fun z => absurd c2 (isN_in.mpr z.2))] at hK; exact hK
theorem X_scale (ad : Nat → Nat) (F : Nat → Int32) (A : Nat → Nat → Int32) (k l : Int32) (hK : K (some (.int (an_scale k l))) (wX cI ad F A)) : T_X_scale cI tv [.ref (ad 0), .int k, .int l] (wX cI ad F A) K := by
  refine ⟨q_le0 _ _ rfl, fun G hG => ?_⟩
  unfold an_scale at hK
  refine sg_X_scale_0 hG ad F A k l ⟨fun c => ?_, fun c => ⟨fun c2 => ?_, fun c2 => ⟨fun c3 => ?_, fun c3 => ⟨fun c4 => ?_, fun c4 => ?_⟩⟩⟩⟩
  · rw [cif_n (fun z => in_not_neg (by decide) c z.1)] at hK; exact hK
  · rw [cif_n (fun z => (in_ge (n := 15) (by decide) c).mp c2 z.1)] at hK; exact hK
  · rw [cif_n (fun z => in_not_neg (by decide) c3 z.2)] at hK; exact hK
  · rw [cif_p ⟨Classical.byContradiction (fun q => c2 ((in_ge (n := 15) (by decide) c).mpr q)), (in_lt (n := 7) (by decide) c3).mp c4⟩] at hK; exact hK
  · rw [cif_n (fun z => c4 ((in_lt (n := 7) (by decide) c3).mpr z.2))] at hK; exact hK
end XG2
