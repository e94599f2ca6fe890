/-! the class: the calls that ask -/
noncomputable def an_nm (S : sc_S) (i : Nat) (w : Int32) : Int32 := if w = 0 then nI (Mn S 1 i) else if w = 1 then nI (sc_let (Mn S 1 i)) else if w = 2 then nI (Mn S 1 i / 7) else nI (sc_oct (Mn S 1 i) (S 0 i))
noncomputable def an_name (S : sc_S) (x w : Int32) : Int32 := cif (inN (S 7 0) x) (cif (inN 4 w) (an_nm S x.toNatClampNeg w) (-2)) (-1)
noncomputable def an_keyOf (S : sc_S) (x : Int32) : Int32 := cif (inN (S 7 0) x) (nI (Mn S 2 (S 2 x.toNatClampNeg))) (-1)
/-- is MOMENT m a TURN -/
noncomputable def tu (S : sc_S) (m : Nat) : Prop := sc_dist (Mn S 2 (m - 1)) (Mn S 2 m) = 12
noncomputable def tnl (S : sc_S) : Nat → Nat → Nat → Nat
  | 0, _, c => c
  | d + 1, m, c => tnl S d (m + 1) (cif (tu S m) (c + 1) c)
noncomputable def tfl (S : sc_S) (x : Int32) : Nat → Nat → Nat → Int32
  | 0, _, _ => -1
  | d + 1, m, c => cif (tu S m) (cif (nI c = x) (nI m) (tfl S x d (m + 1) (c + 1))) (tfl S x d (m + 1) c)
noncomputable def an_ivl (S : sc_S) (a b : Nat) (w : Int32) : Int32 := cif (Mn S 1 a ≤ Mn S 1 b + 19 ∧ Mn S 1 b ≤ Mn S 1 a + 19) (cif (w = 0) (nI (Mn S 1 b) - nI (Mn S 1 a) + 19) (jf_J_floorDiv (nI (sc_plc (Mn S 1 b) (S 0 b)) - nI (sc_plc (Mn S 1 a) (S 0 a)) - jf_X_stepsOf (nI (Mn S 1 b) - nI (Mn S 1 a))) 7 + 12)) (-3)
noncomputable def an_interval (S : sc_S) (x y w : Int32) : Int32 := cif (inN (S 7 0) x ∧ inN (S 7 0) y) (cif (inN 2 w) (an_ivl S x.toNatClampNeg y.toNatClampNeg w) (-2)) (-1)
noncomputable def an_quality (v w : Int32) : Int32 := cif (inN 39 v ∧ inN 3 w) (if w = 0 then jf_X_stepsOf (v - 19) else if w = 1 then jf_X_halvesOf (v - 19) + 2 else jf_X_sortOf (v - 19)) (-2)
noncomputable def an_add (v o : Int32) : Int32 := cif (inN 39 v ∧ inN 39 o) (cif (inN 39 (v + o - 19)) (v + o - 19) (-3)) (-2)
noncomputable def an_tr (S : sc_S) (i : Nat) (v w : Int32) : Int32 := cif (inN 35 (nI (Mn S 1 i) + (v - 19)) ∧ inN 128 (nI (S 0 i) + jf_X_halvesOf (v - 19))) (cif (w = 0) (nI (Mn S 1 i) + (v - 19)) (nI (S 0 i) + jf_X_halvesOf (v - 19))) (-3)
noncomputable def an_transpose (S : sc_S) (x v w : Int32) : Int32 := cif (inN (S 7 0) x) (cif (inN 39 v ∧ inN 2 w) (an_tr S x.toNatClampNeg v w) (-2)) (-1)
noncomputable def an_micro (S : sc_S) (x n b : Int32) : Int32 := cif (inN (S 7 0) x) (cif (¬ n < -6 ∧ ¬ 6 < n ∧ (b = 2 ∨ b = 3)) (9 - jf_J_floorDiv (b - 2 * (6 * jf_X_signsOf (nI (Mn S 1 x.toNatClampNeg)) + n)) (2 * b)) (-2)) (-1)
noncomputable def an_equal (x y : Int32) : Int32 := cif (inN 35 x ∧ inN 35 y) (cif (x = y) 2 (cif (x - y - (x - y) / 12 * 12 = 0) 1 0)) (-2)
noncomputable def an_scale (k l : Int32) : Int32 := cif (inN 15 k ∧ inN 7 l) (jf_X_signsOf (k + 7 + jf_J_floorMod (2 * (l - jf_X_letterOf (k + 7))) 7) + 2) (-2)
theorem isN_in {x : Int32} : ¬ jf_X_isName x = 0 ↔ inN 35 x := by
  unfold jf_X_isName
  by_cases h : x < 0
  · rw [if_pos h]; exact ⟨fun c => absurd rfl c, fun c => absurd c (in_not_neg (by decide) h)⟩
  · obtain ⟨j, hj, rfl⟩ := nI_nonneg h
    rw [if_neg h, in_nI (by decide) hj]
    by_cases h2 : (35 : Int32) ≤ nI j
    · rw [if_pos h2]
      have := nge (by decide) hj (show nI 35 ≤ nI j from h2)
      exact ⟨fun c => absurd rfl c, fun c => by omega⟩
    · rw [if_neg h2]
      have := nng (by decide) hj (show ¬ nI 35 ≤ nI j from h2)
      exact ⟨fun _ => this, fun _ => by decide⟩
theorem isV_in {x : Int32} : ¬ jf_X_isInterval x = 0 ↔ inN 39 x := by
  unfold jf_X_isInterval
  by_cases h : x < 0
  · rw [if_pos h]; exact ⟨fun c => absurd rfl c, fun c => absurd c (in_not_neg (by decide) h)⟩
  · obtain ⟨j, hj, rfl⟩ := nI_nonneg h
    rw [if_neg h, in_nI (by decide) hj]
    by_cases h2 : (38 : Int32) < nI j
    · rw [if_pos h2]
      have := nlt' (by decide) hj (show nI 38 < nI j from h2)
      exact ⟨fun c => absurd rfl c, fun c => by omega⟩
    · rw [if_neg h2]
      have := nnl (by decide) hj (show ¬ nI 38 < nI j from h2)
      exact ⟨fun _ => by omega, fun _ => by decide⟩
theorem in_le {n : Nat} {x : Int32} (hn : n + 1 < 2 ^ 31) (h : ¬ x < 0) : x ≤ nI n ↔ inN (n + 1) x := by
  obtain ⟨j, hj, rfl⟩ := nI_nonneg h
  rw [in_nI hn hj, nI_leI hj (by omega)]
  omega
theorem in_lt {n : Nat} {x : Int32} (hn : n < 2 ^ 31) (h : ¬ x < 0) : x < nI n ↔ inN n x := by
  obtain ⟨j, hj, rfl⟩ := nI_nonneg h
  rw [in_nI hn hj, nI_ltI hj hn]
theorem in_ge {n : Nat} {x : Int32} (hn : n < 2 ^ 31) (h : ¬ x < 0) : nI n ≤ x ↔ ¬ inN n x := by
  obtain ⟨j, hj, rfl⟩ := nI_nonneg h
  rw [in_nI hn hj, nI_leI hn hj]
  omega
theorem sx_signs2 : ∀ n, n < 36 → jf_X_signsOf (nI n) + 2 = nI (n / 7) := by decide +kernel
theorem tu_iff {S : sc_S} {a b : Nat} (ha : a < 15) (hb : b < 15) : jf_X_isTurn (nI a) (nI b) = 0 ↔ ¬ sc_dist a b = 12 := by
  rw [sx_turn a ha b hb]
  by_cases h : sc_dist a b = 12
  · rw [if_pos h]; exact ⟨fun c => absurd c (by decide), fun c => absurd h c⟩
  · rw [if_neg h]; exact ⟨fun _ => h, fun _ => rfl⟩
section XG
variable {cI : ClassId} {tv : Nat} {K : q_K}
theorem X_sum (ad : Nat → Nat) (F : Nat → Int32) (A : Nat → Nat → Int32) {S : sc_S} (hw : sc_wf S) (hI : xI S F A) (hK : ∀ F' A', xI S F' A' → K (some (.int (nI (Mn S 0 0)))) (wX cI ad F' A')) : T_X_sum cI tv [.ref (ad 0)] (wX cI ad F A) K := by
  refine ⟨q_le0 _ _ rfl, fun G hG => ?_⟩
  refine sg_X_sum_0 hG ad F A (x_meant ad F A hw hI (fun F' A' h1 h2 => sg_X_sum_4 hG ad F' A' ?_))
  rw [h2.2.1]; exact hK F' A' h1
theorem X_signs (ad : Nat → Nat) (F : Nat → Int32) (A : Nat → Nat → Int32) {S : sc_S} (hw : sc_wf S) (hI : xI S F A) (hK : ∀ F' A', xI S F' A' → K (some (.int (nI (Mn S 0 1)))) (wX cI ad F' A')) : T_X_signs cI tv [.ref (ad 0)] (wX cI ad F A) K := by
  refine ⟨q_le0 _ _ rfl, fun G hG => ?_⟩
  refine sg_X_signs_0 hG ad F A (x_meant ad F A hw hI (fun F' A' h1 h2 => sg_X_signs_4 hG ad F' A' ?_))
  rw [h2.2.2.1]; exact hK F' A' h1
theorem X_ties (ad : Nat → Nat) (F : Nat → Int32) (A : Nat → Nat → Int32) {S : sc_S} (hw : sc_wf S) (hI : xI S F A) (hK : ∀ F' A', xI S F' A' → K (some (.int (nI (Mn S 0 2)))) (wX cI ad F' A')) : T_X_ties cI tv [.ref (ad 0)] (wX cI ad F A) K := by
  refine ⟨q_le0 _ _ rfl, fun G hG => ?_⟩
  refine sg_X_ties_0 hG ad F A (x_meant ad F A hw hI (fun F' A' h1 h2 => sg_X_ties_4 hG ad F' A' ?_))
  rw [h2.2.2.2.1]; exact hK F' A' h1
theorem X_name (ad : Nat → Nat) (F : Nat → Int32) (A : Nat → Nat → Int32) {S : sc_S} (hw : sc_wf S) (hI : xI S F A) (x w : Int32) (hK : ∀ F' A', xI S F' A' → K (some (.int (an_name S x w))) (wX cI ad F' A')) : T_X_name cI tv [.ref (ad 0), .int x, .int w] (wX cI ad F A) K := by
  refine ⟨q_le0 _ _ rfl, fun G hG => ?_⟩
  have n18 := hw.1
  refine sg_X_name_0 hG ad F A x w (x_has ad F A hw hI.1 (fun i hi e => ?_) (fun hn => ?_))
  · subst e
    have hin : inN (S 7 0) (nI i) := ⟨i, hi, rfl⟩
    unfold an_name at hK
    rw [cif_p hin, nI_clamp (show i < 2 ^ 31 by omega)] at hK
    have hv : vp_in (nI i) 18 := vp_in_nI (by omega) (by decide)
    refine sg_X_name_8 hG ad F A _ w 1 ⟨fun _ => ⟨fun c => ?_, fun c => ⟨fun c2 => ?_, fun c2 => ?_⟩⟩, fun c => absurd c (by decide)⟩
    · rw [cif_n (in_not_neg (by decide) c)] at hK; exact hK F A hI
    · rw [cif_p ((in_le (by decide) c).mp (show w ≤ nI 3 from c2))] at hK
      obtain ⟨j, hj, rfl⟩ := (in_le (n := 3) (by decide) c).mp c2
      refine x_meant ad F A hw hI (fun F' A' h1 h2 => ?_)
      have b := h2.1.2.2.2.2.2 i hi
      have e12 := h2.2.2.2.2.2 i hi
      have e4 := (h1.1.2.2.2.1 i hi).1
      have hp := (hw.2.2.2.2.1 i hi).1
      refine sg_X_name_29 hG ad F' A' (nI i) (nI j) ?_
      rw [nI_clamp (show i < 2 ^ 31 by omega), e12, e4, sx_octave _ (by omega) _ hp, sx_letter _ (by omega), sx_signs2 _ (by omega)]
      have hk := hK F' A' h1
      unfold an_nm at hk
      refine ⟨hv, fun c3 => ⟨hv, ?_⟩, fun c3 => ?_, fun c3 => ?_, fun c3 => ?_⟩
      · rw [show (nI j).toInt = (j : Int) from by rw [iI_nat, iI_toInt (by omega) (by omega)]] at c3
        have ej : j = 3 := by omega
        subst ej
        rw [if_neg (by decide), if_neg (by decide), if_neg (by decide)] at hk
        exact hk
      · rw [if_pos c3] at hk; exact hk
      · rw [c3, if_neg (by decide), if_pos rfl] at hk; exact hk
      · rw [c3, if_neg (by decide), if_neg (by decide), if_pos rfl] at hk; exact hk
    · rw [cif_n (fun z => c2 ((in_le (n := 3) (by decide) c).mpr z))] at hK; exact hK F A hI
  · unfold an_name at hK
    rw [cif_n hn] at hK
    exact sg_X_name_8 hG ad F A _ w 0 ⟨fun c => absurd rfl c, fun _ => hK F A hI⟩
theorem X_keyOf (ad : Nat → Nat) (F : Nat → Int32) (A : Nat → Nat → Int32) {S : sc_S} (hw : sc_wf S) (hI : xI S F A) (x : Int32) (hK : ∀ F' A', xI S F' A' → K (some (.int (an_keyOf S x))) (wX cI ad F' A')) : T_X_keyOf cI tv [.ref (ad 0), .int x] (wX cI ad F A) K := by
  refine ⟨q_le0 _ _ rfl, fun G hG => ?_⟩
  have n18 := hw.1
  have hM := wf_M hw
  unfold an_keyOf at hK
  refine sg_X_keyOf_0 hG ad F A x (x_has ad F A hw hI.1 (fun i hi e => ?_) (fun hn => ?_))
  · subst e
    rw [cif_p ⟨i, hi, rfl⟩, nI_clamp (show i < 2 ^ 31 by omega)] at hK
    refine sg_X_keyOf_8 hG ad F A _ 1 ⟨fun _ => x_meant ad F A hw hI (fun F' A' h1 h2 => ?_), fun c => absurd c (by decide)⟩
    have hm := (hw.2.2.2.2.1 i hi).2.2.1
    refine sg_X_keyOf_17 hG ad F' A' (nI i) ?_
    rw [nI_clamp (show i < 2 ^ 31 by omega), (h1.1.2.2.2.1 i hi).2.2.1, nI_clamp (show S 2 i < 2 ^ 31 by omega), h2.2.2.2.2.1 _ hm]
    exact ⟨vp_in_nI (by omega) (by decide), vp_in_nI (by omega) (by decide), hK F' A' h1⟩
  · rw [cif_n hn] at hK
    exact sg_X_keyOf_8 hG ad F A _ 0 ⟨fun c => absurd rfl c, fun _ => hK F A hI⟩
theorem X_turned (ad : Nat → Nat) (F : Nat → Int32) (A : Nat → Nat → Int32) {S : sc_S} (hw : sc_wf S) (hI : xI S F A) (hK : ∀ F' A', xI S F' A' → K (some (.int (nI (tnl S (S 7 1 - 1) 1 0)))) (wX cI ad F' A')) : T_X_turned cI tv [.ref (ad 0)] (wX cI ad F A) K := by
  refine ⟨q_le0 _ _ rfl, fun G hG => ?_⟩
  have hM := wf_M hw
  refine sg_X_turned_0 hG ad F A (x_meant ad F A hw hI (fun F' A' h1 h2 => sg_X_turned_4 hG ad F' A' ?_))
  have loop : ∀ (d m c : Nat), m + d = S 7 1 ∨ (d = 0 ∧ S 7 1 ≤ m) → 1 ≤ m → m ≤ 18 → tnl S d m c = tnl S (S 7 1 - 1) 1 0 → G 12 [(0, .ref (ad 0)), (1, .ref (ad 13)), (2, .int (nI c)), (3, .int (nI m))] [] (wX cI ad F' A') 0 0 := by
    intro d
    induction d with
    | zero =>
      intro m c hd h1m h18 he
      refine sg_X_turned_12 hG ad F' A' _ _ ⟨fun _ => ?_, fun z => ?_⟩
      · have := hK F' A' h1
        rw [← he] at this
        exact this
      · rw [h1.1.2.1] at z
        exact absurd (nI_le (by omega) (by omega)) z
    | succ d ih =>
      intro m c hd h1m h18 he
      have hm : m < S 7 1 := by omega
      refine sg_X_turned_12 hG ad F' A' _ _ ⟨fun z => ?_, fun _ => ?_⟩
      · rw [h1.1.2.1] at z
        exact absurd (nge (by omega) (by omega) z) (by omega)
      · have em : nI m - 1 = nI (m - 1) := pk_sub (show 1 ≤ m from h1m)
        have b1 := h2.1.2.2.2.2.1 m hm
        have b0 := h2.1.2.2.2.2.1 (m - 1) (by omega)
        rw [em, nI_clamp (show m - 1 < 2 ^ 31 by omega), nI_clamp (show m < 2 ^ 31 by omega), h2.2.2.2.2.1 m hm, h2.2.2.2.2.1 (m - 1) (by omega), show nI m + 1 = nI (m + 1) from nI_1 m, show nI c + 1 = nI (c + 1) from nI_1 c]
        have he' : tnl S d (m + 1) (cif (tu S m) (c + 1) c) = tnl S (S 7 1 - 1) 1 0 := he
        refine ⟨vp_in_nI (by omega) (by decide), vp_in_nI (by omega) (by decide), fun z => ?_, fun z => ?_⟩
        · have hz := (tu_iff (S := S) b0 b1).mp z
          rw [cif_n (show ¬ tu S m from hz)] at he'
          exact ih (m + 1) c (by omega) (by omega) (by omega) he'
        · have hz : tu S m := Classical.byContradiction (fun q => z ((tu_iff (S := S) b0 b1).mpr q))
          rw [cif_p hz] at he'
          exact ih (m + 1) (c + 1) (by omega) (by omega) (by omega) he'
  exact loop (S 7 1 - 1) 1 0 (by omega) (by decide) (by decide) rfl
theorem tfl_neg {S : sc_S} {x : Int32} (h : x < 0) : ∀ (d m c : Nat), c + d < 2 ^ 31 → tfl S x d m c = -1
  | 0, _, _, _ => rfl
  | d + 1, m, c, hc => by
    show cif (tu S m) (cif (nI c = x) (nI m) (tfl S x d (m + 1) (c + 1))) (tfl S x d (m + 1) c) = -1
    have hne : ¬ nI c = x := fun e => by rw [← e] at h; exact nI_neg (by omega) h
    rw [cif_n hne, tfl_neg h d (m + 1) (c + 1) (by omega), tfl_neg h d (m + 1) c (by omega)]
    by_cases t : tu S m
    · rw [cif_p t]
    · rw [cif_n t]
theorem X_turn (ad : Nat → Nat) (F : Nat → Int32) (A : Nat → Nat → Int32) {S : sc_S} (hw : sc_wf S) (hI : xI S F A) (x : Int32) (hK : ∀ F' A', xI S F' A' → K (some (.int (tfl S x (S 7 1 - 1) 1 0))) (wX cI ad F' A')) : T_X_turn cI tv [.ref (ad 0), .int x] (wX cI ad F A) K := by
  refine ⟨q_le0 _ _ rfl, fun G hG => ?_⟩
  have hM := wf_M hw
  refine sg_X_turn_0 hG ad F A x ⟨fun _ => x_meant ad F A hw hI (fun F' A' h1 h2 => sg_X_turn_10 hG ad F' A' x ?_), fun c => ?_⟩
  · have loop : ∀ (d m c : Nat), m + d = S 7 1 ∨ (d = 0 ∧ S 7 1 ≤ m) → 1 ≤ m → m ≤ 18 → tfl S x d m c = tfl S x (S 7 1 - 1) 1 0 → G 19 [(0, .ref (ad 0)), (1, .int x), (2, .ref (ad 13)), (3, .int (nI c)), (4, .int (nI m))] [] (wX cI ad F' A') 0 0 := by
      intro d
      induction d with
      | zero =>
        intro m c hd h1m h18 he
        refine sg_X_turn_19 hG ad F' A' _ _ _ ⟨fun _ => ?_, fun z => ?_⟩
        · have := hK F' A' h1
          rw [← he] at this
          exact this
        · rw [h1.1.2.1] at z
          exact absurd (nI_le (by omega) (by omega)) z
      | succ d ih =>
        intro m c hd h1m h18 he
        have hm : m < S 7 1 := by omega
        refine sg_X_turn_19 hG ad F' A' _ _ _ ⟨fun z => ?_, fun _ => ?_⟩
        · rw [h1.1.2.1] at z
          exact absurd (nge (by omega) (by omega) z) (by omega)
        · have em : nI m - 1 = nI (m - 1) := pk_sub (show 1 ≤ m from h1m)
          have b1 := h2.1.2.2.2.2.1 m hm
          have b0 := h2.1.2.2.2.2.1 (m - 1) (by omega)
          rw [em, nI_clamp (show m - 1 < 2 ^ 31 by omega), nI_clamp (show m < 2 ^ 31 by omega), h2.2.2.2.2.1 m hm, h2.2.2.2.2.1 (m - 1) (by omega), show nI m + 1 = nI (m + 1) from nI_1 m, show nI c + 1 = nI (c + 1) from nI_1 c]
          have he' : cif (tu S m) (cif (nI c = x) (nI m) (tfl S x d (m + 1) (c + 1))) (tfl S x d (m + 1) c) = tfl S x (S 7 1 - 1) 1 0 := he
          refine ⟨vp_in_nI (by omega) (by decide), vp_in_nI (by omega) (by decide), fun z => ?_, fun z => ⟨fun y => ?_, fun y => ?_⟩⟩
          · have hz := (tu_iff (S := S) b0 b1).mp z
            rw [cif_n (show ¬ tu S m from hz)] at he'
            exact ih (m + 1) c (by omega) (by omega) (by omega) he'
          · have hz : tu S m := Classical.byContradiction (fun q => z ((tu_iff (S := S) b0 b1).mpr q))
            rw [cif_p hz, cif_n y] at he'
            exact ih (m + 1) (c + 1) (by omega) (by omega) (by omega) he'
          · have hz : tu S m := Classical.byContradiction (fun q => z ((tu_iff (S := S) b0 b1).mpr q))
            rw [cif_p hz, cif_p y] at he'
            rw [he']
            exact hK F' A' h1
    exact loop (S 7 1 - 1) 1 0 (by omega) (by decide) (by decide) rfl
  · have hneg : x < 0 := by
      rw [Int32.le_iff_toInt_le] at c
      rw [Int32.lt_iff_toInt_lt]
      omega
    rw [tfl_neg hneg _ _ _ (by omega)] at hK
    exact hK F A hI
end XG
