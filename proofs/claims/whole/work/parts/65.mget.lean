/-! the model: the calls that ask -/
theorem mV_in {x : Int32} : ¬ jf_M_isInterval x = 0 ↔ inN 39 x := isV_in
theorem mN_in {x : Int32} : ¬ jf_M_isName x = 0 ↔ inN 35 x := by
  unfold jf_M_isName
  by_cases h : x < 0
  · rw [if_pos h]; exact ⟨fun c => absurd rfl c, fun c => absurd c (in_not_neg (by decide) h)⟩
  · obtain ⟨j, hj, rfl⟩ := nI_nonneg h
    rw [if_neg h, in_nI (by decide) hj]
    by_cases h2 : (34 : Int32) < nI j
    · rw [if_pos h2]
      have := nlt' (by decide) hj (show nI 34 < nI j from h2)
      exact ⟨fun c => absurd rfl c, fun c => by omega⟩
    · rw [if_neg h2]
      have := nnl (by decide) hj (show ¬ nI 34 < nI j from h2)
      exact ⟨fun _ => by omega, fun _ => by decide⟩
theorem in_gt {n : Nat} {x : Int32} (hn : n + 1 < 2 ^ 31) (h : ¬ x < 0) : nI n < x ↔ ¬ inN (n + 1) x := by
  obtain ⟨j, hj, rfl⟩ := nI_nonneg h
  rw [in_nI hn hj, nI_ltI (by omega) hj]
  omega
theorem sm_signs2 : ∀ n, n < 35 → jf_M_signsOf (nI n) + 2 = nI (n / 7) := by decide +kernel
theorem sm_steps : ∀ v, v < 39 → jf_M_stepsOf (nI v) = jf_X_stepsOf (nI v - 19) := by decide +kernel
theorem sm_halves : ∀ v, v < 39 → jf_M_halvesOf (nI v) = jf_X_halvesOf (nI v - 19) := by decide +kernel
def m_sort (x : Int32) (a : Int32) : Int32 := if 1 < jf_M_size (x - 19) then (if 5 < jf_M_size (x - 19) then (if 12 < jf_M_size (x - 19) then (if a = 0 then 6 else 5) else (if a = 0 then 4 else 3)) else (if a = 0 then 2 else 1)) else 0
theorem sm_sort : ∀ v, v < 39 → m_sort (nI v) (if nI v < 19 then 0 else 1) = jf_X_sortOf (nI v - 19) := by decide +kernel
theorem sm_steps2 : ∀ a, a < 35 → ∀ b, b < 35 → jf_M_stepsOf (nI b - nI a + 19) = jf_X_stepsOf (nI b - nI a) := by decide +kernel
theorem sm_steps3 : ∀ a, a < 35 → ∀ b, b < 35 → jf_X_stepsOf (nI b - nI a) = iI ((sc_let b : Int) - sc_let a) ∨ jf_X_stepsOf (nI b - nI a) = iI ((sc_let b : Int) - sc_let a + 7) := by decide +kernel
theorem sm_oct : ∀ n, n < 35 → ∀ p, p < 128 → sc_oct n p < 13 := by decide +kernel
theorem sm_fd : ∀ k : Nat, k < 28 → jf_J_floorDiv (iI (7 * ((k : Int) - 14))) 7 = iI (7 * ((k : Int) - 14)) / 7 := by decide +kernel
theorem sm_ivl {a b p q : Nat} (ha : a < 35) (hb : b < 35) (hp : p < 128) (hq : q < 128) : (nI (sc_plc b q) - nI (sc_plc a p) - jf_X_stepsOf (nI b - nI a)) / 7 = jf_J_floorDiv (nI (sc_plc b q) - nI (sc_plc a p) - jf_X_stepsOf (nI b - nI a)) 7 := by
  have o1 := sm_oct a ha p hp
  have o2 := sm_oct b hb q hq
  have e : ∃ k : Nat, k < 28 ∧ nI (sc_plc b q) - nI (sc_plc a p) - jf_X_stepsOf (nI b - nI a) = iI (7 * ((k : Int) - 14)) := by
    rw [iI_nat (sc_plc b q), iI_nat (sc_plc a p), iI_sub]
    unfold sc_plc
    rcases sm_steps3 a ha b hb with h | h
    · rw [h, iI_sub]
      exact ⟨sc_oct b q + 14 - sc_oct a p, by omega, congrArg iI (by omega)⟩
    · rw [h, iI_sub]
      exact ⟨sc_oct b q + 13 - sc_oct a p, by omega, congrArg iI (by omega)⟩
  obtain ⟨k, hk, e⟩ := e
  rw [e, sm_fd k hk]
def m_mic (b t : Int32) : Nat → Int32 → Int32 → Int32
  | 0, g, _ => g + 9
  | d + 1, g, i => if jf_M_size (b * g - t) ≤ jf_M_size (b * i - t) then m_mic b t d g (i + 1) else m_mic b t d i (i + 1)
theorem sm_mic2 : ∀ s, s < 5 → ∀ e, e < 13 → m_mic 2 (6 * iI ((s : Nat) - 2) + (nI e - 6)) 19 (-9) (-9) = 9 - jf_J_floorDiv (2 - 2 * (6 * iI ((s : Nat) - 2) + (nI e - 6))) (2 * 2) := by decide +kernel
theorem sm_mic3 : ∀ s, s < 5 → ∀ e, e < 13 → m_mic 3 (6 * iI ((s : Nat) - 2) + (nI e - 6)) 19 (-9) (-9) = 9 - jf_J_floorDiv (3 - 2 * (6 * iI ((s : Nat) - 2) + (nI e - 6))) (2 * 3) := by decide +kernel
theorem m_9 : ∀ k, k < 20 → (nI k - 9) + 1 = nI (k + 1) - 9 ∧ (k < 19 → ¬ 9 < nI k - 9) ∧ (k = 19 → 9 < nI k - 9) := by decide +kernel
theorem n_13 {n : Int32} (h1 : ¬ n < -6) (h2 : ¬ 6 < n) : ∃ e, e < 13 ∧ n = nI e - 6 := by
  rw [Int32.lt_iff_toInt_lt, show (-6 : Int32).toInt = -6 from rfl] at h1
  rw [Int32.lt_iff_toInt_lt, show (6 : Int32).toInt = 6 from rfl] at h2
  refine ⟨(n.toInt + 6).toNat, by omega, ?_⟩
  rw [iI_nat, show (6 : Int32) = iI 6 from rfl, iI_sub, show (((n.toInt + 6).toNat : Nat) : Int) - 6 = n.toInt by omega]
  exact iI_of n
def m_scl (l : Int32) : Nat → Int32 → Int32
  | 0, _ => -99
  | d + 1, x => if jf_M_letterOf x = l then jf_M_signsOf x + 2 else m_scl l d (x + 1)
theorem sm_scl : ∀ k, k < 15 → ∀ l, l < 7 → m_scl (nI l) 7 (nI k + 7) = jf_X_signsOf (nI k + 7 + jf_J_floorMod (2 * (nI l - jf_X_letterOf (nI k + 7))) 7) + 2 ∧ ¬ m_scl (nI l) 7 (nI k + 7) = -99 := by decide +kernel
section MG
variable {cI : ClassId} {tv : Nat} {K : q_K}
theorem M_thrown (ad : Nat → Nat) (F : Nat → Int32) (A : Nat → Nat → Int32) (hK : K (some (.int (F 0))) (wM cI ad F A)) : T_M_thrown cI tv [.ref (ad 0)] (wM cI ad F A) K := ⟨q_le0 _ _ rfl, fun G hG => sg_M_thrown_0 hG ad F A hK⟩
theorem M_sum (ad : Nat → Nat) (F : Nat → Int32) (A : Nat → Nat → Int32) {S : sc_S} (hw : sc_wf S) (hI : mI S F A) (hK : ∀ F' A', mI S F' A' → F' 0 = 0 → K (some (.int (nI (Mn S 0 0)))) (wM cI ad F' A')) : T_M_sum cI tv [.ref (ad 0)] (wM cI ad F A) K := by
  refine ⟨q_le0 _ _ rfl, fun G hG => ?_⟩
  refine sg_M_sum_0 hG ad F A (m_known ad _ A hw (mI_0 hI 0) (fun F' A' h1 h2 h3 => sg_M_sum_9 hG ad F' A' ?_))
  rw [h2.2.1]; exact hK F' A' h1 h3
theorem M_signs (ad : Nat → Nat) (F : Nat → Int32) (A : Nat → Nat → Int32) {S : sc_S} (hw : sc_wf S) (hI : mI S F A) (hK : ∀ F' A', mI S F' A' → F' 0 = 0 → K (some (.int (nI (Mn S 0 1)))) (wM cI ad F' A')) : T_M_signs cI tv [.ref (ad 0)] (wM cI ad F A) K := by
  refine ⟨q_le0 _ _ rfl, fun G hG => ?_⟩
  refine sg_M_signs_0 hG ad F A (m_known ad _ A hw (mI_0 hI 0) (fun F' A' h1 h2 h3 => sg_M_signs_9 hG ad F' A' ?_))
  rw [h2.2.2.1]; exact hK F' A' h1 h3
theorem M_ties (ad : Nat → Nat) (F : Nat → Int32) (A : Nat → Nat → Int32) {S : sc_S} (hw : sc_wf S) (hI : mI S F A) (hK : ∀ F' A', mI S F' A' → F' 0 = 0 → K (some (.int (nI (Mn S 0 2)))) (wM cI ad F' A')) : T_M_ties cI tv [.ref (ad 0)] (wM cI ad F A) K := by
  refine ⟨q_le0 _ _ rfl, fun G hG => ?_⟩
  refine sg_M_ties_0 hG ad F A (m_known ad _ A hw (mI_0 hI 0) (fun F' A' h1 h2 h3 => sg_M_ties_9 hG ad F' A' ?_))
  rw [h2.2.2.2.1]; exact hK F' A' h1 h3
theorem M_name (ad : Nat → Nat) (F : Nat → Int32) (A : Nat → Nat → Int32) {S : sc_S} (hw : sc_wf S) (hI : mI S F A) (x w : Int32) (hK : ∀ F' A', mI S F' A' → F' 0 = 0 → K (some (.int (an_name S x w))) (wM cI ad F' A')) : T_M_name cI tv [.ref (ad 0), .int x, .int w] (wM cI ad F A) K := by
  refine ⟨q_le0 _ _ rfl, fun G hG => ?_⟩
  have n18 := hw.1
  have hI0 := mI_0 hI 0
  refine sg_M_name_0 hG ad F A x w (m_has ad _ A hw hI0.1 (fun i hi e => ?_) (fun hn => ?_))
  · subst e
    have hin : inN (S 7 0) (nI i) := ⟨i, hi, rfl⟩
    unfold an_name at hK
    rw [cif_p hin, nI_clamp (show i < 2 ^ 31 by omega)] at hK
    have hv : vp_in (nI i) 18 := vp_in_nI (by omega) (by decide)
    refine sg_M_name_10 hG ad _ A _ w 1 ⟨fun _ => ⟨fun c => ?_, fun c => ⟨fun c2 => ?_, fun c2 => ?_⟩⟩, fun c => absurd c (by decide)⟩
    · rw [cif_n (in_not_neg (by decide) c)] at hK; exact hK _ A hI0 rfl
    · rw [cif_p ((in_le (by decide) c).mp (show w ≤ nI 3 from c2))] at hK
      refine m_known ad _ A hw hI0 (fun F' A' h1 h2 h3 => ?_)
      have b := h2.1.2.2.2.2.2 i hi
      have e20 := h2.2.2.2.2.2 i hi
      have e1 := (h1.1.2.2.2.1 i hi).1
      have hp := (hw.2.2.2.2.1 i hi).1
      refine sg_M_name_31 hG ad F' A' (nI i) w ?_
      rw [nI_clamp (show i < 2 ^ 31 by omega), e20, e1, sm_octave _ b _ hp, sm_letter _ b, sm_signs2 _ b]
      have hk := hK F' A' h1 h3
      unfold an_nm at hk
      refine ⟨hv, fun c3 => ⟨fun c4 => ⟨fun c5 => ⟨hv, ?_⟩, fun c5 => ?_⟩, fun c4 => ?_⟩, fun c3 => ?_⟩
      · rw [if_neg c3, if_neg c4, if_neg c5] at hk; exact hk
      · rw [if_neg c3, if_neg c4, if_pos c5] at hk; exact hk
      · rw [if_neg c3, if_pos c4] at hk; exact hk
      · rw [if_pos c3] at hk; exact hk
    · rw [cif_n (fun z => c2 ((in_le (n := 3) (by decide) c).mpr z))] at hK; exact hK _ A hI0 rfl
  · unfold an_name at hK
    rw [cif_n hn] at hK
    exact sg_M_name_10 hG ad _ A _ w 0 ⟨fun c => absurd rfl c, fun _ => hK _ A hI0 rfl⟩
theorem M_keyOf (ad : Nat → Nat) (F : Nat → Int32) (A : Nat → Nat → Int32) {S : sc_S} (hw : sc_wf S) (hI : mI S F A) (x : Int32) (hK : ∀ F' A', mI S F' A' → F' 0 = 0 → K (some (.int (an_keyOf S x))) (wM cI ad F' A')) : T_M_keyOf cI tv [.ref (ad 0), .int x] (wM cI ad F A) K := by
  refine ⟨q_le0 _ _ rfl, fun G hG => ?_⟩
  have n18 := hw.1
  have hM := wf_M hw
  have hI0 := mI_0 hI 0
  unfold an_keyOf at hK
  refine sg_M_keyOf_0 hG ad F A x (m_has ad _ A hw hI0.1 (fun i hi e => ?_) (fun hn => ?_))
  · subst e
    rw [cif_p ⟨i, hi, rfl⟩, nI_clamp (show i < 2 ^ 31 by omega)] at hK
    refine sg_M_keyOf_10 hG ad _ A _ 1 ⟨fun _ => m_known ad _ A hw hI0 (fun F' A' h1 h2 h3 => ?_), fun c => absurd c (by decide)⟩
    have hm := (hw.2.2.2.2.1 i hi).2.2.1
    refine sg_M_keyOf_19 hG ad F' A' (nI i) ?_
    rw [nI_clamp (show i < 2 ^ 31 by omega), (h1.1.2.2.2.1 i hi).2.1, nI_clamp (show S 2 i < 2 ^ 31 by omega), h2.2.2.2.2.1 _ hm]
    exact ⟨vp_in_nI (by omega) (by decide), vp_in_nI (by omega) (by decide), hK F' A' h1 h3⟩
  · rw [cif_n hn] at hK
    exact sg_M_keyOf_10 hG ad _ A _ 0 ⟨fun c => absurd rfl c, fun _ => hK _ A hI0 rfl⟩
theorem m_isTurn (ad : Nat → Nat) (F : Nat → Int32) (A : Nat → Nat → Int32) {S : sc_S} (hw : sc_wf S) (h : mM S F A) {m : Nat} (h1 : 1 ≤ m) (hm : m < S 7 1) (ht : tu S m → K (some (.int 1)) (wM cI ad F A)) (hf : ¬ tu S m → K (some (.int 0)) (wM cI ad F A)) : T_M_isTurn cI tv [.ref (ad 0), .int (nI m)] (wM cI ad F A) K := by
  refine ⟨q_le0 _ _ rfl, fun G hG => ?_⟩
  have hM := wf_M hw
  have em : nI m - 1 = nI (m - 1) := pk_sub (show 1 ≤ m from h1)
  have b1 := h.1.2.2.2.2.1 m hm
  have b0 := h.1.2.2.2.2.1 (m - 1) (by omega)
  refine sg_M_isTurn_0 hG ad F A (nI m) ?_
  rw [em, nI_clamp (show m - 1 < 2 ^ 31 by omega), nI_clamp (show m < 2 ^ 31 by omega), h.2.2.2.2.1 m hm, h.2.2.2.2.1 (m - 1) (by omega), sm_sized _ (by omega) _ (by omega)]
  have sym : sc_dist (Mn S 2 m) (Mn S 2 (m - 1)) = sc_dist (Mn S 2 (m - 1)) (Mn S 2 m) := by
    unfold sc_dist
    by_cases q : Mn S 2 m ≤ Mn S 2 (m - 1)
    · rw [if_pos q]
      by_cases q2 : Mn S 2 (m - 1) ≤ Mn S 2 m
      · rw [if_pos q2]; omega
      · rw [if_neg q2]
    · rw [if_neg q, if_pos (by omega)]
  rw [sym]
  have bd : sc_dist (Mn S 2 (m - 1)) (Mn S 2 m) < 15 := by
    unfold sc_dist
    split <;> omega
  refine ⟨vp_in_nI (by omega) (by decide), vp_in_nI (by omega) (by decide), fun c => hf (fun q => c (congrArg nI q)), fun c => ht (neq (by omega) (by decide) (show nI _ = nI 12 from c))⟩
theorem M_turned (ad : Nat → Nat) (F : Nat → Int32) (A : Nat → Nat → Int32) {S : sc_S} (hw : sc_wf S) (hI : mI S F A) (hK : ∀ F' A', mI S F' A' → F' 0 = 0 → K (some (.int (nI (tnl S (S 7 1 - 1) 1 0)))) (wM cI ad F' A')) : T_M_turned cI tv [.ref (ad 0)] (wM cI ad F A) K := by
  refine ⟨q_le0 _ _ rfl, fun G hG => ?_⟩
  have hM := wf_M hw
  refine sg_M_turned_0 hG ad F A (m_known ad _ A hw (mI_0 hI 0) (fun F' A' h1 h2 h3 => sg_M_turned_9 hG ad F' A' ?_))
  have loop : ∀ (d m c : Nat), m + d = S 7 1 ∨ (d = 0 ∧ S 7 1 ≤ m) → 1 ≤ m → m ≤ 18 → tnl S d m c = tnl S (S 7 1 - 1) 1 0 → G 13 [(0, .ref (ad 0)), (1, .int (nI c)), (2, .int (nI m))] [] (wM cI ad F' A') 0 0 := by
    intro d
    induction d with
    | zero =>
      intro m c hd h1m h18 he
      refine sg_M_turned_13 hG ad F' A' _ _ ⟨fun _ => ?_, fun z => ?_⟩
      · have := hK F' A' h1 h3
        rw [← he] at this
        exact this
      · rw [h1.1.2.1] at z
        exact absurd (nI_le (by omega) (by omega)) z
    | succ d ih =>
      intro m c hd h1m h18 he
      have hm : m < S 7 1 := by omega
      have he' : tnl S d (m + 1) (cif (tu S m) (c + 1) c) = tnl S (S 7 1 - 1) 1 0 := he
      refine sg_M_turned_13 hG ad F' A' _ _ ⟨fun z => ?_, fun _ => m_isTurn ad F' A' hw h2 h1m hm (fun ht => ?_) (fun ht => ?_)⟩
      · rw [h1.1.2.1] at z
        exact absurd (nge (by omega) (by omega) z) (by omega)
      · rw [cif_p ht] at he'
        refine sg_M_turned_27 hG ad F' A' _ _ 1 _ ⟨fun z => absurd z (by decide), fun _ => ?_⟩
        rw [show nI m + 1 = nI (m + 1) from nI_1 m, show nI c + 1 = nI (c + 1) from nI_1 c]
        exact ih (m + 1) (c + 1) (by omega) (by omega) (by omega) he'
      · rw [cif_n ht] at he'
        refine sg_M_turned_27 hG ad F' A' _ _ 0 _ ⟨fun _ => ?_, fun z => absurd rfl z⟩
        rw [show nI m + 1 = nI (m + 1) from nI_1 m, show nI c + 0 = nI c from Int32.add_zero _]
        exact ih (m + 1) c (by omega) (by omega) (by omega) he'
  exact loop (S 7 1 - 1) 1 0 (by omega) (by decide) (by decide) rfl
theorem M_turn (ad : Nat → Nat) (F : Nat → Int32) (A : Nat → Nat → Int32) {S : sc_S} (hw : sc_wf S) (hI : mI S F A) (x : Int32) (hK : ∀ F' A', mI S F' A' → F' 0 = 0 → K (some (.int (tfl S x (S 7 1 - 1) 1 0))) (wM cI ad F' A')) : T_M_turn cI tv [.ref (ad 0), .int x] (wM cI ad F A) K := by
  refine ⟨q_le0 _ _ rfl, fun G hG => ?_⟩
  have hM := wf_M hw
  refine sg_M_turn_0 hG ad F A x (m_known ad _ A hw (mI_0 hI 0) (fun F' A' h1 h2 h3 => sg_M_turn_9 hG ad F' A' x ?_))
  have loop : ∀ (d m c : Nat), m + d = S 7 1 ∨ (d = 0 ∧ S 7 1 ≤ m) → 1 ≤ m → m ≤ 18 → tfl S x d m c = tfl S x (S 7 1 - 1) 1 0 → G 13 [(0, .ref (ad 0)), (1, .int x), (2, .int (nI c)), (3, .int (nI m))] [] (wM cI ad F' A') 0 0 := by
    intro d
    induction d with
    | zero =>
      intro m c hd h1m h18 he
      refine sg_M_turn_13 hG ad F' A' _ _ _ ⟨fun _ => ?_, fun z => ?_⟩
      · have := hK F' A' h1 h3
        rw [← he] at this
        exact this
      · rw [h1.1.2.1] at z
        exact absurd (nI_le (by omega) (by omega)) z
    | succ d ih =>
      intro m c hd h1m h18 he
      have hm : m < S 7 1 := by omega
      have he' : cif (tu S m) (cif (nI c = x) (nI m) (tfl S x d (m + 1) (c + 1))) (tfl S x d (m + 1) c) = tfl S x (S 7 1 - 1) 1 0 := he
      refine sg_M_turn_13 hG ad F' A' _ _ _ ⟨fun z => ?_, fun _ => m_isTurn ad F' A' hw h2 h1m hm (fun ht => ?_) (fun ht => ?_)⟩
      · rw [h1.1.2.1] at z
        exact absurd (nge (by omega) (by omega) z) (by omega)
      · rw [cif_p ht] at he'
        refine sg_M_turn_26 hG ad F' A' _ _ _ 1 ⟨fun z => absurd z (by decide), fun _ => ⟨fun y => ?_, fun y => ?_⟩⟩
        · rw [cif_n y] at he'
          rw [show nI m + 1 = nI (m + 1) from nI_1 m, show nI c + 1 = nI (c + 1) from nI_1 c]
          exact ih (m + 1) (c + 1) (by omega) (by omega) (by omega) he'
        · rw [cif_p y] at he'
          rw [he']
          exact hK F' A' h1 h3
      · rw [cif_n ht] at he'
        refine sg_M_turn_26 hG ad F' A' _ _ _ 0 ⟨fun _ => ?_, fun z => absurd rfl z⟩
        rw [show nI m + 1 = nI (m + 1) from nI_1 m]
        exact ih (m + 1) c (by omega) (by omega) (by omega) he'
  exact loop (S 7 1 - 1) 1 0 (by omega) (by decide) (by decide) rfl
end MG
