/-! the model: intervals, shades, scales -/
theorem in_2 {w : Int32} : inN 2 w ↔ w = 0 ∨ w = 1 := by
  constructor
  · rintro ⟨j, hj, rfl⟩
    match j, hj with
    | 0, _ => exact Or.inl rfl
    | 1, _ => exact Or.inr rfl
  · rintro (rfl | rfl)
    · exact ⟨0, by decide, rfl⟩
    · exact ⟨1, by decide, rfl⟩
theorem in_iI {n : Nat} {z : Int} (hn : n < 2 ^ 31) (h1 : -2147483648 ≤ z) (h2 : z < 2147483648) : inN n (iI z) ↔ 0 ≤ z ∧ z < n := by
  constructor
  · rintro ⟨j, hj, e⟩
    rw [iI_nat, iI_eqI h1 h2 (by omega) (by omega)] at e
    omega
  · rintro ⟨h3, h4⟩
    refine ⟨z.toNat, by omega, ?_⟩
    rw [iI_nat, show ((z.toNat : Nat) : Int) = z by omega]
theorem sm_add : ∀ v, v < 39 → ∀ o, o < 39 → nI v - 19 + nI o = nI v + nI o - 19 := by decide +kernel
theorem sm_trn : ∀ n, n < 35 → ∀ v, v < 39 → nI n + nI v - 19 = nI n + (nI v - 19) := by decide +kernel
theorem x_xor (x n : Int32) : 0 ≤ x ^^^ n ↔ (x < 0 ↔ n < 0) := by
  rw [Int32.le_iff_toInt_le, Int32.lt_iff_toInt_lt, Int32.lt_iff_toInt_lt, show (0 : Int32).toInt = 0 from rfl]
  have hx : ∀ y : Int32, y.toInt < 0 ↔ y.toBitVec.msb = true := by
    intro y
    rw [BitVec.msb_eq_toInt]
    exact ⟨fun h => decide_eq_true h, fun h => of_decide_eq_true h⟩
  have h0 : 0 ≤ (x ^^^ n).toInt ↔ ¬ (x ^^^ n).toInt < 0 := by omega
  rw [h0, hx, hx, hx, Int32.toBitVec_xor, BitVec.msb_xor]
  cases x.toBitVec.msb <;> cases n.toBitVec.msb <;> decide
theorem x_rem (x n : Int32) (hn : ¬ n = 0) : (x - x / n * n).toInt = x.toInt.tmod n.toInt := by
  have hz : n.toInt ≠ 0 := fun h => hn (Int32.toInt_inj.mp (h.trans rfl))
  rw [Int32.toInt_sub, Int32.toInt_mul, Int32.toInt_div, Int.bmod_mul_bmod, Int.sub_bmod_bmod, show x.toInt - x.toInt.tdiv n.toInt * n.toInt = x.toInt.tmod n.toInt from by rw [Int.tmod_def, Int.mul_comm]]
  have g1 := iI_ge n
  have g2 := iI_le n
  have h1 := Int.tmod_lt_of_pos
  have hb : (x.toInt.tmod n.toInt).natAbs < n.toInt.natAbs := by
    rw [Int.natAbs_tmod]
    exact Nat.mod_lt _ (by omega)
  have e : (2 : Nat) ^ 32 = 4294967296 := rfl
  rw [Int.bmod_eq_of_le (by omega) (by omega)]
theorem x_rem_sign (x n : Int32) (hn : ¬ n = 0) (hr : ¬ x - x / n * n = 0) : x - x / n * n < 0 ↔ x < 0 := by
  have hz : (x - x / n * n).toInt ≠ 0 := fun h => hr (Int32.toInt_inj.mp (h.trans rfl))
  rw [Int32.lt_iff_toInt_lt, Int32.lt_iff_toInt_lt, show (0 : Int32).toInt = 0 from rfl]
  rw [x_rem x n hn] at hz ⊢
  rcases Int.lt_or_le x.toInt 0 with h | h
  · have h2 := Int.tmod_nonneg n.toInt (show 0 ≤ -x.toInt by omega)
    rw [Int.neg_tmod] at h2
    omega
  · have := Int.tmod_nonneg n.toInt h
    omega
section MG2
variable {cI : ClassId} {tv : Nat} {K : q_K}
theorem M_interval (ad : Nat → Nat) (F : Nat → Int32) (A : Nat → Nat → Int32) {S : sc_S} (hw : sc_wf S) (hI : mI S F A) (x y w : Int32) (hK : ∀ F' A', mI S F' A' → F' 0 = 0 → K (some (.int (an_interval S x y w))) (wM cI ad F' A')) : T_M_interval cI tv [.ref (ad 0), .int x, .int y, .int w] (wM cI ad F A) K := by
  refine ⟨q_le0 _ _ rfl, fun G hG => ?_⟩
  have n18 := hw.1
  have hI0 := mI_0 hI 0
  unfold an_interval at hK
  have no : ¬ (inN (S 7 0) x ∧ inN (S 7 0) y) → K (some (.int (-1))) (wM cI ad (q_uf F 0 0) A) := by
    intro hn
    rw [cif_n hn] at hK
    exact hK _ A hI0 rfl
  refine sg_M_interval_0 hG ad F A x y w (m_has ad _ A hw hI0.1 (fun i hi e => ?_) (fun hn => ?_))
  · subst e
    refine sg_M_interval_10 hG ad _ A _ y w 1 ⟨fun c => absurd c (by decide), fun _ => m_has ad _ A hw hI0.1 (fun j hj e => ?_) (fun hn => ?_)⟩
    · subst e
      rw [cif_p ⟨⟨i, hi, rfl⟩, ⟨j, hj, rfl⟩⟩, nI_clamp (show i < 2 ^ 31 by omega), nI_clamp (show j < 2 ^ 31 by omega)] at hK
      have go : (w = 0 ∨ w = 1) → T_M_find cI tv [.ref (ad 0)] (wM cI ad (q_uf F 0 0) A) (fun r w1 => G 39 [(0, .ref (ad 0)), (1, .int (nI i)), (2, .int (nI j)), (3, .int w)] (r.toList ++ []) w1 0 0) := by
        intro hc
        rw [cif_p (in_2.mpr hc)] at hK
        refine m_known ad _ A hw hI0 (fun F' A' h1 h2 h3 => ?_)
        have hk := hK F' A' h1 h3
        unfold an_ivl at hk
        have bi := h2.1.2.2.2.2.2 i hi
        have bj := h2.1.2.2.2.2.2 j hj
        have pi := (hw.2.2.2.2.1 i hi).1
        have pj := (hw.2.2.2.2.1 j hj).1
        have vi : vp_in (nI i) 18 := vp_in_nI (by omega) (by decide)
        have vj : vp_in (nI j) 18 := vp_in_nI (by omega) (by decide)
        refine sg_M_interval_39 hG ad F' A' (nI i) (nI j) w ?_
        rw [nI_clamp (show i < 2 ^ 31 by omega), nI_clamp (show j < 2 ^ 31 by omega), h2.2.2.2.2.2 i hi, h2.2.2.2.2.2 j hj, (h1.1.2.2.2.1 i hi).1, (h1.1.2.2.2.1 j hj).1, sm_place _ bi _ pi, sm_place _ bj _ pj]
        have hin : inN 39 (nI (Mn S 1 j) - nI (Mn S 1 i) + 19) ↔ (Mn S 1 i ≤ Mn S 1 j + 19 ∧ Mn S 1 j ≤ Mn S 1 i + 19) := by
          rw [iI_nat, iI_nat, show (19 : Int32) = iI 19 from rfl, iI_sub, iI_add, in_iI (by decide) (by omega) (by omega)]
          omega
        refine ⟨vj, vi, fun c => ⟨vj, vj, vi, vi, sg_M_interval_101 hG ad F' A' _ _ _ ⟨fun c5 => ?_, fun c5 => ?_⟩⟩, fun c => ?_⟩
        · rw [cif_p (hin.mp (mV_in.mp c)), cif_n c5] at hk
          rw [sm_steps2 _ bi _ bj, sm_ivl bi bj pi pj]
          exact hk
        · rw [cif_p (hin.mp (mV_in.mp c)), cif_p c5] at hk
          exact hk
        · rw [cif_n (fun z => absurd c (mV_in.mpr (hin.mpr z)))] at hk
          exact hk
      refine sg_M_interval_18 hG ad _ A _ _ w 1 ⟨fun _ => ⟨fun c => go (Or.inl c), fun c => ⟨fun c2 => go (Or.inr c2), fun c2 => ?_⟩⟩, fun c => absurd c (by decide)⟩
      rw [cif_n (fun z => by rcases in_2.mp z with q | q; exact c q; exact c2 q)] at hK
      exact hK _ A hI0 rfl
    · exact sg_M_interval_18 hG ad _ A _ _ w 0 ⟨fun c => absurd rfl c, fun _ => no (fun z => hn z.2)⟩
  · exact sg_M_interval_10 hG ad _ A _ y w 0 ⟨fun _ => no (fun z => hn z.1), fun c => absurd rfl c⟩
theorem M_quality (ad : Nat → Nat) (F : Nat → Int32) (A : Nat → Nat → Int32) {S : sc_S} (hI : mI S F A) (v w : Int32) (hK : ∀ F' A', mI S F' A' → F' 0 = 0 → K (some (.int (an_quality v w))) (wM cI ad F' A')) : T_M_quality cI tv [.ref (ad 0), .int v, .int w] (wM cI ad F A) K := by
  refine ⟨q_le0 _ _ rfl, fun G hG => ?_⟩
  have hk := hK _ A (mI_0 hI 0) rfl
  unfold an_quality at hk
  have no : ¬ (inN 39 v ∧ inN 3 w) → G 21 [] [] (wM cI ad (q_uf F 0 0) A) 0 0 := by
    intro hn
    rw [cif_n hn] at hk
    exact sg_M_quality_21 hG ad _ A hk
  have srt : ∀ a : Int32, K (some (.int (m_sort v a))) (wM cI ad (q_uf F 0 0) A) → (1 < jf_M_size (v - 19) → ((5 < jf_M_size (v - 19) → ((12 < jf_M_size (v - 19) → G 114 [(4, .int a)] [] (wM cI ad (q_uf F 0 0) A) 0 0) ∧ (¬ 12 < jf_M_size (v - 19) → G 101 [(4, .int a)] [] (wM cI ad (q_uf F 0 0) A) 0 0))) ∧ (¬ 5 < jf_M_size (v - 19) → ((a = 0 → G 91 [] [] (wM cI ad (q_uf F 0 0) A) 0 0) ∧ (¬ a = 0 → G 87 [] [] (wM cI ad (q_uf F 0 0) A) 0 0))))) ∧ (¬ 1 < jf_M_size (v - 19) → K (some (.int 0)) (wM cI ad (q_uf F 0 0) A)) := by
    intro a ha
    unfold m_sort at ha
    refine ⟨fun c1 => ⟨fun c2 => ⟨fun c3 => sg_M_quality_114 hG ad _ A a ⟨fun z => ?_, fun z => ?_⟩, fun c3 => sg_M_quality_101 hG ad _ A a ⟨fun z => ?_, fun z => ?_⟩⟩, fun c2 => ⟨fun z => sg_M_quality_91 hG ad _ A ?_, fun z => sg_M_quality_87 hG ad _ A ?_⟩⟩, fun c1 => ?_⟩
    · rw [if_pos c1, if_pos c2, if_pos c3, if_pos z] at ha; exact ha
    · rw [if_pos c1, if_pos c2, if_pos c3, if_neg z] at ha; exact ha
    · rw [if_pos c1, if_pos c2, if_neg c3, if_pos z] at ha; exact ha
    · rw [if_pos c1, if_pos c2, if_neg c3, if_neg z] at ha; exact ha
    · rw [if_pos c1, if_neg c2, if_pos z] at ha; exact ha
    · rw [if_pos c1, if_neg c2, if_neg z] at ha; exact ha
    · rw [if_neg c1] at ha; exact ha
  refine sg_M_quality_0 hG ad F A v w ⟨fun c => no (fun z => absurd c (mV_in.mpr z.1)), fun c => ⟨fun c2 => no (fun z => in_not_neg (by decide) c2 z.2), fun c2 => ⟨fun c3 => ?_, fun c3 => no (fun z => c3 ((in_le (n := 2) (by decide) c2).mpr z.2))⟩⟩⟩
  rw [cif_p ⟨mV_in.mp c, (in_le (n := 2) (by decide) c2).mp c3⟩] at hk
  obtain ⟨j, hj, rfl⟩ := mV_in.mp c
  obtain ⟨t, ht, rfl⟩ := (in_le (n := 2) (by decide) c2).mp c3
  refine ⟨fun c4 => ?_, fun c4 => ⟨fun c5 => ?_, fun c5 => ?_⟩⟩
  · have et : t = 2 := by have := nge (by decide) (by omega) (show nI 2 ≤ nI t from c4); omega
    subst et
    rw [if_neg (by decide), if_neg (by decide), ← sm_sort j hj] at hk
    refine ⟨fun c5 => srt 0 ?_, fun c5 => srt 1 ?_⟩
    · rw [if_pos c5] at hk; exact hk
    · rw [if_neg c5] at hk; exact hk
  · have et : t = 1 := by
      have := nng (by decide) (by omega) (show ¬ nI 2 ≤ nI t from c4)
      have : t ≠ 0 := fun e => c5 (by rw [e]; rfl)
      omega
    subst et
    rw [if_neg (by decide), if_pos (show nI 1 = 1 from rfl), ← sm_halves j hj] at hk
    exact hk
  · rw [if_pos c5, ← sm_steps j hj] at hk
    exact hk
theorem M_add (ad : Nat → Nat) (F : Nat → Int32) (A : Nat → Nat → Int32) {S : sc_S} (hI : mI S F A) (v o : Int32) (hK : ∀ F' A', mI S F' A' → F' 0 = 0 → K (some (.int (an_add v o))) (wM cI ad F' A')) : T_M_add cI tv [.ref (ad 0), .int v, .int o] (wM cI ad F A) K := by
  refine ⟨q_le0 _ _ rfl, fun G hG => ?_⟩
  have hk := hK _ A (mI_0 hI 0) rfl
  unfold an_add at hk
  have ee : ¬ jf_M_isInterval v = 0 → ¬ jf_M_isInterval o = 0 → v - 19 + o = v + o - 19 := by
    intro c c2
    obtain ⟨j, hj, rfl⟩ := mV_in.mp c
    obtain ⟨t, ht, rfl⟩ := mV_in.mp c2
    exact sm_add j hj t ht
  refine sg_M_add_0 hG ad F A v o ⟨fun c => ?_, fun c => ⟨fun c2 => ?_, fun c2 => ?_⟩⟩
  · rw [cif_n (fun z => absurd c (mV_in.mpr z.1))] at hk; exact hk
  · rw [ee c c2]
    rw [cif_p ⟨mV_in.mp c, mV_in.mp c2⟩] at hk
    refine ⟨fun c3 => ?_, fun c3 => ?_⟩
    · rw [cif_n (fun z => absurd c3 (mV_in.mpr z))] at hk; exact hk
    · rw [cif_p (mV_in.mp c3)] at hk; exact hk
  · rw [cif_n (fun z => absurd c2 (mV_in.mpr z.2))] at hk; exact hk
theorem M_transpose (ad : Nat → Nat) (F : Nat → Int32) (A : Nat → Nat → Int32) {S : sc_S} (hw : sc_wf S) (hI : mI S F A) (x v w : Int32) (hK : ∀ F' A', mI S F' A' → F' 0 = 0 → K (some (.int (an_transpose S x v w))) (wM cI ad F' A')) : T_M_transpose cI tv [.ref (ad 0), .int x, .int v, .int w] (wM cI ad F A) K := by
  refine ⟨q_le0 _ _ rfl, fun G hG => ?_⟩
  have n18 := hw.1
  have hI0 := mI_0 hI 0
  unfold an_transpose at hK
  refine sg_M_transpose_0 hG ad F A x v w (m_has ad _ A hw hI0.1 (fun i hi e => ?_) (fun hn => ?_))
  · subst e
    rw [cif_p ⟨i, hi, rfl⟩, nI_clamp (show i < 2 ^ 31 by omega)] at hK
    have go : ¬ jf_M_isInterval v = 0 → (w = 0 ∨ w = 1) → T_M_find cI tv [.ref (ad 0)] (wM cI ad (q_uf F 0 0) A) (fun r w1 => G 38 [(0, .ref (ad 0)), (1, .int (nI i)), (2, .int v), (3, .int w)] (r.toList ++ []) w1 0 0) := by
      intro c hc
      rw [cif_p ⟨mV_in.mp c, in_2.mpr hc⟩] at hK
      obtain ⟨t, ht, rfl⟩ := mV_in.mp c
      refine m_known ad _ A hw hI0 (fun F' A' h1 h2 h3 => ?_)
      have hk := hK F' A' h1 h3
      unfold an_tr at hk
      have bi := h2.1.2.2.2.2.2 i hi
      have vi : vp_in (nI i) 18 := vp_in_nI (by omega) (by decide)
      refine sg_M_transpose_38 hG ad F' A' (nI i) (nI t) w ?_
      rw [nI_clamp (show i < 2 ^ 31 by omega), h2.2.2.2.2.2 i hi, (h1.1.2.2.2.1 i hi).1, sm_trn _ bi t ht, sm_halves t ht]
      refine ⟨vi, vi, fun d => ?_, fun d => ⟨fun d2 => ?_, fun d2 => ⟨fun d3 => ?_, fun d3 => ⟨fun d4 => ⟨fun d5 => ?_, fun d5 => ?_⟩, fun d4 => ?_⟩⟩⟩⟩
      · rw [cif_n (fun z => in_not_neg (by decide) d z.1)] at hk; exact hk
      · rw [cif_n (fun z => (in_gt (n := 34) (by decide) d).mp d2 z.1)] at hk; exact hk
      · rw [cif_n (fun z => in_not_neg (by decide) d3 z.2)] at hk; exact hk
      · rw [cif_p ⟨Classical.byContradiction (fun q => d2 ((in_gt (n := 34) (by decide) d).mpr q)), (in_le (n := 127) (by decide) d3).mp d4⟩, cif_n d5] at hk; exact hk
      · rw [cif_p ⟨Classical.byContradiction (fun q => d2 ((in_gt (n := 34) (by decide) d).mpr q)), (in_le (n := 127) (by decide) d3).mp d4⟩, cif_p d5] at hk; exact hk
      · rw [cif_n (fun z => d4 ((in_le (n := 127) (by decide) d3).mpr z.2))] at hk; exact hk
    refine sg_M_transpose_10 hG ad _ A _ v w 1 ⟨fun _ => ⟨fun c => ?_, fun c => ⟨fun c2 => go c (Or.inl c2), fun c2 => ⟨fun c3 => go c (Or.inr c3), fun c3 => ?_⟩⟩⟩, fun c => absurd c (by decide)⟩
    · rw [cif_n (fun z => absurd c (mV_in.mpr z.1))] at hK; exact hK _ A hI0 rfl
    · rw [cif_n (fun z => by rcases in_2.mp z.2 with q | q; exact c2 q; exact c3 q)] at hK; exact hK _ A hI0 rfl
  · rw [cif_n hn] at hK
    exact sg_M_transpose_10 hG ad _ A _ v w 0 ⟨fun c => absurd rfl c, fun _ => hK _ A hI0 rfl⟩
theorem m_micro (ad : Nat → Nat) (F : Nat → Int32) (A : Nat → Nat → Int32) {G : q_G} (hG : q_Cl (F_M_micro cI tv K) G) (b t : Int32) (hK : K (some (.int (m_mic b t 19 (-9) (-9)))) (wM cI ad F A)) : G 68 [(3, .int b), (4, .int t), (5, .int (-9)), (6, .int (-9))] [] (wM cI ad F A) 0 0 := by
  have loop : ∀ (d k : Nat) (g : Int32), k + d = 19 → K (some (.int (m_mic b t d g (nI k - 9)))) (wM cI ad F A) → G 68 [(3, .int b), (4, .int t), (5, .int g), (6, .int (nI k - 9))] [] (wM cI ad F A) 0 0 := by
    intro d
    induction d with
    | zero =>
      intro k g hd h
      have m := m_9 k (by omega)
      exact sg_M_micro_68 hG ad F A _ _ _ _ ⟨fun _ => h, fun z => absurd (m.2.2 (by omega)) z⟩
    | succ d ih =>
      intro k g hd h
      have m := m_9 k (by omega)
      have h' : K (some (.int (if jf_M_size (b * g - t) ≤ jf_M_size (b * (nI k - 9) - t) then m_mic b t d g ((nI k - 9) + 1) else m_mic b t d (nI k - 9) ((nI k - 9) + 1)))) (wM cI ad F A) := h
      refine sg_M_micro_68 hG ad F A _ _ _ _ ⟨fun z => absurd z (m.2.1 (by omega)), fun _ => ⟨fun c => ?_, fun c => ?_⟩⟩
      · rw [if_pos c, m.1] at h'
        rw [m.1]
        exact ih (k + 1) g (by omega) h'
      · rw [if_neg c, m.1] at h'
        rw [m.1]
        exact ih (k + 1) _ (by omega) h'
  exact loop 19 0 (-9) rfl hK
theorem M_micro (ad : Nat → Nat) (F : Nat → Int32) (A : Nat → Nat → Int32) {S : sc_S} (hw : sc_wf S) (hI : mI S F A) (x n b : Int32) (hK : ∀ F' A', mI S F' A' → F' 0 = 0 → K (some (.int (an_micro S x n b))) (wM cI ad F' A')) : T_M_micro cI tv [.ref (ad 0), .int x, .int n, .int b] (wM cI ad F A) K := by
  refine ⟨q_le0 _ _ rfl, fun G hG => ?_⟩
  have n18 := hw.1
  have hI0 := mI_0 hI 0
  unfold an_micro at hK
  refine sg_M_micro_0 hG ad F A x n b (m_has ad _ A hw hI0.1 (fun i hi e => ?_) (fun hn => ?_))
  · subst e
    rw [cif_p ⟨i, hi, rfl⟩, nI_clamp (show i < 2 ^ 31 by omega)] at hK
    have vi : vp_in (nI i) 18 := vp_in_nI (by omega) (by decide)
    have fin : (¬ n < -6 ∧ ¬ 6 < n ∧ (b = 2 ∨ b = 3)) → T_M_find cI tv [.ref (ad 0)] (wM cI ad (q_uf F 0 0) A) (fun r w1 => G 44 [(0, .ref (ad 0)), (1, .int (nI i)), (2, .int n), (3, .int b)] (r.toList ++ []) w1 0 0) := by
      intro hc
      rw [cif_p hc] at hK
      refine m_known ad _ A hw hI0 (fun F' A' h1 h2 h3 => sg_M_micro_44 hG ad F' A' (nI i) n b ?_)
      have bi := h2.1.2.2.2.2.2 i hi
      have hk := hK F' A' h1 h3
      obtain ⟨e, he, rfl⟩ := n_13 hc.1 hc.2.1
      rw [nI_clamp (show i < 2 ^ 31 by omega), h2.2.2.2.2.2 i hi, sm_signs _ bi]
      rw [sx_signs _ (by omega)] at hk
      refine ⟨vi, m_micro ad F' A' hG _ _ ?_⟩
      rcases hc.2.2 with q | q
      · subst q
        rw [sm_mic2 _ (by omega) e he]; exact hk
      · subst q
        rw [sm_mic3 _ (by omega) e he]; exact hk
    refine sg_M_micro_10 hG ad _ A _ n b 1 ⟨fun _ => ⟨fun c => ?_, fun c => ⟨fun c2 => ?_, fun c2 => ⟨fun c3 => fin ⟨c, c2, Or.inl c3⟩, fun c3 => ⟨fun c4 => fin ⟨c, c2, Or.inr c4⟩, fun c4 => ?_⟩⟩⟩⟩, fun c => absurd c (by decide)⟩
    · rw [cif_n (fun z => z.1 c)] at hK; exact hK _ A hI0 rfl
    · rw [cif_n (fun z => z.2.1 c2)] at hK; exact hK _ A hI0 rfl
    · rw [cif_n (fun z => by rcases z.2.2 with q | q; exact c3 q; exact c4 q)] at hK; exact hK _ A hI0 rfl
  · rw [cif_n hn] at hK
    exact sg_M_micro_10 hG ad _ A _ n b 0 ⟨fun c => absurd rfl c, fun _ => hK _ A hI0 rfl⟩
theorem M_step (ad : Nat → Nat) (F : Nat → Int32) (A : Nat → Nat → Int32) {S : sc_S} (hI : mI S F A) {x n : Int32} (hn : ¬ n = 0) (hK : ∀ F' A', mI S F' A' → F' 0 = 0 → K (some (.int (jf_J_floorMod x n))) (wM cI ad F' A')) : T_M_step cI tv [.ref (ad 0), .int x, .int n] (wM cI ad F A) K := by
  refine ⟨q_le0 _ _ rfl, fun G hG => ?_⟩
  have hk := hK _ A (mI_0 hI 0) rfl
  unfold jf_J_floorMod at hk
  refine sg_M_step_0 hG ad F A x n ⟨fun _ => sg_M_step_10 hG ad F A x n 0 ⟨fun _ => ⟨hn, fun c => ?_, fun c => ?_⟩, fun c => absurd c hn⟩, fun c => absurd c hn⟩
  · refine sg_M_step_54 hG ad _ A _ (sg_M_step_55 hG ad _ A _ ?_)
    by_cases z : 0 ≤ x ^^^ n
    · rw [if_pos z] at hk; exact hk
    · rw [if_neg z, if_pos c] at hk; exact hk
  · have sg := x_rem_sign x n hn c
    have xo := x_xor x n
    have nl : ∀ y : Int32, ¬ 0 ≤ y ↔ y < 0 := by
      intro y
      rw [Int32.le_iff_toInt_le, Int32.lt_iff_toInt_lt]
      omega
    have yes : (x < 0 ↔ n < 0) → G 54 [(3, .int (x - x / n * n))] [] (wM cI ad (q_uf F 0 0) A) 0 0 := by
      intro h
      rw [if_pos (xo.mpr h)] at hk
      exact sg_M_step_54 hG ad _ A _ (sg_M_step_55 hG ad _ A _ hk)
    have no : ¬ (x < 0 ↔ n < 0) → G 55 [] [.int (x - x / n * n + n)] (wM cI ad (q_uf F 0 0) A) 0 0 := by
      intro h
      rw [if_neg (fun z => h (xo.mp z)), if_neg c] at hk
      exact sg_M_step_55 hG ad _ A _ hk
    refine ⟨fun r => sg_M_step_36 hG ad _ A _ _ _ ⟨fun q => sg_M_step_45 hG ad _ A _ _ _ _ ⟨fun _ => yes ?_, fun z => absurd rfl z⟩, fun q => sg_M_step_45 hG ad _ A _ _ _ _ ⟨fun z => absurd z (by decide), fun _ => no ?_⟩⟩, fun r => sg_M_step_36 hG ad _ A _ _ _ ⟨fun q => sg_M_step_45 hG ad _ A _ _ _ _ ⟨fun z => absurd z (by decide), fun _ => no ?_⟩, fun q => sg_M_step_45 hG ad _ A _ _ _ _ ⟨fun _ => yes ?_, fun z => absurd rfl z⟩⟩⟩
    · exact ⟨fun z => absurd r ((nl _).mpr (sg.mpr z)), fun z => absurd q ((nl _).mpr z)⟩
    · intro z
      exact absurd r ((nl _).mpr (sg.mpr (z.mpr ((nl _).mp q))))
    · intro z
      exact absurd q ((nl _).mpr (z.mp (sg.mp ((nl _).mp r))))
    · exact ⟨fun _ => (nl _).mp q, fun _ => sg.mp ((nl _).mp r)⟩
theorem M_step0 (ad : Nat → Nat) (F : Nat → Int32) (A : Nat → Nat → Int32) {x : Int32} (hK : K (some (.int 0)) (wM cI ad (q_uf F 0 1) A)) : T_M_step cI tv [.ref (ad 0), .int x, .int 0] (wM cI ad F A) K := by
  refine ⟨q_le0 _ _ rfl, fun G hG => ?_⟩
  exact sg_M_step_0 hG ad F A x 0 ⟨fun c => absurd rfl c, fun _ => sg_M_step_10 hG ad F A x 0 1 ⟨fun c => absurd rfl c, fun _ => hK⟩⟩
theorem M_equal (ad : Nat → Nat) (F : Nat → Int32) (A : Nat → Nat → Int32) {S : sc_S} (hI : mI S F A) (x y : Int32) (hK : ∀ F' A', mI S F' A' → F' 0 = 0 → K (some (.int (an_equal x y))) (wM cI ad F' A')) : T_M_equal cI tv [.ref (ad 0), .int x, .int y] (wM cI ad F A) K := by
  refine ⟨q_le0 _ _ rfl, fun G hG => ?_⟩
  have hk := hK _ A (mI_0 hI 0) rfl
  unfold an_equal at hk
  refine sg_M_equal_0 hG ad F A x y ⟨fun c => ?_, fun c => ⟨fun c2 => ⟨fun c3 => ⟨fun c4 => ?_, fun c4 => ?_⟩, fun c3 => ?_⟩, fun c2 => ?_⟩⟩
  · rw [cif_n (fun z => absurd c (mN_in.mpr z.1))] at hk; exact hk
  · rw [cif_p ⟨mN_in.mp c, mN_in.mp c2⟩, cif_n c3, cif_n c4] at hk; exact hk
  · rw [cif_p ⟨mN_in.mp c, mN_in.mp c2⟩, cif_n c3, cif_p c4] at hk; exact hk
  · rw [cif_p ⟨mN_in.mp c, mN_in.mp c2⟩, cif_p c3] at hk; exact hk
  · rw [cif_n (fun z => absurd c2 (mN_in.mpr z.2))] at hk; exact hk
theorem M_scale (ad : Nat → Nat) (F : Nat → Int32) (A : Nat → Nat → Int32) {S : sc_S} (hI : mI S F A) (k l : Int32) (hK : ∀ F' A', mI S F' A' → F' 0 = 0 → K (some (.int (an_scale k l))) (wM cI ad F' A')) : T_M_scale cI tv [.ref (ad 0), .int k, .int l] (wM cI ad F A) K := by
  refine ⟨q_le0 _ _ rfl, fun G hG => ?_⟩
  have hk := hK _ A (mI_0 hI 0) rfl
  unfold an_scale at hk
  refine sg_M_scale_0 hG ad F A k l ⟨fun c => ?_, fun c => ⟨fun c2 => ?_, fun c2 => ⟨fun c3 => ?_, fun c3 => ⟨fun c4 => ?_, fun c4 => ?_⟩⟩⟩⟩
  · rw [cif_n (fun z => in_not_neg (by decide) c z.1)] at hk; exact hk
  · rw [cif_n (fun z => (in_gt (n := 14) (by decide) c).mp c2 z.1)] at hk; exact hk
  · rw [cif_n (fun z => in_not_neg (by decide) c3 z.2)] at hk; exact hk
  · have h1 : inN 15 k := Classical.byContradiction (fun q => c2 ((in_gt (n := 14) (by decide) c).mpr q))
    have h2 := (in_le (n := 6) (by decide) c3).mp c4
    rw [cif_p ⟨h1, h2⟩] at hk
    obtain ⟨a, ha, rfl⟩ := h1
    obtain ⟨b, hb, rfl⟩ := h2
    have s := sm_scl a ha b hb
    rw [← s.1] at hk
    have loop : ∀ (d : Nat) (y : Int32), ¬ m_scl (nI b) d y = -99 → K (some (.int (m_scl (nI b) d y))) (wM cI ad (q_uf F 0 0) A) → G 33 [(2, .int (nI b)), (3, .int y)] [] (wM cI ad (q_uf F 0 0) A) 0 0 := by
      intro d
      induction d with
      | zero => intro y h _; exact absurd rfl h
      | succ d ih =>
        intro y h h2
        have h' : ¬ (if jf_M_letterOf y = nI b then jf_M_signsOf y + 2 else m_scl (nI b) d (y + 1)) = -99 := h
        have h2' : K (some (.int (if jf_M_letterOf y = nI b then jf_M_signsOf y + 2 else m_scl (nI b) d (y + 1)))) (wM cI ad (q_uf F 0 0) A) := h2
        refine sg_M_scale_33 hG ad _ A _ _ ⟨fun z => ?_, fun z => ?_⟩
        · rw [if_pos z] at h2'; exact h2'
        · rw [if_neg z] at h' h2'
          exact ih _ h' h2'
    exact loop 7 _ s.2 hk
  · rw [cif_n (fun z => c4 ((in_le (n := 6) (by decide) c3).mpr z.2))] at hk; exact hk
end MG2
