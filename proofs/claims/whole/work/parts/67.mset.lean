/-! the model: the calls that change -/
theorem mW_in {x : Int32} : ¬ jf_M_isWeight x = 0 ↔ inN 21 x := isW_in
section MS
variable {cI : ClassId} {tv : Nat} {K : q_K}
theorem M_clear (ad : Nat → Nat) (F : Nat → Int32) (A : Nat → Nat → Int32) {S : sc_S} (hI : mI S F A) (hK : ∀ F' A', mI (sc_clr S) F' A' → F' 0 = 0 → K (some (.int (nI (S 7 0)))) (wM cI ad F' A')) : T_M_clear cI tv [.ref (ad 0)] (wM cI ad F A) K := by
  refine ⟨q_le0 _ _ rfl, fun G hG => ?_⟩
  refine sg_M_clear_0 hG ad F A (sg_M_clear_15 hG ad _ A _ ?_)
  rw [hI.1.1]
  have e0 : sc_clr S 7 0 = 0 := rfl
  have e1 : sc_clr S 7 1 = 0 := rfl
  refine hK _ A ⟨⟨rfl, rfl, fun j hj => ?_, fun i hi => absurd hi (by rw [e0]; exact Nat.not_lt_zero i), fun m hm => absurd hm (by rw [e1]; exact Nat.not_lt_zero m)⟩, fun c => absurd rfl c⟩ rfl
  rw [q_uf_ne (by omega), q_uf_ne (by omega), q_uf_ne (by omega), q_uf_ne (by omega)]
  exact hI.1.2.2.1 j hj
theorem M_weights (ad : Nat → Nat) (F : Nat → Int32) (A : Nat → Nat → Int32) {S : sc_S} (hI : mI S F A) (a b c d e : Int32) (hK : ∀ F' A', mI (st_weights S a b c d e) F' A' → F' 0 = 0 → K (some (.int (an_weights a b c d e))) (wM cI ad F' A')) : T_M_weights cI tv [.ref (ad 0), .int a, .int b, .int c, .int d, .int e] (wM cI ad F A) K := by
  refine ⟨q_le0 _ _ rfl, fun G hG => ?_⟩
  have hI0 := mI_0 hI 0
  unfold an_weights st_weights at hK
  have no : ¬ (inN 21 a ∧ inN 21 b ∧ inN 21 c ∧ inN 21 d ∧ inN 21 e) → K (some (.int (-2))) (wM cI ad (q_uf F 0 0) A) := by
    intro hn
    rw [cif_n hn, cif_n hn] at hK
    exact hK _ A hI0 rfl
  refine sg_M_weights_0 hG ad F A a b c d e ⟨fun z => no (fun q => absurd z (mW_in.mpr q.1)), fun z1 => ⟨fun z => no (fun q => absurd z (mW_in.mpr q.2.1)), fun z2 => ⟨fun z => no (fun q => absurd z (mW_in.mpr q.2.2.1)), fun z3 => ⟨fun z => no (fun q => absurd z (mW_in.mpr q.2.2.2.1)), fun z4 => ⟨fun z5 => ?_, fun z => no (fun q => absurd z (mW_in.mpr q.2.2.2.2))⟩⟩⟩⟩⟩
  have h1 := mW_in.mp z1
  have h2 := mW_in.mp z2
  have h3 := mW_in.mp z3
  have h4 := mW_in.mp z4
  have h5 := mW_in.mp z5
  rw [cif_p ⟨h1, h2, h3, h4, h5⟩, cif_p ⟨h1, h2, h3, h4, h5⟩] at hK
  refine sg_M_weights_50 hG ad _ A _ _ _ _ (sg_M_weights_60 hG ad _ A _ _ (sg_M_weights_72 hG ad _ A ?_))
  refine hK _ A ⟨⟨?_, ?_, fun j hj => ?_, hI.1.2.2.2.1, hI.1.2.2.2.2⟩, fun z => absurd rfl z⟩ rfl
  · exact hI.1.1
  · exact hI.1.2.1
  · match j, hj with
    | 0, _ => exact (in_cl (by decide) h1).2
    | 1, _ => exact (in_cl (by decide) h2).2
    | 2, _ => exact (in_cl (by decide) h3).2
    | 3, _ => exact (in_cl (by decide) h4).2
    | 4, _ => exact (in_cl (by decide) h5).2
theorem M_key (ad : Nat → Nat) (F : Nat → Int32) (A : Nat → Nat → Int32) {S : sc_S} (hw : sc_wf S) (hI : mI S F A) (x k : Int32) (hK : ∀ F' A', mI (st_key S x k) F' A' → F' 0 = 0 → K (some (.int (an_key S x k))) (wM cI ad F' A')) : T_M_key cI tv [.ref (ad 0), .int x, .int k] (wM cI ad F A) K := by
  refine ⟨q_le0 _ _ rfl, fun G hG => ?_⟩
  have n18 := hw.1
  have hM := wf_M hw
  have hI0 := mI_0 hI 0
  unfold an_key st_key at hK
  refine sg_M_key_0 hG ad F A x k (m_has ad _ A hw hI0.1 (fun i hi e => ?_) (fun hn => ?_))
  · subst e
    have hin : inN (S 7 0) (nI i) := ⟨i, hi, rfl⟩
    rw [cif_p hin] at hK
    refine sg_M_key_10 hG ad _ A _ k 1 ⟨fun _ => ⟨fun c => ?_, fun c => ⟨fun c2 => ?_, fun c2 => ?_⟩⟩, fun c => absurd c (by decide)⟩
    · have hn := in_not_neg (n := 16) (by decide) c
      rw [cif_n hn, cif_n (fun z => hn z.2)] at hK; exact hK _ A hI0 rfl
    · have hk := (in_le (n := 15) (by decide) c).mp c2
      rw [cif_p hk, cif_p ⟨hin, hk⟩, nI_clamp (show i < 2 ^ 31 by omega)] at hK
      obtain ⟨j, hj, rfl⟩ := hk
      rw [nI_clamp (show j < 2 ^ 31 by omega)] at hK
      have hm := (hw.2.2.2.2.1 i hi).2.2.1
      have r := hI.1.2.2.2.2 (S 2 i) hm
      have vm : vp_in (nI (S 2 i)) 18 := vp_in_nI (by omega) (by decide)
      rw [nI_clamp (show i < 2 ^ 31 by omega), (hI.1.2.2.2.1 i hi).2.1, nI_clamp (show S 2 i < 2 ^ 31 by omega), r.2.2]
      refine ⟨vp_in_nI (by omega) (by decide), vm, vm, hK _ _ ⟨⟨hI.1.1, hI.1.2.1, fun t ht => ?_, hI.1.2.2.2.1, fun m hm2 => ?_⟩, fun z => absurd rfl z⟩ rfl⟩
      · rw [q_uf_ne (by omega), q_uf_ne (by omega)]; exact hI.1.2.2.1 t ht
      · have rm := hI.1.2.2.2.2 m hm2
        refine ⟨rm.1, rm.2.1, ?_⟩
        show upd (A 6) (S 2 i) (nI j) m = nI (sc_u S 5 (S 2 i) j 5 m)
        by_cases z : m = S 2 i
        · rw [z, upd_s, sc_u_s]
        · rw [pk_un z, sc_u_i z]; exact rm.2.2
    · have hn : ¬ inN 16 k := fun z => c2 ((in_le (n := 15) (by decide) c).mpr z)
      rw [cif_n hn, cif_n (fun z => hn z.2)] at hK; exact hK _ A hI0 rfl
  · rw [cif_n hn, cif_n (fun z => hn z.1)] at hK
    exact sg_M_key_10 hG ad _ A _ k 0 ⟨fun c => absurd rfl c, fun _ => hK _ A hI0 rfl⟩
theorem M_fix (ad : Nat → Nat) (F : Nat → Int32) (A : Nat → Nat → Int32) {S : sc_S} (hw : sc_wf S) (hI : mI S F A) (x n : Int32) (hK : ∀ F' A', mI (st_fix S x n) F' A' → F' 0 = 0 → K (some (.int (an_fix S x n))) (wM cI ad F' A')) : T_M_fix cI tv [.ref (ad 0), .int x, .int n] (wM cI ad F A) K := by
  refine ⟨q_le0 _ _ rfl, fun G hG => ?_⟩
  have n18 := hw.1
  have hI0 := mI_0 hI 0
  unfold an_fix st_fix at hK
  refine sg_M_fix_0 hG ad F A x n (m_has ad _ A hw hI0.1 (fun i hi e => ?_) (fun hn => ?_))
  · subst e
    have hin : inN (S 7 0) (nI i) := ⟨i, hi, rfl⟩
    have vi : vp_in (nI i) 18 := vp_in_nI (by omega) (by decide)
    have b := hw.2.2.2.2.1 i hi
    have r := hI.1.2.2.2.1 i hi
    rw [cif_p hin, nI_clamp (show i < 2 ^ 31 by omega)] at hK
    have yes : okn S i n → K (some (.int (nI (S 1 i)))) (wM cI ad (q_uf (q_uf F 0 0) 10 0) (q_ua A 3 (upd (A 3) i n))) := by
      intro ho
      rw [cif_p ho, cif_p ⟨hin, ho⟩] at hK
      have hcl := okn_cl ho
      refine hK _ _ ⟨⟨hI.1.1, hI.1.2.1, fun t ht => ?_, fun j hj => ?_, hI.1.2.2.2.2⟩, fun z => absurd rfl z⟩ rfl
      · rw [q_uf_ne (by omega), q_uf_ne (by omega)]; exact hI.1.2.2.1 t ht
      · have rj := hI.1.2.2.2.1 j hj
        refine ⟨rj.1, rj.2.1, ?_⟩
        show upd (A 3) i n j = nI (sc_u S 1 i n.toNatClampNeg 1 j)
        by_cases z : j = i
        · rw [z, upd_s, sc_u_s]; exact hcl.2
        · rw [pk_un z, sc_u_i z]; exact rj.2.2
    have no : ¬ okn S i n → K (some (.int (-2))) (wM cI ad (q_uf F 0 0) A) := by
      intro ho
      rw [cif_n ho, cif_n (fun z => ho z.2)] at hK
      exact hK _ A hI0 rfl
    have out : ¬ inN 36 n → ¬ okn S i n := by
      rintro h (z | ⟨m, h1, h2, -⟩)
      · exact h ⟨35, by decide, z⟩
      · exact h ⟨m, by omega, h2⟩
    refine sg_M_fix_10 hG ad _ A _ n 1 ?_
    rw [nI_clamp (show i < 2 ^ 31 by omega), r.2.2, r.1]
    refine ⟨fun _ => ⟨fun c => no (out (in_not_neg (by decide) c)), fun c => ⟨fun c2 => no (out ((in_gt (n := 35) (by decide) c).mp c2)), fun c2 => ?_⟩⟩, fun c => absurd c (by decide)⟩
    have h36 : inN 36 n := Classical.byContradiction (fun q => c2 ((in_gt (n := 35) (by decide) c).mpr q))
    obtain ⟨m, hm, rfl⟩ := h36
    refine ⟨fun c3 => ⟨vi, vi, yes (Or.inl ?_)⟩, fun c3 => ?_⟩
    · have := nge (by decide) (by omega) (show nI 35 ≤ nI m from c3)
      rw [show m = 35 by omega]
    · have hm35 := nng (by decide) (by omega) (show ¬ nI 35 ≤ nI m from c3)
      rw [sm_sounds m hm35 _ b.1]
      by_cases z : m % 12 = sc_low (S 0 i)
      · rw [if_pos z]
        exact ⟨vi, fun _ => ⟨vi, vi, yes (Or.inr ⟨m, hm35, rfl, z⟩)⟩, fun q => absurd q (by decide)⟩
      · rw [if_neg z]
        refine ⟨vi, fun q => absurd rfl q, fun _ => no ?_⟩
        rintro (y | ⟨m2, h1, h2, h3⟩)
        · have := neq (by omega) (by decide) y
          omega
        · have := neq (by omega) (by omega) h2
          rw [← this] at h3
          exact z h3
  · rw [cif_n hn, cif_n (fun z => hn z.1)] at hK
    exact sg_M_fix_10 hG ad _ A _ n 0 ⟨fun c => absurd rfl c, fun _ => hK _ A hI0 rfl⟩
theorem m_put (ad : Nat → Nat) (F : Nat → Int32) (A : Nat → Nat → Int32) {G : q_G} (hG : q_Cl (F_M_pitch cI tv K) G) {s m p : Nat} (hs : s < 18) (hm : m < 18) (f1 : F 1 = nI s) (f2 : F 2 = nI (m + 1)) (hK : ∀ (F' : Nat → Int32) (A' : Nat → Nat → Int32), (∀ j, j ≠ 1 → j ≠ 10 → F' j = F j) → F' 1 = nI (s + 1) → F' 10 = 0 → (∀ k, k ≠ 1 → k ≠ 2 → k ≠ 3 → k ≠ 5 → A' k = A k) → A' 1 = upd (A 1) s (nI p) → A' 2 = upd (A 2) s (nI m) → A' 3 = upd (A 3) s (nI 35) → A' 5 = upd (A 5) m (A 5 m + 1) → K (some (.int (nI s))) (wM cI ad F' A')) : G 107 [(0, .ref (ad 0)), (1, .int (nI p))] [] (wM cI ad F A) 0 0 := by
  have em : nI (m + 1) - 1 = nI m := by
    have := pk_sub (show 1 ≤ m + 1 by omega)
    rw [show m + 1 - 1 = m from rfl] at this
    exact this
  have vs : vp_in (nI s) 18 := vp_in_nI hs (by decide)
  have vm : vp_in (nI m) 18 := vp_in_nI hm (by decide)
  have cs := nI_clamp (show s < 2 ^ 31 by omega)
  have cm := nI_clamp (show m < 2 ^ 31 by omega)
  refine sg_M_pitch_107 hG ad F A _ ?_
  rw [f2, em, cm]
  refine ⟨vm, vm, sg_M_pitch_122 hG ad F _ _ ?_⟩
  rw [f1, f2, em, cs]
  refine ⟨vs, vs, sg_M_pitch_147 hG ad F _ ?_⟩
  rw [f1, cs]
  refine ⟨vs, sg_M_pitch_168 hG ad _ _ ?_⟩
  have e1 : (q_uf F 1 (nI s + 1)) 1 - 1 = nI s := by
    show nI s + 1 - 1 = nI s
    rw [show nI s + 1 = nI (s + 1) from nI_1 s]
    exact nI_pred s
  rw [e1]
  refine hK _ _ (fun j h1 h10 => by rw [q_uf_ne h10, q_uf_ne h1]) (nI_1 s) rfl (fun k k1 k2 k3 k5 => by rw [q_ua_ne k3, q_ua_ne k2, q_ua_ne k1, q_ua_ne k5]) rfl rfl rfl rfl
theorem m_putN {S : sc_S} (hw : sc_wf S) {F F' : Nat → Int32} {A A' : Nat → Nat → Int32} (hR : mR S F A) {p : Nat} (f1 : F' 1 = nI (S 7 0 + 1)) (f2 : F' 2 = nI (S 7 1 + 1)) (hF : ∀ j, 3 ≤ j → j < 8 → F' j = F j) (a1 : A' 1 = upd (A 1) (S 7 0) (nI p)) (a2 : A' 2 = upd (A 2) (S 7 0) (nI (S 7 1))) (a3 : A' 3 = upd (A 3) (S 7 0) (nI 35)) (a4 : A' 4 = upd (A 4) (S 7 1) (nI (S 7 0))) (a5 : A' 5 = upd (upd (A 5) (S 7 1) 0) (S 7 1) (upd (A 5) (S 7 1) 0 (S 7 1) + 1)) (a6 : A' 6 = upd (A 6) (S 7 1) (nI 15)) : mR (sc_putN S p) F' A' := by
  refine ⟨f1, f2, fun j hj => by rw [hF (3 + j) (by omega) (by omega)]; exact hR.2.2.1 j hj, fun i hi => ?_, fun m hm => ?_⟩
  · have hi' : i < S 7 0 + 1 := hi
    have s0 : sc_putN S p 0 i = if i = S 7 0 then p else S 0 i := rfl
    have s1 : sc_putN S p 1 i = if i = S 7 0 then 35 else S 1 i := rfl
    have s2 : sc_putN S p 2 i = if i = S 7 0 then S 7 1 else S 2 i := rfl
    rw [a1, a2, a3, s0, s1, s2]
    rcases Nat.lt_or_ge i (S 7 0) with z | z
    · have r := hR.2.2.2.1 i z
      rw [pk_un (by omega), pk_un (by omega), pk_un (by omega), if_neg (by omega), if_neg (by omega), if_neg (by omega)]
      exact r
    · have e : i = S 7 0 := by omega
      subst e
      rw [upd_s, upd_s, upd_s, if_pos rfl, if_pos rfl, if_pos rfl]
      exact ⟨rfl, rfl, rfl⟩
  · have hm' : m < S 7 1 + 1 := hm
    have s3 : sc_putN S p 3 m = if m = S 7 1 then S 7 0 else S 3 m := rfl
    have s4 : sc_putN S p 4 m = if m = S 7 1 then 1 else S 4 m := rfl
    have s5 : sc_putN S p 5 m = if m = S 7 1 then 15 else S 5 m := rfl
    rw [a4, a5, a6, s3, s4, s5]
    rcases Nat.lt_or_ge m (S 7 1) with z | z
    · have r := hR.2.2.2.2 m z
      rw [pk_un (by omega), pk_un (by omega), pk_un (by omega), pk_un (by omega), if_neg (by omega), if_neg (by omega), if_neg (by omega)]
      exact r
    · have e : m = S 7 1 := by omega
      subst e
      rw [upd_s, upd_s, upd_s, upd_s, if_pos rfl, if_pos rfl, if_pos rfl]
      exact ⟨rfl, rfl, rfl⟩
theorem m_putJ {S : sc_S} (hw : sc_wf S) {F F' : Nat → Int32} {A A' : Nat → Nat → Int32} (hR : mR S F A) {p : Nat} (f1 : F' 1 = nI (S 7 0 + 1)) (f2 : F' 2 = nI (S 7 1)) (hF : ∀ j, 3 ≤ j → j < 8 → F' j = F j) (a1 : A' 1 = upd (A 1) (S 7 0) (nI p)) (a2 : A' 2 = upd (A 2) (S 7 0) (nI (S 7 1 - 1))) (a3 : A' 3 = upd (A 3) (S 7 0) (nI 35)) (a4 : A' 4 = A 4) (a5 : A' 5 = upd (A 5) (S 7 1 - 1) (A 5 (S 7 1 - 1) + 1)) (a6 : A' 6 = A 6) : mR (sc_putJ S p) F' A' := by
  refine ⟨f1, f2, fun j hj => by rw [hF (3 + j) (by omega) (by omega)]; exact hR.2.2.1 j hj, fun i hi => ?_, fun m hm => ?_⟩
  · have hi' : i < S 7 0 + 1 := hi
    have s0 : sc_putJ S p 0 i = if i = S 7 0 then p else S 0 i := rfl
    have s1 : sc_putJ S p 1 i = if i = S 7 0 then 35 else S 1 i := rfl
    have s2 : sc_putJ S p 2 i = if i = S 7 0 then S 7 1 - 1 else S 2 i := rfl
    rw [a1, a2, a3, s0, s1, s2]
    rcases Nat.lt_or_ge i (S 7 0) with z | z
    · have r := hR.2.2.2.1 i z
      rw [pk_un (by omega), pk_un (by omega), pk_un (by omega), if_neg (by omega), if_neg (by omega), if_neg (by omega)]
      exact r
    · have e : i = S 7 0 := by omega
      subst e
      rw [upd_s, upd_s, upd_s, if_pos rfl, if_pos rfl, if_pos rfl]
      exact ⟨rfl, rfl, rfl⟩
  · have r := hR.2.2.2.2 m hm
    have s4 : sc_putJ S p 4 m = if m = S 7 1 - 1 then S 4 m + 1 else S 4 m := rfl
    refine ⟨by rw [a4]; exact r.1, ?_, by rw [a6]; exact r.2.2⟩
    rw [a5, s4]
    by_cases z : m = S 7 1 - 1
    · rw [if_pos z, ← z, upd_s, r.2.1]; exact nI_1 _
    · rw [if_neg z, pk_un z]; exact r.2.1
theorem M_pitch (ad : Nat → Nat) (F : Nat → Int32) (A : Nat → Nat → Int32) {S : sc_S} (hw : sc_wf S) (hI : mI S F A) (x w : Int32) (hK : ∀ F' A', mI (st_pitch S x w) F' A' → F' 0 = 0 → K (some (.int (an_pitch S x w))) (wM cI ad F' A')) : T_M_pitch cI tv [.ref (ad 0), .int x, .int w] (wM cI ad F A) K := by
  refine ⟨q_le0 _ _ rfl, fun G hG => ?_⟩
  have n18 := hw.1
  have hM := wf_M hw
  have hI0 := mI_0 hI 0
  unfold an_pitch st_pitch at hK
  have out : ¬ inN 128 x → G 15 [] [] (wM cI ad (q_uf F 0 0) A) 0 0 := by
    intro hn
    rw [cif_n hn, cif_n (fun z => hn z.1)] at hK
    exact sg_M_pitch_15 hG ad _ A (hK _ A hI0 rfl)
  refine sg_M_pitch_0 hG ad F A x w ⟨fun c => out (in_not_neg (by decide) c), fun c => ⟨fun c2 => ?_, fun c2 => out (fun z => c2 ((in_le (n := 127) (by decide) c).mpr z))⟩⟩
  have hin := (in_le (n := 127) (by decide) c).mp c2
  obtain ⟨p, hp, rfl⟩ := id hin
  rw [cif_p hin, nI_clamp (show p < 2 ^ 31 by omega)] at hK
  have go : ¬ (¬ w = 0 ∧ njo S) → G 47 [(0, .ref (ad 0)), (1, .int (nI p)), (2, .int w)] [] (wM cI ad (q_uf F 0 0) A) 0 0 := by
    intro hnj
    rw [cif_n hnj] at hK
    refine sg_M_pitch_47 hG ad _ A _ w ⟨fun c3 => ?_, fun c3 => ?_⟩
    · have e18 : ¬ S 7 0 = 18 := fun q => c3 (by show F 1 = 18; rw [hI.1.1, q]; rfl)
      have hs : S 7 0 < 18 := by omega
      rw [cif_n e18, cif_p ⟨hin, hnj, e18⟩] at hK
      have hm18 := wf_M70 hw hs
      refine ⟨fun c4 => ?_, fun c4 => ?_⟩
      · have h70 : S 7 0 ≠ 0 := fun q => hnj ⟨c4, Or.inl q⟩
        have hpos : 0 < S 7 1 := by have := hw.2.1; omega
        rw [cif_n c4] at hK
        refine m_put ad _ A hG (m := S 7 1 - 1) hs (by omega) hI.1.1 (by show F 2 = _; rw [hI.1.2.1, show S 7 1 - 1 + 1 = S 7 1 by omega]) (fun F' A' k1 k2 k3 k4 k5 k6 k7 k8 => hK F' A' ⟨m_putJ hw hI.1 k2 ?_ (fun j h3 h8 => ?_) k5 k6 k7 (k4 4 (by decide) (by decide) (by decide) (by decide)) k8 (k4 6 (by decide) (by decide) (by decide) (by decide)), fun z => absurd k3 z⟩ ?_)
        · rw [k1 2 (by decide) (by decide)]; exact hI.1.2.1
        · rw [k1 j (by omega) (by omega), q_uf_ne (by omega)]
        · rw [k1 0 (by decide) (by decide)]; rfl
      · rw [cif_p c4] at hK
        have vm : vp_in (nI (S 7 1)) 18 := vp_in_nI hm18 (by decide)
        have cm := nI_clamp (show S 7 1 < 2 ^ 31 by omega)
        have g1 : (q_uf F 0 0) 1 = nI (S 7 0) := hI.1.1
        have g2 : (q_uf F 0 0) 2 = nI (S 7 1) := hI.1.2.1
        rw [g1, g2, cm]
        refine ⟨vm, vm, sg_M_pitch_86 hG ad _ _ _ ?_⟩
        rw [g2, cm]
        refine ⟨vm, m_put ad _ _ hG (m := S 7 1) hs hm18 hI.1.1 (nI_1 _) (fun F' A' k1 k2 k3 k4 k5 k6 k7 k8 => hK F' A' ⟨m_putN hw hI.1 k2 ?_ (fun j h3 h8 => ?_) k5 k6 k7 (k4 4 (by decide) (by decide) (by decide) (by decide)) k8 (k4 6 (by decide) (by decide) (by decide) (by decide)), fun z => absurd k3 z⟩ ?_)⟩
        · rw [k1 2 (by decide) (by decide)]; exact nI_1 _
        · rw [k1 j (by omega) (by omega), q_uf_ne (by omega), q_uf_ne (by omega)]
        · rw [k1 0 (by decide) (by decide)]; rfl
    · have e : S 7 0 = 18 := by
        have : nI (S 7 0) = nI 18 := by rw [← hI.1.1]; exact c3
        exact neq (by omega) (by decide) this
      rw [cif_p e, cif_n (fun z => z.2.2 e)] at hK
      exact hK _ A hI0 rfl
  have no : ¬ w = 0 → njo S → G 44 [] [] (wM cI ad (q_uf F 0 0) A) 0 0 := by
    intro c3 hnj
    rw [cif_p (show ¬ w = 0 ∧ njo S from ⟨c3, hnj⟩), cif_n (show ¬ (inN 128 (nI p) ∧ ¬ (¬ w = 0 ∧ njo S) ∧ ¬ S 7 0 = 18) from fun z => z.2.1 ⟨c3, hnj⟩)] at hK
    exact sg_M_pitch_44 hG ad _ A (hK _ A hI0 rfl)
  refine ⟨fun c3 => go (fun z => z.1 c3), fun c3 => ⟨fun c4 => ?_, fun c4 => ?_⟩⟩
  · rw [hI.1.1] at c4
    exact no c3 (Or.inl (neq (by omega) (by decide) (show nI (S 7 0) = nI 0 from c4)))
  · rw [hI.1.1] at c4
    have h70 : S 7 0 ≠ 0 := fun q => c4 (by rw [q]; rfl)
    have hpos : 0 < S 7 1 := by have := hw.2.1; omega
    have em : nI (S 7 1) - 1 = nI (S 7 1 - 1) := pk_sub (show 1 ≤ S 7 1 from hpos)
    have wm := hw.2.2.1 (S 7 1 - 1) (by omega)
    rw [hI.1.2.1, em, nI_clamp (show S 7 1 - 1 < 2 ^ 31 by omega), (hI.1.2.2.2.2 (S 7 1 - 1) (by omega)).2.1]
    refine ⟨vp_in_nI (by omega) (by decide), fun c5 => go ?_, fun c5 => no c3 (Or.inr ?_)⟩
    · rintro ⟨-, z | z⟩
      · exact h70 z
      · exact c5 (by rw [z]; rfl)
    · exact neq (by omega) (by decide) (show nI _ = nI 3 from c5)
end MS
