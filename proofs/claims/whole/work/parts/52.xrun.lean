/-! the class: the search, whole; what it finds is what is MEANT -/
theorem s2_eq {S : sc_S} (hw : sc_wf S) {m j : Nat} (hm : m < S 7 1) (hj : j < S 4 m) : S 2 (S 3 m + j) = m := by
  have wm := hw.2.2.1 m hm
  have b := hw.2.2.2.2.1 (S 3 m + j) (by omega)
  rcases Nat.lt_trichotomy (S 2 (S 3 m + j)) m with z | z | z
  · have := s3_mono hw (m - S 2 (S 3 m + j)) (S 2 (S 3 m + j)) (by omega) (by omega)
    rw [show S 2 (S 3 m + j) + (m - S 2 (S 3 m + j)) = m by omega] at this
    omega
  · exact z
  · have := s3_mono hw (S 2 (S 3 m + j) - m) m (by omega) (by omega)
    rw [show m + (S 2 (S 3 m + j) - m) = S 2 (S 3 m + j) by omega] at this
    omega
theorem c_sum_min {f : Nat → c_T} : ∀ {n b k : Nat}, c_sum n f = some (b, k) → (∃ t, t < n ∧ ∃ w, f t = some (b, w)) ∧ ∀ t, t < n → ∀ u w, f t = some (u, w) → b ≤ u
  | 0, b, k, h => by cases h
  | n + 1, b, k, h => by
    have h' : c_add (c_sum n f) (f n) = some (b, k) := h
    cases e1 : c_sum n f with
    | none =>
      rw [e1, c_none_add] at h'
      refine ⟨⟨n, by omega, k, h'⟩, fun t ht u w hu => ?_⟩
      rcases Nat.lt_or_ge t n with z | z
      · exfalso
        refine c_sum_ne z ?_ e1
        rw [hu]; intro q; cases q
      · rw [show t = n by omega, h'] at hu
        have := congrArg Prod.fst (Option.some.inj hu)
        exact Nat.le_of_eq this
    | some x =>
      obtain ⟨x1, x2⟩ := x
      obtain ⟨⟨t0, g1, w0, g2⟩, g3⟩ := c_sum_min e1
      rw [e1] at h'
      cases e2 : f n with
      | none =>
        rw [e2] at h'
        have hb : x1 = b := congrArg Prod.fst (Option.some.inj h')
        subst hb
        refine ⟨⟨t0, by omega, w0, g2⟩, fun t ht u w hu => ?_⟩
        rcases Nat.lt_or_ge t n with z | z
        · exact g3 t z u w hu
        · rw [show t = n by omega, e2] at hu; cases hu
      | some y =>
        obtain ⟨y1, y2⟩ := y
        rw [e2] at h'
        have h2 : (if x1 < y1 then some (x1, x2) else if y1 < x1 then some (y1, y2) else some (x1, x2 + y2)) = some (b, k) := h'
        have hb : b ≤ x1 ∧ b ≤ y1 ∧ (b = x1 ∨ b = y1) := by
          split at h2
          · have : x1 = b := congrArg Prod.fst (Option.some.inj h2)
            omega
          · split at h2
            · have : y1 = b := congrArg Prod.fst (Option.some.inj h2)
              omega
            · have : x1 = b := congrArg Prod.fst (Option.some.inj h2)
              omega
        refine ⟨?_, fun t ht u w hu => ?_⟩
        · rcases hb.2.2 with z | z
          · exact ⟨t0, by omega, w0, by rw [z]; exact g2⟩
          · exact ⟨n, by omega, y2, by rw [z]; exact e2⟩
        · rcases Nat.lt_or_ge t n with z | z
          · have := g3 t z u w hu
            omega
          · rw [show t = n by omega, e2] at hu
            have : y1 = u := congrArg Prod.fst (Option.some.inj hu)
            omega
theorem cV_some {S : sc_S} (hw : sc_wf S) {k m s : Nat} (hm : m + k < S 7 1) (hok : xal S m s) : ∃ u w r, rV S k m s = some (r, w) ∧ cV S k m s = some (u, w) ∧ u = xv S m s + r := by
  cases e : rV S k m s with
  | none => exact absurd e (rV_ne hw k m s hm)
  | some x =>
    obtain ⟨r, w⟩ := x
    refine ⟨xv S m s + r, w, r, rfl, ?_, rfl⟩
    rw [cV_r, e, xwV_pos hok]
    show some (xv S m s + r, 1 * w) = _
    rw [Nat.one_mul]
theorem cV_al {S : sc_S} {k m s u w : Nat} (h : cV S k m s = some (u, w)) : xal S m s := by
  refine Classical.byContradiction (fun hn => ?_)
  rw [cV_r, xwV_neg hn, c_none_mul] at h
  cases h
theorem xB_of {S : sc_S} {k m s u w : Nat} (hk : k = S 7 1 - 1 - m) (h : cV S k m s = some (u, w)) : xB S m s = u := by
  unfold xB
  rw [← hk, h]
def xOut (S : sc_S) (F : Nat → Int32) (A : Nat → Nat → Int32) : Prop := ∃ (co si ti : Nat) (na ke : Nat → Nat), sc_Res S co si ti na ke ∧ F 8 = nI co ∧ F 9 = nI si ∧ F 10 = nI ti ∧ co < 100000 ∧ si < 64 ∧ ti ≤ 1000000 ∧ (∀ m, m < S 7 1 → A 13 m = nI (ke m) ∧ ke m < 15) ∧ ∀ m j, m < S 7 1 → j < S 4 m → A 12 (S 3 m + j) = nI (na (S 3 m + j)) ∧ na (S 3 m + j) < 35
theorem x_Res {S : sc_S} (hw : sc_wf S) {F : Nat → Int32} {A : Nat → Nat → Int32} {b k ti : Nat} {p : Nat → Nat} (h0 : 0 < S 7 1) (hb : c_sum (xN S 0) (cV S (S 7 1 - 1) 0) = some (b, k)) (hbB : b ≤ 6000000) (h8 : F 8 = nI (b / 64)) (h9 : F 9 = nI (b % 64)) (h10 : F 10 = nI ti) (hti : c_tr 1000000 (c_sum (xN S 0) (cC S (S 7 1 - 1) 0)) = some (b / 64, ti)) (hg : xGood S p (S 7 1)) (hk : xKept S p (S 7 1) A) : xOut S F A := by
  have hback := g_back (N := xN S) (al := xal S) (v := xv S) (lk := xlv S) (L := S 7 1 - 1) (p := p) (B := xB S)
    (fun s hs hal => xB_of (k := 0) (by omega) (show cV S 0 (S 7 1 - 1) s = some (xv S (S 7 1 - 1) s, 1) from xwV_pos hal))
    (fun m hm s hs hal => by
      obtain ⟨k', ek⟩ : ∃ k', S 7 1 - 1 - m = k' + 1 := ⟨S 7 1 - 1 - m - 1, by omega⟩
      obtain ⟨u, w, r, e1, e2, e3⟩ := cV_some hw (k := k' + 1) (m := m) (s := s) (by omega) hal
      have eB : xB S m s = u := xB_of ek.symm e2
      have e1' : c_sum (xN S (m + 1)) (fun t => c_mul (some (xlv S m s t, 1)) (cV S k' (m + 1) t)) = some (r, w) := e1
      obtain ⟨⟨t0, q1, w0, q2⟩, q3⟩ := c_sum_min e1'
      refine ⟨?_, fun t ht hal2 => ?_⟩
      · have q2' : c_mul (some (xlv S m s t0, 1)) (cV S k' (m + 1) t0) = some (r, w0) := q2
        cases e : cV S k' (m + 1) t0 with
        | none => rw [e, c_mul_none] at q2'; cases q2'
        | some x =>
          obtain ⟨x1, x2⟩ := x
          rw [e] at q2'
          have hr : xlv S m s t0 + x1 = r := congrArg Prod.fst (Option.some.inj q2')
          refine ⟨t0, q1, cV_al e, ?_⟩
          rw [eB, xB_of (by omega) e]
          omega
      · obtain ⟨u2, w2, r2, f1, f2, f3⟩ := cV_some hw (k := k') (m := m + 1) (s := t) (by omega) hal2
        have := q3 t ht (xlv S m s t + u2) (1 * w2) (by show c_mul _ _ = _; rw [f2]; rfl)
        rw [eB, xB_of (by omega) f2]
        omega)
    (by
      obtain ⟨a1, a2, a3⟩ := hg.1 h0
      exact ⟨a1, a2, a3⟩)
    (fun m hm => hg.2 m (by omega))
  obtain ⟨hB, hv⟩ := hback
  have hp := fun m hm => xGood_lt (m := m) hg hm
  have ebv : xB S 0 (p 0) = b := by
    obtain ⟨⟨t0, q1, w0, q2⟩, q3⟩ := c_sum_min hb
    obtain ⟨a1, a2, a3⟩ := hg.1 h0
    have b1 := (a3 t0 q1 (cV_al q2)).1
    rw [xB_of (by omega) q2] at b1
    obtain ⟨u2, w2, r2, f1, f2, f3⟩ := cV_some hw (k := S 7 1 - 1) (m := 0) (s := p 0) (by omega) a2
    have b2 := q3 (p 0) a1 u2 w2 f2
    rw [xB_of (by omega) f2] at b1 ⊢
    omega
  obtain ⟨hB', hv'⟩ := g_Best_map (N' := fun _ => sc_N) (al' := sc_al S) (v' := sc_v S) (lk' := sc_lv S) (xcode S)
    (fun m hm s hs hok => by
      obtain ⟨a1, a2, a3, a4⟩ := xx_1 hw (show m < S 7 1 by omega) hs hok
      exact ⟨a1, a2, by unfold sc_v; rw [a3, a4]; rfl⟩)
    (fun m hm a ha hal => xx_2 hw (show m < S 7 1 by omega) ha hal)
    (fun m hm s t hs h1 ht h2 hst => xx_3 hw (show m < S 7 1 by omega) h1 h2 hst)
    (fun m hm s t hs h1 ht h2 => by unfold sc_lv; rw [xx_4 hw (by omega) h1 h2]; rfl) hB
  rw [hv, ebv] at hv'
  have hnm : ∀ m j, m < S 7 1 → j < S 4 m → opn S (S 3 m + j) (xdg (S 4 m) (p m) j) = xnz S m (p m) j := by
    intro m j hm hj
    unfold xnz
    rw [if_pos hj]
    unfold xn
    rw [xdg_mod (hw.2.2.1 m hm).2.1 hj]
  obtain ⟨na, hna⟩ : ∃ na : Nat → Nat, ∀ m j, m < S 7 1 → j < S 4 m → na (S 3 m + j) = opn S (S 3 m + j) (xdg (S 4 m) (p m) j) := by
    refine ⟨fun i => opn S i (xdg (S 4 (S 2 i)) (p (S 2 i)) (i - S 3 (S 2 i))), fun m j hm hj => ?_⟩
    show opn S (S 3 m + j) (xdg (S 4 (S 2 (S 3 m + j))) (p (S 2 (S 3 m + j))) (S 3 m + j - S 3 (S 2 (S 3 m + j)))) = _
    rw [s2_eq hw hm hj, show S 3 m + j - S 3 m = j by omega]
  refine ⟨b / 64, b % 64, ti, na, fun m => p m / p3 (S 4 m), Or.inr ⟨h0, fun m => xcode S m (p m), hB', by rw [hv'], by rw [hv'], fun m hm => (xcode_key (hp m hm).2).symm, fun m j hm hj => ?_, ?_⟩, h8, h9, h10, by omega, by omega, c_tr_le hti, fun m hm => ⟨(hk m hm).1, ?_⟩, fun m j hm hj => ?_⟩
  · rw [hna m j hm hj, hnm m j hm hj]
    exact (xcode_nm (hp m hm).2 (by have := hw.2.2.1 m hm; omega)).symm
  · rw [← xx_all hw h0]; exact hti
  · have := (hp m hm).1
    unfold xN at this
    exact Nat.div_lt_of_lt_mul (by rw [Nat.mul_comm]; exact this)
  · rw [hna m j hm hj]
    refine ⟨(hk m hm).2 j hj, ?_⟩
    rw [hnm m j hm hj]
    exact xnz_lt (hp m hm).2
def xInv (S : sc_S) (F0 : Nat → Int32) (A0 : Nat → Nat → Int32) (F : Nat → Int32) (A : Nat → Nat → Int32) : Prop := (∀ j, j < 8 → F j = F0 j) ∧ (∀ k, 4 ≤ k → k ≤ 11 → A k = A0 k) ∧ (∀ m, m < S 7 1 → A 15 m = nI (xo S m)) ∧ ∀ k k', k < 15 → k' < 15 → A 21 (15 * k + k') = nI (64 * (S 6 4 * sc_kd k k'))
def xAh (S : sc_S) (m : Nat) (F : Nat → Int32) (A : Nat → Nat → Int32) : Prop := ∃ (pa : Nat) (RV RC : Nat → c_T), (1 ≤ pa ∧ pa ≤ 27) ∧ F 11 = nI pa ∧ xcur (330000 * (S 7 1 - 1 - m)) (15 * pa) RV RC (A 17) (A 18) ∧ ∀ key pick, key < 15 → pick < p3 (S 4 m) → RV (pa * key + pick * pa / p3 (S 4 m)) = rV S (S 7 1 - 1 - m) m (p3 (S 4 m) * key + pick) ∧ RC (pa * key + pick * pa / p3 (S 4 m)) = rC S (S 7 1 - 1 - m) m (p3 (S 4 m) * key + pick)
theorem xo_mono (S : sc_S) (m : Nat) : ∀ e, xo S m + 15 * p3 (S 4 m) ≤ xo S (m + 1 + e)
  | 0 => Nat.le_refl _
  | e + 1 => by
    have := xo_mono S m e
    show _ ≤ xo S (m + 1 + e) + 15 * p3 (S 4 (m + 1 + e))
    omega
section XRun
variable {cI : ClassId} {tv : Nat} {K : q_K}
theorem x_run (ad : Nat → Nat) (F : Nat → Int32) (A : Nat → Nat → Int32) {S : sc_S} (hw : sc_wf S) (hR : xR S F A) (hK : ∀ (F' : Nat → Int32) (A' : Nat → Nat → Int32), (∀ j, j < 8 → F' j = F j) → (∀ k, 4 ≤ k → k ≤ 11 → A' k = A k) → xOut S F' A' → K none (wX cI ad F' A')) : T_R_run cI tv [.ref (ad 3)] (wX cI ad F A) K := by
  refine ⟨q_le0 _ _ rfl, fun G hG => ?_⟩
  have hM := wf_M hw
  refine sg_R_run_0 hG ad F A ?_
  refine sg_R_run_10 hG ad _ A ⟨fun c => ?_, fun c => ?_⟩
  · have h0 : 0 < S 7 1 := by
      have c' : ¬ F 2 = 0 := c
      rw [hR.2.1] at c'
      have := nne (by omega) (by decide) (show ¬ nI (S 7 1) = nI 0 from c')
      omega
    refine x_layOut ad _ A hw (xR_of hR (fun j hj => by rw [q_uf_ne (by omega), q_uf_ne (by omega), q_uf_ne (by omega)]) (fun k _ _ => rfl)) (fun A1 k1 f1 => ?_)
    refine sg_R_run_30 hG ad _ A1 ?_
    refine x_linkKeys ad _ A1 (S := S) (xR_of hR (fun j hj => by rw [q_uf_ne (by omega), q_uf_ne (by omega), q_uf_ne (by omega)]) (fun k hk hk2 => k1 k (by omega))) (fun A2 k2 f2 => ?_)
    refine sg_R_run_34 hG ad _ A2 ?_
    refine x_lookAtTheEnd ad _ A2 (fun A3 k3 f3 => ?_)
    refine sg_R_run_38 hG ad _ A3 ?_
    have inv0 : ∀ F', (∀ j, j < 8 → F' j = F j) → xInv S F A F' A3 := by
      intro F' hF
      refine ⟨hF, fun k hk hk2 => by rw [k3 k (by omega) (by omega), k2 k (by omega), k1 k (by omega)], fun m hm => ?_, fun k k' g1 g2 => ?_⟩
      · rw [k3 15 (by decide) (by decide), k2 15 (by decide)]; exact f1 m hm
      · rw [k3 21 (by decide) (by decide)]; exact f2 k k' g1 g2
    have loop : ∀ (m : Nat) (F' : Nat → Int32) (A' : Nat → Nat → Int32), m ≤ S 7 1 → xInv S F A F' A' → (∀ i, m ≤ i → i < S 7 1 → xVal S i (A' 14)) → (∀ i, m = i + 1 → xAh S i F' A') → (m = 0 → xcur (xBk (S 7 1 - 1)) (xN S 0) (cV S (S 7 1 - 1) 0) (cC S (S 7 1 - 1) 0) (A' 14) (A' 16)) → G 48 [(0, .ref (ad 3)), (1, .int (nI m - 1))] [] (wX cI ad F' A') 0 0 := by
      intro m
      induction m with
      | zero =>
        intro F' A' hm hI hv hA hc
        have hR' : xR S F' A' := xR_of hR hI.1 hI.2.1
        refine sg_R_run_48 hG ad F' A' _ ⟨fun _ => ?_, fun c => absurd (by decide) c⟩
        have hne : c_sum (xN S 0) (cV S (S 7 1 - 1) 0) ≠ none := by
          obtain ⟨t, t1, t2⟩ := xal_ex hw h0
          obtain ⟨u, w, r, -, e, -⟩ := cV_some hw (k := S 7 1 - 1) (m := 0) (s := t) (by omega) t2
          refine c_sum_ne t1 ?_
          rw [e]; intro q; cases q
        have hxb : xBk (S 7 1 - 1) ≤ 6000000 := by unfold xBk; omega
        refine x_countChoices ad F' A' hw hR' h0 (by omega) (hc rfl) hne (fun F2 b k ti g1 g2 g3 g4 g5 g6 g7 => ?_)
        refine sg_R_run_78 hG ad F2 A' _ ?_
        refine x_readOff ad F2 A' hw (xR_of hR' (fun j hj => g1 j (by omega) (by omega) (by omega)) (fun _ _ _ => rfl)) hI.2.2.1 hI.2.2.2 (fun i hi => hv i (Nat.zero_le _) hi) (fun A4 p e1 e2 e3 => ?_)
        refine sg_R_run_82 hG ad F2 A4 _ ?_
        exact hK F2 A4 (fun j hj => by rw [g1 j (by omega) (by omega) (by omega)]; exact hI.1 j hj) (fun k a1 a2 => by rw [e1 k (by omega) (by omega) (by omega)]; exact hI.2.1 k a1 a2) (x_Res hw h0 g2 (by omega) g4 g5 g6 g7 e2 e3)
      | succ m ih =>
        intro F' A' hm hI hv hA hc
        have hR' : xR S F' A' := xR_of hR hI.1 hI.2.1
        obtain ⟨pa, RV, RC, hpa, h11, hcur, hrel⟩ := hA m rfl
        have hP := p3_pos (S 4 m)
        rw [nI_pred m]
        refine sg_R_run_48 hG ad F' A' _ ⟨fun c => absurd (nlt' (by omega) (by decide) (show nI m < nI 0 from c)) (Nat.not_lt_zero m), fun _ => ?_⟩
        have hav : ∀ x, x < 15 * pa → A' 17 x = nI ((A' 17 x).toNatClampNeg) ∧ A' 18 x = nI ((A' 18 x).toNatClampNeg) := by
          intro x hx
          obtain ⟨a, n, e1, e2, e3⟩ := hcur x hx
          have := xrep_le (by omega) e3
          rw [e1, e2, nI_clamp (by omega), nI_clamp (by omega)]
          exact ⟨rfl, rfl⟩
        refine x_weigh ad F' A' hw hR' (av := fun x => (A' 17 x).toNatClampNeg) (aw := fun x => (A' 18 x).toNatClampNeg) (by omega) hpa h11 (hI.2.2.1 m (by omega)) hav (fun A5 e1 e2 e3 => ?_)
        have hcw : xcur (xBk (S 7 1 - 1 - m)) (xN S m) (cV S (S 7 1 - 1 - m) m) (cC S (S 7 1 - 1 - m) m) (fun x => A5 14 (xo S m + x)) (A5 16) := by
          intro x hx
          have hx2 : x / p3 (S 4 m) < 15 := Nat.div_lt_of_lt_mul (by unfold xN at hx; rw [Nat.mul_comm]; exact hx)
          have hx3 : x % p3 (S 4 m) < p3 (S 4 m) := Nat.mod_lt _ hP.1
          have ex : p3 (S 4 m) * (x / p3 (S 4 m)) + x % p3 (S 4 m) = x := Nat.div_add_mod _ _
          have hfr : pa * (x / p3 (S 4 m)) + x % p3 (S 4 m) * pa / p3 (S 4 m) < 15 * pa := by
            refine ix_lt ?_ hx2
            exact Nat.div_lt_of_lt_mul (by rw [Nat.mul_comm (p3 (S 4 m)) pa, Nat.mul_comm _ pa]; exact Nat.mul_lt_mul_of_pos_left hx3 (by omega))
          obtain ⟨a, n, q1, q2, q3⟩ := hcur _ hfr
          have hle := xrep_le (by omega) q3
          obtain ⟨r1, r2⟩ := hrel _ _ hx2 hx3
          rw [r1, r2] at q3
          have h := xcell_rep hw (k := S 7 1 - 1 - m) rfl (by omega) hx2 hx3 (e2 _ _ hx2 hx3) (a := a) (n := n) (by show (A' 17 _).toNatClampNeg = a; rw [q1, nI_clamp (by omega)]) (by show (A' 18 _).toNatClampNeg = n; rw [q2, nI_clamp (by omega)]) q3
          rw [ex] at h
          exact h
        have hI5 : xInv S F A F' A5 := by
          refine ⟨hI.1, fun k a1 a2 => by rw [e1 k (by omega) (by omega) (by omega)]; exact hI.2.1 k a1 a2, ?_, ?_⟩
          · rw [e1 15 (by decide) (by decide) (by decide)]; exact hI.2.2.1
          · rw [e1 21 (by decide) (by decide) (by decide)]; exact hI.2.2.2
        have hv5 : ∀ i, m ≤ i → i < S 7 1 → xVal S i (A5 14) := by
          intro i hi1 hi2
          rcases Nat.lt_or_ge m i with z | z
          · intro t ht
            have mono := xo_mono S m (i - m - 1)
            rw [show m + 1 + (i - m - 1) = i by omega] at mono
            rw [e3 _ (Or.inr (by omega))]
            exact hv i (by omega) hi2 t ht
          · have ei : i = m := by omega
            subst ei
            intro t ht
            obtain ⟨a, n, q1, q2, q3⟩ := hcw t ht
            have q1' : A5 14 (xo S i + t) = nI a := q1
            refine ⟨fun hal => ?_, fun hal => ?_⟩
            · rcases q3 with ⟨y1, -⟩ | ⟨k, y1, y2, -⟩
              · obtain ⟨u, w, r, -, e, -⟩ := cV_some hw (k := S 7 1 - 1 - i) (m := i) (s := t) (by omega) hal
                rw [e] at y1; cases y1
              · rw [q1', xB_of rfl y1]
                refine ⟨rfl, ?_⟩
                unfold xBk at y2
                omega
            · rcases q3 with ⟨-, -, y1, -⟩ | ⟨k, y1, -, -⟩
              · rw [q1', y1]
              · exact absurd (cV_al y1) hal
        have enext : nI m + (-1) = nI m - 1 := (Int32.sub_eq_add_neg (nI m) 1).symm
        refine sg_R_run_57 hG ad F' A5 _ ⟨fun c => ?_, fun c => ?_⟩
        · have hz : m = 0 := by
            have := nge (by omega) (by decide) (show nI m ≤ nI 0 from c)
            omega
          rw [enext]
          refine ih F' A5 (by omega) hI5 hv5 (fun i hi => by omega) (fun _ => ?_)
          subst hz
          have e0 : ∀ x, xo S 0 + x = x := fun x => Nat.zero_add x
          intro x hx
          obtain ⟨a, n, q1, q2, q3⟩ := hcw x hx
          have q1' : A5 14 (xo S 0 + x) = nI a := q1
          rw [e0] at q1'
          exact ⟨a, n, q1', q2, q3⟩
        · have hpos : 0 < m := by
            have := nng (by omega) (by decide) (show ¬ nI m ≤ nI 0 from c)
            omega
          obtain ⟨i, rfl⟩ : ∃ i, m = i + 1 := ⟨m - 1, by omega⟩
          rw [nI_pred i]
          refine x_lookAheadFrom ad F' A5 hw (xR_of hR hI5.1 hI5.2.1) (by omega) (by unfold xBk; omega) (hI5.2.2.1 (i + 1) (by omega)) hI5.2.2.2 hcw (fun A6 d1 d2 => ?_)
          refine sg_R_run_68 hG ad _ A6 _ ?_
          rw [enext]
          have hk1 : S 7 1 - 1 - i = (S 7 1 - 1 - (i + 1)) + 1 := by omega
          refine ih _ A6 (by omega) ⟨fun j hj => by rw [q_uf_ne (by omega)]; exact hI5.1 j hj, fun k a1 a2 => by rw [d1 k (by omega) (by omega) (by omega) (by omega) (by omega)]; exact hI5.2.1 k a1 a2, by rw [d1 15 (by decide) (by decide) (by decide) (by decide) (by decide)]; exact hI5.2.2.1, by rw [d1 21 (by decide) (by decide) (by decide) (by decide) (by decide)]; exact hI5.2.2.2⟩ (by rw [d1 14 (by decide) (by decide) (by decide) (by decide) (by decide)]; exact fun j g1 g2 => hv5 j g1 g2) (fun i2 hi2 => ?_) (fun z => by omega)
          have ei : i2 = i := by omega
          subst ei
          refine ⟨p3 (S 4 (i2 + 1)), fm (15 * p3 (S 4 (i2 + 1))) 1 (fun h g => 64 * xL S i2 (S 4 (i2 + 1)) h g) (cV S (S 7 1 - 1 - (i2 + 1)) (i2 + 1)), fm (15 * p3 (S 4 (i2 + 1))) 1 (xL S i2 (S 4 (i2 + 1))) (cC S (S 7 1 - 1 - (i2 + 1)) (i2 + 1)), p3_pos _, rfl, ?_, fun key pick g1 g2 => ⟨?_, ?_⟩⟩
          · intro x hx
            obtain ⟨a, n, q1, q2, q3⟩ := d2 x hx
            exact ⟨a, n, q1, q2, xrep_mono q3 (by unfold xBk; omega)⟩
          · rw [hk1]
            show fm _ _ _ _ _ = c_sum (15 * p3 (S 4 (i2 + 1))) (fun t => c_mul (some (xlv S i2 (p3 (S 4 i2) * key + pick) t, 1)) (cV S (S 7 1 - 1 - (i2 + 1)) (i2 + 1) t))
            unfold fm
            rw [Nat.div_one, Nat.mod_one]
            refine c_sum_congr (fun t ht => ?_)
            show c_mul (some (64 * xL S i2 (S 4 (i2 + 1)) (p3 (S 4 (i2 + 1)) * key + pick * p3 (S 4 (i2 + 1)) / p3 (S 4 i2)) t, 1)) _ = _
            rw [xL_eq hw hm g1 g2 ht, Nat.one_mul]
            rfl
          · rw [hk1]
            show fm _ _ _ _ _ = c_sum (15 * p3 (S 4 (i2 + 1))) (fun t => c_mul (some (xlk S i2 (p3 (S 4 i2) * key + pick) t, 1)) (cC S (S 7 1 - 1 - (i2 + 1)) (i2 + 1) t))
            unfold fm
            rw [Nat.div_one, Nat.mod_one]
            refine c_sum_congr (fun t ht => ?_)
            rw [xL_eq hw hm g1 g2 ht, Nat.one_mul]
            rfl
    have e2 : (q_uf (q_uf (q_uf (q_uf F 8 0) 9 0) 10 1) 11 1) 2 = nI (S 7 1) := by
      rw [q_uf_ne (by decide), q_uf_ne (by decide), q_uf_ne (by decide), q_uf_ne (by decide)]; exact hR.2.1
    rw [e2]
    refine loop (S 7 1) _ A3 (Nat.le_refl _) (inv0 _ (fun j hj => by rw [q_uf_ne (by omega), q_uf_ne (by omega), q_uf_ne (by omega), q_uf_ne (by omega)])) (fun i g1 g2 => by omega) (fun i hi => ?_) (fun z => by omega)
    refine ⟨1, fun _ => some (0, 1), fun _ => some (0, 1), ⟨by decide, by decide⟩, rfl, fun x hx => ⟨0, 1, (f3 x (by omega)).1, (f3 x (by omega)).2, Or.inr ⟨1, rfl, Nat.zero_le _, rfl⟩⟩, fun key pick g1 g2 => ?_⟩
    rw [show S 7 1 - 1 - i = 0 by omega]
    exact ⟨rfl, rfl⟩
  · have hz : S 7 1 = 0 := by
      have c' : F 2 = 0 := c
      rw [hR.2.1] at c'
      exact neq (by omega) (by decide) (show nI (S 7 1) = nI 0 from c')
    exact hK _ A (fun j hj => by rw [q_uf_ne (by omega), q_uf_ne (by omega), q_uf_ne (by omega)]) (fun _ _ _ => rfl) ⟨0, 0, 1, fun _ => 0, fun _ => 0, Or.inl ⟨hz, rfl, rfl, rfl⟩, rfl, rfl, rfl, by decide, by decide, by decide, fun m hm => by omega, fun m j hm => by omega⟩
end XRun
