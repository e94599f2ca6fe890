/-! the model: find, whole -/
section MF2
variable {cI : ClassId} {tv : Nat} {K : q_K} {G : q_G}
def mSel (S : sc_S) (l : Nat) (c g r : Nat → Nat) (k q : Nat) : Prop := q < k ∧ mS S l q ∧ ∀ s, s < k → mS S l s → c q < c s ∨ (c q = c s ∧ (g q < g s ∨ (g q = g s ∧ r q ≤ r s)))
theorem m_find_sel (hG : q_Cl (F_M_find cI tv K) G) (ad : Nat → Nat) (F : Nat → Int32) (A : Nat → Nat → Int32) {S : sc_S} {l : Nat} {c g r n : Nat → Nat} (hE : ∀ s, s < 405 → mEnt S l c g r n A s) (hb : ∀ s, s < 405 → mS S l s → c s < 100000 ∧ g s < 64 ∧ r s < 405) (hex : ∃ s, s < 405 ∧ mS S l s)
    (hEnd : ∀ q, mSel S l c g r 405 q → G 188 [(0, .ref (ad 0)), (1, .int (nI q))] [] (wM cI ad (q_uf (q_uf F 11 (nI (c q))) 12 (nI (g q))) A) 0 0) :
    ∀ (d s : Nat) (x1 : Int32), s + d = 405 → (((∀ t, t < s → ¬ mS S l t) ∧ x1 = -1) ∨ ∃ q, mSel S l c g r s q ∧ x1 = nI q) → G 65 [(0, .ref (ad 0)), (1, .int x1), (2, .int (nI s))] [] (wM cI ad F A) 0 0 := by
  intro d
  induction d with
  | zero =>
    intro s x1 hd hI
    have : s = 405 := by omega
    subst this
    rcases hI with ⟨h, -⟩ | ⟨q, h1, h2⟩
    · obtain ⟨t, t1, t2⟩ := hex
      exact absurd t2 (h t t1)
    · subst h2
      have hq : q < 405 := h1.1
      obtain ⟨a10, a11, a12, a13⟩ := (hE q hq).1 h1.2.1
      refine sg_M_find_65 hG ad F A (nI q) (nI 405) ⟨fun _ => ?_, fun cc => absurd (show nI 405 ≤ nI 405 from nI_le (Nat.le_refl _) (by decide)) cc⟩
      rw [nI_clamp (by omega), a10, a11]
      exact ⟨vp_in_nI hq (by decide), vp_in_nI hq (by decide), hEnd q h1⟩
  | succ d ih =>
    intro s x1 hd hI
    have hs : s < 405 := by omega
    have hin : vp_in (nI s) 405 := vp_in_nI hs (by decide)
    have hcl : (nI s).toNatClampNeg = s := nI_clamp (by omega)
    refine sg_M_find_65 hG ad F A x1 (nI s) ⟨fun cc => absurd (nge (by decide) (by omega) (show nI 405 ≤ nI s from cc)) (by omega), fun _ => ⟨hin, ?_⟩⟩
    rw [hcl, show nI s + 1 = nI (s + 1) from nI_1 s]
    by_cases hok : mS S l s
    · obtain ⟨a10, a11, a12, a13⟩ := (hE s hs).1 hok
      obtain ⟨b1, b2, b3⟩ := hb s hs hok
      rw [a10, a11]
      have take : (∀ t, t < s → mS S l t → c s < c t ∨ (c s = c t ∧ (g s < g t ∨ (g s = g t ∧ r s ≤ r t)))) → G 65 [(0, .ref (ad 0)), (1, .int (nI s)), (2, .int (nI (s + 1)))] [] (wM cI ad F A) 0 0 := by
        intro h
        refine ih (s + 1) (nI s) (by omega) (Or.inr ⟨s, ⟨by omega, hok, fun t ht hok2 => ?_⟩, rfl⟩)
        rcases Nat.lt_or_ge t s with z | z
        · exact h t z hok2
        · rw [show t = s by omega]; exact Or.inr ⟨rfl, Or.inr ⟨rfl, Nat.le_refl _⟩⟩
      have take2 : (∀ t, t < s → mS S l t → c s < c t ∨ (c s = c t ∧ (g s < g t ∨ (g s = g t ∧ r s ≤ r t)))) → G 160 [(0, .ref (ad 0)), (2, .int (nI s))] [] (wM cI ad F A) 0 0 := by
        intro h
        refine sg_M_find_160 hG ad F A (nI s) ?_
        rw [show nI s + 1 = nI (s + 1) from nI_1 s]
        exact take h
      refine ⟨fun cc => absurd cc (nI_pos (by omega)), fun _ => ?_⟩
      rcases hI with ⟨hno, e1⟩ | ⟨q, ⟨q1, q2, q3⟩, e1⟩
      · subst e1
        exact ⟨fun _ => take (fun t ht hok2 => absurd hok2 (hno t ht)), fun cc => absurd (by decide) cc⟩
      · subst e1
        obtain ⟨p1, p2, p3⟩ := hb q (by omega) q2
        obtain ⟨t10, t11, t12, t13⟩ := (hE q (by omega)).1 q2
        have hinq : vp_in (nI q) 405 := vp_in_nI (by omega) (by decide)
        rw [nI_clamp (show q < 2 ^ 31 by omega), t10, t11]
        have stay : (c q < c s ∨ (c q = c s ∧ (g q < g s ∨ (g q = g s ∧ r q ≤ r s)))) → G 65 [(0, .ref (ad 0)), (1, .int (nI q)), (2, .int (nI (s + 1)))] [] (wM cI ad F A) 0 0 := by
          intro h
          refine ih (s + 1) (nI q) (by omega) (Or.inr ⟨q, ⟨by omega, q2, fun t ht hok2 => ?_⟩, rfl⟩)
          rcases Nat.lt_or_ge t s with z | z
          · exact q3 t z hok2
          · rw [show t = s by omega]; exact h
        have better : (c s < c q ∨ (c s = c q ∧ (g s < g q ∨ (g s = g q ∧ r s < r q)))) → ∀ t, t < s → mS S l t → c s < c t ∨ (c s = c t ∧ (g s < g t ∨ (g s = g t ∧ r s ≤ r t))) := by
          intro h t ht hok2
          have := q3 t ht hok2
          omega
        refine ⟨fun cc => absurd cc (nI_pos (by omega)), fun _ => ⟨hin, hinq, fun c1 => take (better (Or.inl (nlt' (by omega) (by omega) c1))), fun c1 => ⟨hin, hinq, fun c2 => stay (Or.inl (by have := nnl (by omega) (by omega) c1; have := nne (by omega) (by omega) c2; omega)), fun c2 => ⟨hin, hinq, fun c3 => take2 (better (Or.inr ⟨neq (by omega) (by omega) c2, Or.inl (nlt' (by omega) (by omega) c3)⟩)), fun c3 => ?_⟩⟩⟩⟩
        have ec := neq (by omega) (by omega) c2
        have eg := nnl (by omega) (by omega) c3
        refine sg_M_find_130 hG ad F A (nI q) (nI s) ?_
        rw [hcl, nI_clamp (show q < 2 ^ 31 by omega), a11, t11, a12, t12, show nI s + 1 = nI (s + 1) from nI_1 s]
        exact ⟨hin, hinq, fun c4 => stay (Or.inr ⟨ec.symm, Or.inl (by have := nne (by omega) (by omega) c4; omega)⟩), fun c4 => ⟨hin, hinq, fun c5 => stay (Or.inr ⟨ec.symm, Or.inr ⟨(neq (by omega) (by omega) c4).symm, nge (by omega) (by omega) c5⟩⟩), fun c5 => take2 (better (Or.inr ⟨ec, Or.inr ⟨neq (by omega) (by omega) c4, nng (by omega) (by omega) c5⟩⟩))⟩⟩
    · rw [(hE s hs).2 hok]
      refine ⟨fun _ => ih (s + 1) x1 (by omega) ?_, fun cc => absurd (by decide) cc⟩
      rcases hI with ⟨hno, e1⟩ | ⟨q, ⟨q1, q2, q3⟩, e1⟩
      · refine Or.inl ⟨fun t ht => ?_, e1⟩
        rcases Nat.lt_or_ge t s with z | z
        · exact hno t z
        · rw [show t = s by omega]; exact hok
      · refine Or.inr ⟨q, ⟨by omega, q2, fun t ht hok2 => ?_⟩, e1⟩
        rcases Nat.lt_or_ge t s with z | z
        · exact q3 t z hok2
        · rw [show t = s by omega] at hok2; exact absurd hok2 hok
theorem m_find (ad : Nat → Nat) (F : Nat → Int32) (A : Nat → Nat → Int32) {S : sc_S} (hw : sc_wf S) (hR : mR S F A) (hkn : ¬ F 10 = 0 → mOut S F A)
    (hK : ∀ (F' : Nat → Int32) (A' : Nat → Nat → Int32), (∀ j, j < 8 → F' j = F j) → (∀ k, k ≤ 6 → A' k = A k) → ¬ F' 10 = 0 → mOut S F' A' → K none (wM cI ad F' A')) : T_M_find cI tv [.ref (ad 0)] (wM cI ad F A) K := by
  refine ⟨q_le0 _ _ rfl, fun G hG => ?_⟩
  have hM := wf_M hw
  refine sg_M_find_0 hG ad F A ⟨fun _ => ?_, fun cc => hK F A (fun _ _ => rfl) (fun _ _ => rfl) cc (hkn cc)⟩
  refine sg_M_find_18 hG ad _ A ?_
  generalize hF0 : q_uf (q_uf (q_uf (q_uf F 10 1) 11 0) 12 0) 13 1 = F0
  have f8 : ∀ j, j < 10 → F0 j = F j := fun j hj => by rw [← hF0, q_uf_ne (by omega), q_uf_ne (by omega), q_uf_ne (by omega), q_uf_ne (by omega)]
  have f10 : F0 10 = 1 := by rw [← hF0]; rfl
  have f11 : F0 11 = 0 := by rw [← hF0]; rfl
  have f12 : F0 12 = 0 := by rw [← hF0]; rfl
  have f13 : F0 13 = 1 := by rw [← hF0]; rfl
  have hR0 : mR S F0 A := mR_of hR (fun j hj => f8 j (by omega)) (fun k _ => rfl)
  have hn18 := hw.1
  refine sg_M_find_28 hG ad F0 A ⟨fun cc => ?_, fun cc => ?_⟩
  · rw [f8 1 (by decide), hR.1] at cc
    have hpos : 0 < S 7 1 := by
      rcases Nat.eq_zero_or_pos (S 7 1) with z | z
      · exact absurd (by rw [hw.2.1.mp z]; rfl) cc
      · exact z
    refine m_begin ad F0 A hw hR0 hpos (fun F1 A1 g1 g2 g3 g4 => ?_)
    refine sg_M_find_40 hG ad F1 A1 ?_
    -- the end, at the last layer
    have fin : ∀ (F2 : Nat → Int32) (A2 : Nat → Nat → Int32) (c g r n fr : Nat → Nat → Nat), mFF F0 F2 → (∀ k, k < 7 → A2 k = A k) → mHist S (S 7 1 - 1) c g r n fr → (∀ s, s < 405 → mEnt S (S 7 1 - 1) (c (S 7 1 - 1)) (g (S 7 1 - 1)) (r (S 7 1 - 1)) (n (S 7 1 - 1)) A2 s) → (∀ k, 1 ≤ k → k < S 7 1 → ∀ s, s < 405 → mS S k s → A2 18 (405 * k + s) = nI (fr k s)) → G 65 [(0, .ref (ad 0)), (1, .int (-1)), (2, .int 0)] [] (wM cI ad F2 A2) 0 0 := by
      intro F2 A2 c g r n fr hF2 hA2 hh hE h18
      have hu := mHist_use hw (show S 7 1 - 1 < S 7 1 by omega) hh
      have hul := hu (S 7 1 - 1) (Nat.le_refl _)
      refine m_find_sel (K := K) hG ad F2 A2 hE (fun s h1 h2 => ⟨(hul s h1 h2).1, (hul s h1 h2).2.1, (hul s h1 h2).2.2.1⟩) (mS_ex hw (by omega)) (fun q hq => ?_) 405 0 (-1) rfl (Or.inl ⟨fun t ht => absurd ht (Nat.not_lt_zero t), rfl⟩)
      obtain ⟨hB1, hB2⟩ := mHist_best hw (show S 7 1 - 1 < S 7 1 by omega) hh ⟨hq.1, hq.2.1, hq.2.2⟩
      obtain ⟨u1, u2, u3, u4⟩ := hul q hq.1 hq.2.1
      refine sg_M_find_188 hG ad _ A2 (nI q) ?_
      generalize hF3 : q_uf (q_uf F2 11 (nI (c (S 7 1 - 1) q))) 12 (nI (g (S 7 1 - 1) q)) = F3
      have t11 : F3 11 = nI (c (S 7 1 - 1) q) := by rw [← hF3]; rfl
      have t12 : F3 12 = nI (g (S 7 1 - 1) q) := by rw [← hF3]; rfl
      have tlo : ∀ j, j < 8 → F3 j = F j := fun j hj => by rw [← hF3, q_uf_ne (by omega), q_uf_ne (by omega), hF2 j (by omega) (by omega)]; exact f8 j (by omega)
      have t10 : F3 10 = 1 := by rw [← hF3, q_uf_ne (by omega), q_uf_ne (by omega), hF2 10 (by omega) (by omega)]; exact f10
      refine m_find_many (K := K) (S := S) (l := S 7 1 - 1) (c := c (S 7 1 - 1)) (n := n (S 7 1 - 1)) (cf := mcf S (S 7 1 - 1)) hG ad F3 A2 (nI q) u1 t11 (fun s hs => ⟨fun hok => ⟨((hE s hs).1 hok).1, ((hE s hs).1 hok).2.2.2⟩, (hE s hs).2⟩) (fun s hs hok => ⟨(hul s hs hok).1, by have := hq.2.2 s hs hok; omega, (hul s hs hok).2.2.2⟩) (fun s hs hok => mcf_none hok) ⟨q, hq.1, hq.2.1, rfl⟩ (fun F4 ti h13 hti hsum => ?_) 405 0 (q_uf F3 13 0) rfl (fun j hj => q_uf_ne hj) (Or.inr ⟨rfl, fun t ht => absurd ht (Nat.not_lt_zero t), Or.inl rfl⟩)
      have e2 : F3 2 - 1 = nI (S 7 1) - 1 := by rw [tlo 2 (by decide), hR.2.1]
      rw [e2]
      have hR4 : mR S F4 A2 := mR_of hR (fun j hj => by rw [h13 j (by omega)]; exact tlo j hj) (fun k hk => hA2 k (by omega))
      refine m_find_back (K := K) (b := q) (fr := fr) hG ad F4 A2 hw hR4 hpos hB1.1 h18 (fun A' a1 a2 a3 => ?_) (S 7 1) (nI q) A2 (Nat.le_refl _) (fun j _ => rfl) (fun _ => by rw [g_way_last]) (fun m h1 h2 => absurd h1 (by omega)) (fun m j h1 h2 => absurd h1 (by omega))
      refine hK F4 A' (fun j hj => by rw [h13 j (by omega)]; exact tlo j hj) (fun k hk => by rw [a1 k (by omega)]; exact hA2 k (by omega)) (by rw [h13 10 (by decide), t10]; decide) (Or.inr ⟨hpos, g_way fr (S 7 1 - 1) q, c (S 7 1 - 1) q, g (S 7 1 - 1) q, ti, hB1, hB2, u2, u1, hsum, ?_, ?_, hti, a2, a3⟩)
      · rw [h13 11 (by decide)]; exact t11
      · rw [h13 12 (by decide)]; exact t12
    -- the layers
    have loop : ∀ (d l : Nat) (F2 : Nat → Int32) (A2 : Nat → Nat → Int32) (c g r n fr : Nat → Nat → Nat), l + 1 + d = S 7 1 → mFF F0 F2 → (∀ k, k < 7 → A2 k = A k) → mNms S l (A2 7) → mHist S l c g r n fr → (∀ s, s < 405 → mEnt S l (c l) (g l) (r l) (n l) A2 s) → (∀ k, 1 ≤ k → k ≤ l → ∀ s, s < 405 → mS S k s → A2 18 (405 * k + s) = nI (fr k s)) → G 42 [(0, .ref (ad 0)), (1, .int (nI (l + 1)))] [] (wM cI ad F2 A2) 0 0 := by
      intro d
      induction d with
      | zero =>
        intro l F2 A2 c g r n fr hd hF2 hA2 hN hh hE h18
        have el : l = S 7 1 - 1 := by omega
        subst el
        refine sg_M_find_42 hG ad F2 A2 _ ⟨fun _ => fin F2 A2 c g r n fr hF2 hA2 hh hE (fun k h1 h2 => h18 k h1 (by omega)), fun c2 => ?_⟩
        rw [hF2 2 (by decide) (by decide), f8 2 (by decide), hR.2.1] at c2
        exact absurd (nI_le (by omega) (by omega)) c2
      | succ d ih =>
        intro l F2 A2 c g r n fr hd hF2 hA2 hN hh hE h18
        have hR2 : mR S F2 A2 := mR_of hR0 (fun j hj => hF2 j (by omega) (by omega)) (fun k hk => hA2 k (by omega))
        have hu := mHist_use hw (show l < S 7 1 by omega) hh l (Nat.le_refl _)
        refine sg_M_find_42 hG ad F2 A2 _ ⟨fun c2 => ?_, fun _ => ?_⟩
        · rw [hF2 2 (by decide) (by decide), f8 2 (by decide), hR.2.1] at c2
          have := nge (by omega) (by omega) c2
          omega
        · refine m_goOn (m := l) (c := c l) (g := g l) (r := r l) (n := n l) (cf := mcf S l) ad F2 A2 hw hR2 (by omega) hN hE hu (fun b hb hok => mcf_none hok) (fun F3 A3 c' g' r' n' fr' k1 k2 k3 k4 k5 => ?_)
          refine sg_M_find_55 hG ad F3 A3 _ ?_
          rw [show nI (l + 1) + 1 = nI (l + 1 + 1) from nI_1 (l + 1)]
          refine ih (l + 1) F3 A3 (lu c l c') (lu g l g') (lu r l r') (lu n l n') (lu fr l fr') (by omega) (fun j h8 h9 => by rw [k1 j h8 h9]; exact hF2 j h8 h9) (fun k hk => by rw [k2 k (by omega)]; exact hA2 k hk) k3 (mHist_next hh k5) (fun s hs => ?_) (fun k h1 h2 s hs hok => ?_)
          · simp only [lu_eq]
            exact k5.1 s hs
          · rcases Nat.lt_or_ge k (l + 1) with z | z
            · simp only [lu_ne (show k ≠ l + 1 by omega)]
              rw [k4 _ (by omega)]
              exact h18 k h1 (by omega) s hs hok
            · have : k = l + 1 := by omega
              subst this
              simp only [lu_eq]
              exact (k5.2 s hs hok).2.2.2.2.2
    refine loop (S 7 1 - 1) 0 F1 A1 (fun _ => lC S 0) (fun _ => lG S 0) (fun _ s => s) (fun _ _ => 1) (fun _ _ => 0) (by omega) g1 (fun k hk => g2 k (by omega) (by omega)) g3 ⟨fun s _ _ => ⟨rfl, rfl, rfl⟩, fun k hk => absurd hk (Nat.not_lt_zero k), fun k hk s hs hok => ?_⟩ g4 (fun k h1 h2 => absurd h1 (by omega))
    have : k = 0 := by omega
    subst this
    show c_tr 1000000 (mw S 0 s) = _
    rw [mw_pos hok]
    rfl
  · rw [f8 1 (by decide), hR.1] at cc
    have h0 : S 7 0 = 0 := neq (by omega) (by decide) (show nI (S 7 0) = nI 0 from cc)
    exact hK F0 A (fun j hj => f8 j (by omega)) (fun k _ => rfl) (by rw [f10]; decide) (Or.inl ⟨hw.2.1.mpr h0, f11, f12, f13⟩)
end MF2
