/-! the class: the names of a pick, and what they pay -/
def xn (S : sc_S) (m pick j : Nat) : Nat := opn S (S 3 m + j) (xdg (S 4 m) pick j)
def xfit1 (S : sc_S) (m pick j : Nat) : Prop := xn S m pick j < 35 ∧ (S 1 (S 3 m + j) = 35 ∨ S 1 (S 3 m + j) = xn S m pick j)
def xfit (S : sc_S) (m pick : Nat) : Prop := ∀ j, j < S 4 m → xfit1 S m pick j
def xTr (S : sc_S) (m pick : Nat) (f : Nat → Int32) : Prop := ∀ j, j < S 4 m → f j = nI (xn S m pick j)
theorem xdg_lt (k st j : Nat) : xdg k st j < 3 := Nat.mod_lt _ (by decide)
theorem xn_lt (S : sc_S) (m pick j : Nat) : xn S m pick j < 36 := opn_lt S (xdg_lt _ _ _)
def xpaid (S : sc_S) (m pick k : Nat) : Nat := sc_sum k (fun j => S 6 1 * sc_tw (xn S m pick j) + sc_sum j (fun i => S 6 2 * sc_wide (xn S m pick i) (xn S m pick j)))
def xsgn (S : sc_S) (m pick k : Nat) : Nat := sc_sum k (fun j => sc_sg (xn S m pick j))
def xout (S : sc_S) (m key pick k : Nat) : Nat := sc_sum k (fun j => sc_out key (xn S m pick j))
theorem sx_wide : ∀ d, d < 40 → jf_J_max 0 (nI d - 6) = nI (d - 6) := by decide +kernel
theorem sx_out : ∀ k, k < 15 → ∀ n, n < 36 → jf_J_max 0 (jf_J_max (nI (k + 7) - nI n) (nI n - nI (k + 13))) = nI (sc_out k n) := by decide +kernel
section XT
variable {cI : ClassId} {tv : Nat} {K : q_K}
theorem x_tryNames (ad : Nat → Nat) (F : Nat → Int32) (A : Nat → Nat → Int32) {S : sc_S} (hw : sc_wf S) (hR : xR S F A) {m pick : Nat} (hm : m < S 7 1) (hp : pick < 27) (h1 : xfit S m pick → ∀ f, xTr S m pick f → K (some (.int 1)) (wX cI ad F (q_ua A 23 f))) (h0 : ¬ xfit S m pick → ∀ f, xTr S m pick f → K (some (.int 0)) (wX cI ad F (q_ua A 23 f))) : T_R_tryNames cI tv [.ref (ad 3), .int (nI m), .int (nI pick)] (wX cI ad F A) K := by
  refine ⟨q_le0 _ _ rfl, fun G hG => ?_⟩
  have hM := wf_M hw
  have w := hw.2.2.1 m hm
  have n18 := hw.1
  have r := hR.2.2.2.2 m hm
  refine sg_R_tryNames_0 hG ad F A (nI m) (nI pick) ?_
  rw [nI_clamp (show m < 2 ^ 31 by omega), r.1, r.2.1]
  refine ⟨vp_in_nI (by omega) (by decide), vp_in_nI (by omega) (by decide), ?_⟩
  have loop : ∀ (d j : Nat) (x5 : Int32) (f : Nat → Int32), j + d = S 4 m → ((x5 = 1 ∧ ∀ i, i < j → xfit1 S m pick i) ∨ (x5 = 0 ∧ ¬ ∀ i, i < j → xfit1 S m pick i)) → (∀ i, i < j → f i = nI (xn S m pick i)) → G 27 [(0, .ref (ad 3)), (2, .int (nI pick)), (3, .int (nI (S 4 m))), (4, .int (nI (S 3 m))), (5, .int x5), (6, .int (nI j))] [] (wX cI ad F (q_ua A 23 f)) 0 0 := by
    intro d
    induction d with
    | zero =>
      intro j x5 f hd hI hf
      have e : j = S 4 m := by omega
      subst e
      refine sg_R_tryNames_27 hG ad F _ (nI pick) _ _ x5 _ ⟨fun _ => ?_, fun c => absurd (nI_le (Nat.le_refl _) (by omega)) c⟩
      rcases hI with ⟨e, h⟩ | ⟨e, h⟩
      · subst e; exact ⟨rfl, h1 h f hf⟩
      · subst e; exact ⟨rfl, h0 h f hf⟩
    | succ d ih =>
      intro j x5 f hd hI hf
      refine sg_R_tryNames_27 hG ad F _ (nI pick) _ _ x5 (nI j) ⟨fun c => absurd (nge (by omega) (by omega) c) (by omega), fun _ => ?_⟩
      refine x_digit (by omega) w.2.1 (by omega) ?_
      have hi : S 3 m + j < S 7 0 := by omega
      have hdg := xdg_lt (S 4 m) pick j
      have hx := xn_lt S m pick j
      have ei : (nI (S 3 m) + nI j) * 3 + nI (xdg (S 4 m) pick j) = nI (3 * (S 3 m + j) + xdg (S 4 m) pick j) := by
        rw [nI_add, show (3 : Int32) = nI 3 from rfl, pk_mul, nI_add, Nat.mul_comm]
      refine sg_R_tryNames_60 hG ad F _ (nI pick) _ _ x5 (nI j) _ _ _ ?_
      rw [ei, nI_clamp (show 3 * (S 3 m + j) + xdg (S 4 m) pick j < 2 ^ 31 by omega), nI_clamp (show j < 2 ^ 31 by omega)]
      have ev : (q_ua A 23 f) 10 (3 * (S 3 m + j) + xdg (S 4 m) pick j) = nI (xn S m pick j) := ((hR.2.2.2.1 _ hi).2.2.2 _ hdg).1
      rw [ev, q_ua_ua, show nI j + 1 = nI (j + 1) from nI_1 j]
      have hf2 : ∀ i, i < j + 1 → upd ((q_ua A 23 f) 23) j (nI (xn S m pick j)) i = nI (xn S m pick i) := by
        intro i hi2
        show upd f j _ i = _
        rcases Nat.lt_or_ge i j with z | z
        · rw [pk_un (by omega)]; exact hf i z
        · rw [show i = j by omega, upd_s]
      refine ⟨vp_in_nI (by omega) (by decide), vp_in_nI (by omega) (by decide), fun c => ?_, fun c => ⟨vp_in_nI (by omega) (by decide), ?_⟩⟩
      · refine ih (j + 1) 0 _ (by omega) (Or.inr ⟨rfl, fun h => ?_⟩) hf2
        rcases hI with ⟨e, -⟩ | ⟨-, h2⟩
        · rw [e] at c; exact absurd c (by decide)
        · exact h2 (fun i hi2 => h i (by omega))
      · have hprev : ∀ i, i < j → xfit1 S m pick i := by
          rcases hI with ⟨-, h⟩ | ⟨e, -⟩
          · exact h
          · exact absurd e c
        rw [upd_s, nI_add]
        refine x_allowsName ad F _ hw (xR_of hR (fun _ _ => rfl) (fun k hk hk2 => q_ua_ne (by omega))) hi (by omega) (fun g1 g2 => ?_) (fun g => ?_)
        · refine sg_R_tryNames_87 hG ad F _ (nI pick) _ _ x5 (nI j) 1 ⟨fun c2 => absurd c2 (by decide), fun _ => ?_⟩
          rw [show nI j + 1 = nI (j + 1) from nI_1 j]
          refine ih (j + 1) 1 _ (by omega) (Or.inl ⟨rfl, fun i hi2 => ?_⟩) hf2
          rcases Nat.lt_or_ge i j with z | z
          · exact hprev i z
          · rw [show i = j by omega]; exact ⟨g1, g2⟩
        · refine sg_R_tryNames_87 hG ad F _ (nI pick) _ _ x5 (nI j) 0 ⟨fun _ => ?_, fun c2 => absurd rfl c2⟩
          rw [show nI j + 1 = nI (j + 1) from nI_1 j]
          exact ih (j + 1) 0 _ (by omega) (Or.inr ⟨rfl, fun h => g (h j (by omega))⟩) hf2
  have h := loop (S 4 m) 0 1 (A 23) (by omega) (Or.inl ⟨rfl, fun i hi => absurd hi (Nat.not_lt_zero i)⟩) (fun i hi => absurd hi (Nat.not_lt_zero i))
  rw [q_ua_self] at h
  exact h
theorem x_valueOfTried (ad : Nat → Nat) (F : Nat → Int32) (A : Nat → Nat → Int32) {S : sc_S} (hw : sc_wf S) (hR : xR S F A) {m pick : Nat} (hm : m < S 7 1) (hT : xTr S m pick (A 23)) (hK : K (some (.int (nI (64 * xpaid S m pick (S 4 m) + xsgn S m pick (S 4 m))))) (wX cI ad F A)) : T_R_valueOfTried cI tv [.ref (ad 3), .int (nI m)] (wX cI ad F A) K := by
  refine ⟨q_le0 _ _ rfl, fun G hG => ?_⟩
  have hM := wf_M hw
  have w := hw.2.2.1 m hm
  have r := hR.2.2.2.2 m hm
  have e4 : F 4 = nI (S 6 1) := hR.2.2.1 1 (by decide)
  have e5 : F 5 = nI (S 6 2) := hR.2.2.1 2 (by decide)
  refine sg_R_valueOfTried_0 hG ad F A (nI m) ?_
  rw [nI_clamp (show m < 2 ^ 31 by omega), r.2.1]
  refine ⟨vp_in_nI (by omega) (by decide), ?_⟩
  have loop : ∀ (d j : Nat), j + d = S 4 m → G 18 [(0, .ref (ad 3)), (2, .int (nI (S 4 m))), (3, .int (nI (xpaid S m pick j))), (4, .int (nI (xsgn S m pick j))), (5, .int (nI j))] [] (wX cI ad F A) 0 0 := by
    intro d
    induction d with
    | zero =>
      intro j hd
      have e : j = S 4 m := by omega
      subst e
      refine sg_R_valueOfTried_18 hG ad F A _ _ _ _ ⟨fun _ => ?_, fun c => absurd (nI_le (Nat.le_refl _) (by omega)) c⟩
      rw [show (64 : Int32) = nI 64 from rfl, pk_mul, nI_add]
      exact hK
    | succ d ih =>
      intro j hd
      have hx := xn_lt S m pick j
      refine sg_R_valueOfTried_18 hG ad F A _ _ _ (nI j) ⟨fun c => absurd (nge (by omega) (by omega) c) (by omega), fun _ => ⟨vp_in_nI (by omega) (by decide), ?_⟩⟩
      rw [nI_clamp (show j < 2 ^ 31 by omega), hT j (by omega), sx_abs_signs _ hx]
      have hsg : sc_sg (xn S m pick j) < 4 := by unfold sc_sg; split <;> omega
      have inner : ∀ (e i c0 : Nat), i + e = j → G 69 [(0, .ref (ad 3)), (2, .int (nI (S 4 m))), (3, .int (nI (xpaid S m pick j + S 6 1 * sc_tw (xn S m pick j) + sc_sum i (fun i => S 6 2 * sc_wide (xn S m pick i) (xn S m pick j))))), (4, .int (nI (xsgn S m pick j + sc_sg (xn S m pick j)))), (5, .int (nI j)), (7, .int (nI i))] [] (wX cI ad F A) 0 0 := by
        intro e
        induction e with
        | zero =>
          intro i c0 he
          have ee : i = j := by omega
          subst ee
          refine sg_R_valueOfTried_69 hG ad F A _ _ _ (nI i) (nI i) ⟨fun _ => ?_, fun c => absurd (nI_le (Nat.le_refl _) (by omega)) c⟩
          rw [show nI i + 1 = nI (i + 1) from nI_1 i]
          have h := ih (i + 1) (by omega)
          have e1 : xpaid S m pick (i + 1) = xpaid S m pick i + S 6 1 * sc_tw (xn S m pick i) + sc_sum i (fun k => S 6 2 * sc_wide (xn S m pick k) (xn S m pick i)) := by
            show xpaid S m pick i + (S 6 1 * sc_tw (xn S m pick i) + sc_sum i (fun k => S 6 2 * sc_wide (xn S m pick k) (xn S m pick i))) = _
            omega
          have e2 : xsgn S m pick (i + 1) = xsgn S m pick i + sc_sg (xn S m pick i) := rfl
          rw [e1, e2] at h
          exact h
        | succ e ihe =>
          intro i c0 he
          have hxi := xn_lt S m pick i
          refine sg_R_valueOfTried_69 hG ad F A _ _ _ (nI j) (nI i) ⟨fun c => absurd (nge (by omega) (by omega) c) (by omega), fun _ => ⟨vp_in_nI (by omega) (by decide), vp_in_nI (by omega) (by decide), ?_⟩⟩
          rw [nI_clamp (show j < 2 ^ 31 by omega), nI_clamp (show i < 2 ^ 31 by omega), hT j (by omega), hT i (by omega), sx_absd _ (by omega) _ (by omega), sx_wide _ (by unfold sc_dist; split <;> omega), e5, pk_mul, nI_add, show nI i + 1 = nI (i + 1) from nI_1 i]
          have h := ihe (i + 1) c0 (by omega)
          have e1 : sc_sum (i + 1) (fun i => S 6 2 * sc_wide (xn S m pick i) (xn S m pick j)) = sc_sum i (fun i => S 6 2 * sc_wide (xn S m pick i) (xn S m pick j)) + S 6 2 * (sc_dist (xn S m pick j) (xn S m pick i) - 6) := by
            show _ + S 6 2 * sc_wide (xn S m pick i) (xn S m pick j) = _
            unfold sc_wide
            rw [sc_dist_comm (xn S m pick i) (xn S m pick j)]
          rw [e1, ← Nat.add_assoc] at h
          exact h
      refine ⟨fun c => ?_, fun c => ?_⟩
      · have ht : sc_tw (xn S m pick j) = 0 := by
          unfold sc_tw
          rw [if_neg (nne (by omega) (by decide) (show ¬ nI (sc_sg (xn S m pick j)) = nI 2 from c))]
        have h := inner j 0 0 (by omega)
        rw [ht] at h
        rw [show (0 : Int32) = nI 0 from rfl, nI_add, nI_add]
        exact h
      · have ht : sc_tw (xn S m pick j) = 1 := by
          unfold sc_tw
          rw [if_pos (neq (by omega) (by decide) (show nI (sc_sg (xn S m pick j)) = nI 2 from c))]
        have h := inner j 0 0 (by omega)
        rw [ht, Nat.mul_one] at h
        rw [e4, nI_add, nI_add]
        exact h
  exact loop (S 4 m) 0 (by omega)
theorem x_valueOutside (ad : Nat → Nat) (F : Nat → Int32) (A : Nat → Nat → Int32) {S : sc_S} (hw : sc_wf S) (hR : xR S F A) {m key pick : Nat} (hm : m < S 7 1) (hk : key < 15) (hT : xTr S m pick (A 23)) (hK : K (some (.int (nI (64 * S 6 0 * xout S m key pick (S 4 m))))) (wX cI ad F A)) : T_R_valueOutside cI tv [.ref (ad 3), .int (nI m), .int (nI key)] (wX cI ad F A) K := by
  refine ⟨q_le0 _ _ rfl, fun G hG => ?_⟩
  have hM := wf_M hw
  have w := hw.2.2.1 m hm
  have r := hR.2.2.2.2 m hm
  have e3 : F 3 = nI (S 6 0) := hR.2.2.1 0 (by decide)
  have hin : vp_in (nI m) 18 := vp_in_nI (by omega) (by decide)
  refine sg_R_valueOutside_0 hG ad F A (nI m) (nI key) ?_
  rw [show nI key + 7 = nI (key + 7) from nI_add key 7, show nI (key + 7) + 7 - 1 = nI (key + 13) by rw [show nI (key + 7) + 7 = nI (key + 7 + 7) from nI_add _ 7]; exact nI_pred (key + 13)]
  have loop : ∀ (d j : Nat), j + d = S 4 m → G 19 [(0, .ref (ad 3)), (1, .int (nI m)), (3, .int (nI (key + 7))), (4, .int (nI (key + 13))), (5, .int (nI (xout S m key pick j))), (6, .int (nI j))] [] (wX cI ad F A) 0 0 := by
    intro d
    induction d with
    | zero =>
      intro j hd
      have e : j = S 4 m := by omega
      subst e
      refine sg_R_valueOutside_19 hG ad F A (nI m) _ _ _ _ ⟨hin, fun _ => ?_, fun c => ?_⟩
      · rw [e3, show (64 : Int32) = nI 64 from rfl, pk_mul, pk_mul]
        exact hK
      · rw [nI_clamp (show m < 2 ^ 31 by omega), r.2.1] at c
        exact absurd (nI_le (Nat.le_refl _) (by omega)) c
    | succ d ih =>
      intro j hd
      refine sg_R_valueOutside_19 hG ad F A (nI m) _ _ _ (nI j) ⟨hin, fun c => ?_, fun _ => ⟨vp_in_nI (by omega) (by decide), vp_in_nI (by omega) (by decide), ?_⟩⟩
      · rw [nI_clamp (show m < 2 ^ 31 by omega), r.2.1] at c
        have := nge (by omega) (by omega) c
        omega
      · rw [nI_clamp (show j < 2 ^ 31 by omega), hT j (by omega), sx_out key hk _ (xn_lt S m pick j), nI_add, show nI j + 1 = nI (j + 1) from nI_1 j]
        exact ih (j + 1) (by omega)
  exact loop (S 4 m) 0 (by omega)
end XT
