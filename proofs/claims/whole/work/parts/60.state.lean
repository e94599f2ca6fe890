/-! what both sides hold between calls -/
def sc_ResM (S : sc_S) (r : Nat → Nat → Nat) : Prop := sc_Res S (r 0 0) (r 0 1) (r 0 2) (r 1) (r 2) ∧ r 0 0 < 100000 ∧ r 0 1 < 64 ∧ r 0 2 ≤ 1000000 ∧ (∀ m, m < S 7 1 → r 2 m < 15) ∧ ∀ i, i < S 7 0 → r 1 i < 35
/-- what is MEANT, once for both sides: row 0 COST, signs, how many; row 1 NAMES; row 2 KEYS -/
noncomputable def Mn (S : sc_S) : Nat → Nat → Nat := Classical.epsilon (sc_ResM S)
theorem Mn_of {S : sc_S} {co si ti : Nat} {na ke : Nat → Nat} (hw : sc_wf S) (h : sc_Res S co si ti na ke) (h1 : co < 100000) (h2 : si < 64) (h3 : ti ≤ 1000000) (h4 : ∀ m, m < S 7 1 → ke m < 15) (h5 : ∀ m j, m < S 7 1 → j < S 4 m → na (S 3 m + j) < 35) : sc_ResM S (Mn S) ∧ co = Mn S 0 0 ∧ si = Mn S 0 1 ∧ ti = Mn S 0 2 ∧ (∀ m, m < S 7 1 → ke m = Mn S 2 m) ∧ ∀ i, i < S 7 0 → na i = Mn S 1 i := by
  have h5' : ∀ i, i < S 7 0 → na i < 35 := by
    intro i hi
    obtain ⟨-, -, a1, a2, a3⟩ := hw.2.2.2.2.1 i hi
    have := h5 (S 2 i) (i - S 3 (S 2 i)) a1 (by omega)
    rw [show S 3 (S 2 i) + (i - S 3 (S 2 i)) = i by omega] at this
    exact this
  have ex : ∃ r, sc_ResM S r := ⟨fun a b => match a with
    | 0 => (match b with
      | 0 => co
      | 1 => si
      | _ => ti)
    | 1 => na b
    | _ => ke b, h, h1, h2, h3, h4, h5'⟩
  have hM : sc_ResM S (Mn S) := Classical.epsilon_spec ex
  obtain ⟨e1, e2, e3, e4, e5⟩ := sc_Res_unique hw h hM.1
  exact ⟨hM, e1, e2, e3, e4, e5⟩
def xM (S : sc_S) (F : Nat → Int32) (A : Nat → Nat → Int32) : Prop := sc_ResM S (Mn S) ∧ F 8 = nI (Mn S 0 0) ∧ F 9 = nI (Mn S 0 1) ∧ F 10 = nI (Mn S 0 2) ∧ (∀ m, m < S 7 1 → A 13 m = nI (Mn S 2 m)) ∧ ∀ i, i < S 7 0 → A 12 i = nI (Mn S 1 i)
def mM (S : sc_S) (F : Nat → Int32) (A : Nat → Nat → Int32) : Prop := sc_ResM S (Mn S) ∧ F 11 = nI (Mn S 0 0) ∧ F 12 = nI (Mn S 0 1) ∧ F 13 = nI (Mn S 0 2) ∧ (∀ m, m < S 7 1 → A 19 m = nI (Mn S 2 m)) ∧ ∀ i, i < S 7 0 → A 20 i = nI (Mn S 1 i)
theorem xM_of {S : sc_S} {F : Nat → Int32} {A : Nat → Nat → Int32} (hw : sc_wf S) (h : xOut S F A) : xM S F A := by
  obtain ⟨co, si, ti, na, ke, hr, f1, f2, f3, b1, b2, b3, g1, g2⟩ := h
  obtain ⟨hM, e1, e2, e3, e4, e5⟩ := Mn_of hw hr b1 b2 b3 (fun m hm => (g1 m hm).2) (fun m j hm hj => (g2 m j hm hj).2)
  refine ⟨hM, by rw [f1, e1], by rw [f2, e2], by rw [f3, e3], fun m hm => by rw [(g1 m hm).1, e4 m hm], fun i hi => ?_⟩
  obtain ⟨-, -, a1, a2, a3⟩ := hw.2.2.2.2.1 i hi
  have := (g2 (S 2 i) (i - S 3 (S 2 i)) a1 (by omega)).1
  rw [show S 3 (S 2 i) + (i - S 3 (S 2 i)) = i by omega] at this
  rw [this, e5 i hi]
theorem mM_of {S : sc_S} {F : Nat → Int32} {A : Nat → Nat → Int32} (hw : sc_wf S) (h : mOut S F A) : mM S F A := by
  obtain ⟨co, si, ti, na, ke, hr, f1, f2, f3, b1, b2, b3, g1, g2⟩ := m_Res hw h
  obtain ⟨hM, e1, e2, e3, e4, e5⟩ := Mn_of hw hr b1 b2 b3 (fun m hm => (g1 m hm).2) (fun m j hm hj => (g2 m j hm hj).2)
  refine ⟨hM, by rw [f1, e1], by rw [f2, e2], by rw [f3, e3], fun m hm => by rw [(g1 m hm).1, e4 m hm], fun i hi => ?_⟩
  obtain ⟨-, -, a1, a2, a3⟩ := hw.2.2.2.2.1 i hi
  have := (g2 (S 2 i) (i - S 3 (S 2 i)) a1 (by omega)).1
  rw [show S 3 (S 2 i) + (i - S 3 (S 2 i)) = i by omega] at this
  rw [this, e5 i hi]
theorem xR_of1 {S : sc_S} {F F' : Nat → Int32} {A A' : Nat → Nat → Int32} (h : xR S F A) (hF : ∀ j, 1 ≤ j → j < 8 → F' j = F j) (hA : ∀ k, 4 ≤ k → k ≤ 11 → A' k = A k) : xR S F' A' := by
  obtain ⟨h1, h2, h3, h4, h5⟩ := h
  refine ⟨by rw [hF 1 (by decide) (by decide)]; exact h1, by rw [hF 2 (by decide) (by decide)]; exact h2, fun j hj => by rw [hF (3 + j) (by omega) (by omega)]; exact h3 j hj, fun i hi => ?_, fun m hm => ?_⟩
  · rw [hA 4 (by decide) (by decide), hA 5 (by decide) (by decide), hA 6 (by decide) (by decide), hA 10 (by decide) (by decide), hA 11 (by decide) (by decide)]; exact h4 i hi
  · rw [hA 7 (by decide) (by decide), hA 8 (by decide) (by decide), hA 9 (by decide) (by decide)]; exact h5 m hm
def xI (S : sc_S) (F : Nat → Int32) (A : Nat → Nat → Int32) : Prop := xR S F A ∧ (¬ F 0 = 0 → xM S F A)
def mI (S : sc_S) (F : Nat → Int32) (A : Nat → Nat → Int32) : Prop := mR S F A ∧ (¬ F 10 = 0 → mOut S F A)
theorem mR_of1 {S : sc_S} {F F' : Nat → Int32} {A A' : Nat → Nat → Int32} (h : mR S F A) (hF : ∀ j, 1 ≤ j → j < 8 → F' j = F j) (hA : ∀ k, k ≤ 6 → A' k = A k) : mR S F' A' := by
  obtain ⟨h1, h2, h3, h4, h5⟩ := h
  refine ⟨by rw [hF 1 (by decide) (by decide)]; exact h1, by rw [hF 2 (by decide) (by decide)]; exact h2, fun j hj => by rw [hF (3 + j) (by omega) (by omega)]; exact h3 j hj, fun i hi => ?_, fun m hm => ?_⟩
  · rw [hA 1 (by decide), hA 2 (by decide), hA 3 (by decide)]; exact h4 i hi
  · rw [hA 4 (by decide), hA 5 (by decide), hA 6 (by decide)]; exact h5 m hm
theorem mI_0 {S : sc_S} {F : Nat → Int32} {A : Nat → Nat → Int32} (h : mI S F A) (c : Int32) : mI S (q_uf F 0 c) A := ⟨mR_of1 h.1 (fun j h1 _ => q_uf_ne (by omega)) (fun _ _ => rfl), h.2⟩
/-! an argument is one of the first n numbers, or not -/
def inN (n : Nat) (x : Int32) : Prop := ∃ j, j < n ∧ x = nI j
theorem nI_nonneg {x : Int32} (h : ¬ x < 0) : ∃ j, j < 2 ^ 31 ∧ x = nI j := by
  rw [Int32.lt_iff_toInt_lt, show (0 : Int32).toInt = 0 from rfl] at h
  have h2 := iI_le x
  refine ⟨x.toInt.toNat, by omega, ?_⟩
  rw [iI_nat, show ((x.toInt.toNat : Nat) : Int) = x.toInt by omega]
  exact iI_of x
theorem nI_neg {j : Nat} (h : j < 2 ^ 31) : ¬ nI j < 0 := fun c => absurd (nlt' h (by decide) (show nI j < nI 0 from c)) (Nat.not_lt_zero j)
theorem in_not_neg {n : Nat} {x : Int32} (hn : n < 2 ^ 31) (h : x < 0) : ¬ inN n x := by
  rintro ⟨j, hj, rfl⟩
  exact nI_neg (by omega) h
theorem in_nI {n j : Nat} (hn : n < 2 ^ 31) (hj : j < 2 ^ 31) : inN n (nI j) ↔ j < n := by
  refine ⟨fun ⟨i, hi, e⟩ => ?_, fun h => ⟨j, h, rfl⟩⟩
  have := neq hj (by omega) e
  omega
/-- one of two answers by a property -/
noncomputable def cif {α : Type} (P : Prop) (a b : α) : α := @ite _ P (Classical.propDecidable P) a b
theorem cif_p {α : Type} {P : Prop} {a b : α} (h : P) : cif P a b = a := if_pos h
theorem cif_n {α : Type} {P : Prop} {a b : α} (h : ¬ P) : cif P a b = b := if_neg h
section ST
variable {cI : ClassId} {tv : Nat} {K : q_K}
theorem x_meant (ad : Nat → Nat) (F : Nat → Int32) (A : Nat → Nat → Int32) {S : sc_S} (hw : sc_wf S) (hI : xI S F A) (hK : ∀ (F' : Nat → Int32) (A' : Nat → Nat → Int32), xI S F' A' → xM S F' A' → K (some (.ref (ad 3))) (wX cI ad F' A')) : T_X_meant cI tv [.ref (ad 0)] (wX cI ad F A) K := by
  refine ⟨q_le0 _ _ rfl, fun G hG => ?_⟩
  refine sg_X_meant_0 hG ad F A ⟨fun c => hK F A hI (hI.2 c), fun c => ?_⟩
  refine x_run ad F A hw hI.1 (fun F' A' e1 e2 e3 => ?_)
  refine sg_X_meant_14 hG ad F' A' ?_
  have hm := xM_of hw e3
  have hm2 : xM S (q_uf F' 0 1) A' := hm
  exact hK _ A' ⟨xR_of1 hI.1 (fun j h1 h8 => by rw [q_uf_ne (by omega)]; exact e1 j h8) e2, fun _ => hm2⟩ hm2
theorem m_known (ad : Nat → Nat) (F : Nat → Int32) (A : Nat → Nat → Int32) {S : sc_S} (hw : sc_wf S) (hI : mI S F A) (hK : ∀ (F' : Nat → Int32) (A' : Nat → Nat → Int32), mI S F' A' → mM S F' A' → F' 0 = F 0 → K none (wM cI ad F' A')) : T_M_find cI tv [.ref (ad 0)] (wM cI ad F A) K := by
  refine m_find ad F A hw hI.1 hI.2 (fun F' A' e1 e2 e3 e4 => hK F' A' ⟨mR_of hI.1 e1 e2, fun _ => e4⟩ (mM_of hw e4) (e1 0 (by decide)))
theorem x_has (ad : Nat → Nat) (F : Nat → Int32) (A : Nat → Nat → Int32) {S : sc_S} (hw : sc_wf S) (hR : xR S F A) {x : Int32} (h1 : ∀ i, i < S 7 0 → x = nI i → K (some (.int 1)) (wX cI ad F A)) (h0 : ¬ inN (S 7 0) x → K (some (.int 0)) (wX cI ad F A)) : T_S_has cI tv [.ref (ad 1), .int x] (wX cI ad F A) K := by
  refine ⟨q_le0 _ _ rfl, fun G hG => ?_⟩
  have n18 := hw.1
  refine sg_S_has_0 hG ad F A x ⟨fun c => h0 (in_not_neg (by omega) c), fun c => ?_⟩
  obtain ⟨j, hj, rfl⟩ := nI_nonneg c
  rw [hR.1]
  refine ⟨fun c2 => h0 (fun z => ?_), fun c2 => h1 j (nng (by omega) hj c2) rfl⟩
  have := (in_nI (by omega) hj).mp z
  have := nge (by omega) hj c2
  omega
theorem m_has (ad : Nat → Nat) (F : Nat → Int32) (A : Nat → Nat → Int32) {S : sc_S} (hw : sc_wf S) (hR : mR S F A) {x : Int32} (h1 : ∀ i, i < S 7 0 → x = nI i → K (some (.int 1)) (wM cI ad F A)) (h0 : ¬ inN (S 7 0) x → K (some (.int 0)) (wM cI ad F A)) : T_M_isSound cI tv [.ref (ad 0), .int x] (wM cI ad F A) K := by
  refine ⟨q_le0 _ _ rfl, fun G hG => ?_⟩
  have n18 := hw.1
  refine sg_M_isSound_0 hG ad F A x ⟨fun c => h0 (in_not_neg (by omega) c), fun c => ?_⟩
  obtain ⟨j, hj, rfl⟩ := nI_nonneg c
  rw [hR.1]
  refine ⟨fun c2 => h0 (fun z => ?_), fun c2 => h1 j (nng (by omega) hj c2) rfl⟩
  have := (in_nI (by omega) hj).mp z
  have := nge (by omega) hj c2
  omega
end ST
