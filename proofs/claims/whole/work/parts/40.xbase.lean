/-! the class: what it holds of a score; digits, picks, what is allowed -/
def p3 (k : Nat) : Nat := match k with
  | 0 => 1
  | 1 => 3
  | 2 => 9
  | _ => 27
theorem pk4_p3 (k : Nat) : pk4 k = nI (p3 k) := by
  match k with
  | 0 => rfl
  | 1 => rfl
  | 2 => rfl
  | _ + 3 => rfl
theorem p3_pos (k : Nat) : 1 ≤ p3 k ∧ p3 k ≤ 27 := by
  match k with
  | 0 => decide
  | 1 => decide
  | 2 => decide
  | _ + 3 => exact ⟨by show 1 ≤ 27; decide, Nat.le_refl 27⟩
/-- the name of an option of a SOUND -/
def opn (S : sc_S) (i d : Nat) : Nat := sc_low (S 0 i) + 12 * d
theorem opn_lt (S : sc_S) {i d : Nat} (hd : d < 3) : opn S i d < 36 := by
  unfold opn
  have := sc_low_lt (S 0 i)
  omega
def xR (S : sc_S) (F : Nat → Int32) (A : Nat → Nat → Int32) : Prop := F 1 = nI (S 7 0) ∧ F 2 = nI (S 7 1) ∧ (∀ j, j < 5 → F (3 + j) = nI (S 6 j)) ∧ (∀ i, i < S 7 0 → A 4 i = nI (S 0 i) ∧ A 5 i = nI (S 1 i) ∧ A 6 i = nI (S 2 i) ∧ ∀ d, d < 3 → A 10 (3 * i + d) = nI (opn S i d) ∧ A 11 (3 * i + d) = nI (sc_plc (opn S i d) (S 0 i))) ∧ ∀ m, m < S 7 1 → A 7 m = nI (S 3 m) ∧ A 8 m = nI (S 4 m) ∧ A 9 m = nI (S 5 m)
theorem xR_of {S : sc_S} {F F' : Nat → Int32} {A A' : Nat → Nat → Int32} (h : xR S F A) (hF : ∀ j, j < 8 → F' j = F j) (hA : ∀ k, 4 ≤ k → k ≤ 11 → A' k = A k) : xR S F' A' := by
  obtain ⟨h1, h2, h3, h4, h5⟩ := h
  refine ⟨by rw [hF 1 (by decide)]; exact h1, by rw [hF 2 (by decide)]; exact h2, fun j hj => by rw [hF (3 + j) (by omega)]; exact h3 j hj, fun i hi => ?_, fun m hm => ?_⟩
  · rw [hA 4 (by decide) (by decide), hA 5 (by decide) (by decide), hA 6 (by decide) (by decide), hA 10 (by decide) (by decide), hA 11 (by decide) (by decide)]; exact h4 i hi
  · rw [hA 7 (by decide) (by decide), hA 8 (by decide) (by decide), hA 9 (by decide) (by decide)]; exact h5 m hm
def xdg (k st j : Nat) : Nat := st / p3 (k - 1 - j) % 3
section XB
variable {cI : ClassId} {tv : Nat} {K : q_K}
theorem x_digit {w : va_W} {st k j : Nat} (hst : st < 2 ^ 31) (hk : k ≤ 3) (hj : j < k) (hK : K (some (.int (nI (xdg k st j)))) w) : T_R_digit cI tv [.int (nI st), .int (nI k), .int (nI j)] w K := by
  refine ⟨q_le0 _ _ rfl, fun G hG => ?_⟩
  have e : nI k - 1 - nI j = nI (k - 1 - j) := by
    rw [show (1 : Int32) = nI 1 from rfl, pk_sub (by omega), pk_sub (by omega)]
  have hp := p3_pos (k - 1 - j)
  refine sg_R_digit_0 hG w (nI st) (nI k) (nI j) ?_
  rw [e, nI_clamp (by omega), pk4_p3, pk_div hst (by omega) (by omega)]
  refine ⟨vp_in_nI (by omega) (by decide), nI_ne0 (by omega) (by omega), ?_⟩
  have hd : st / p3 (k - 1 - j) < 2 ^ 31 := Nat.lt_of_le_of_lt (Nat.div_le_self _ _) hst
  rw [show nI (st / p3 (k - 1 - j)) - nI (st / p3 (k - 1 - j)) / 3 * 3 = nI (st / p3 (k - 1 - j) % 3) from pk_rem (d := 3) hd (by decide) (by decide)]
  exact hK
theorem x_picksAt (ad : Nat → Nat) (F : Nat → Int32) (A : Nat → Nat → Int32) {S : sc_S} (hw : sc_wf S) (hR : xR S F A) {m : Nat} (hm : m < S 7 1) (hK : K (some (.int (nI (p3 (S 4 m))))) (wX cI ad F A)) : T_R_picksAt cI tv [.ref (ad 3), .int (nI m)] (wX cI ad F A) K := by
  refine ⟨q_le0 _ _ rfl, fun G hG => ?_⟩
  have hM := wf_M hw
  have w := hw.2.2.1 m hm
  refine sg_R_picksAt_0 hG ad F A (nI m) ?_
  rw [nI_clamp (by omega), (hR.2.2.2.2 m hm).2.1, nI_clamp (by omega), pk4_p3]
  exact ⟨vp_in_nI (by omega) (by decide), vp_in_nI (by omega) (by decide), hK⟩
theorem x_allowsKey (ad : Nat → Nat) (F : Nat → Int32) (A : Nat → Nat → Int32) {S : sc_S} (hw : sc_wf S) (hR : xR S F A) {m k : Nat} (hm : m < S 7 1) (hk : k < 15) (h1 : (S 5 m = 15 ∨ S 5 m = k) → K (some (.int 1)) (wX cI ad F A)) (h0 : ¬ (S 5 m = 15 ∨ S 5 m = k) → K (some (.int 0)) (wX cI ad F A)) : T_S_allowsKey cI tv [.ref (ad 1), .int (nI m), .int (nI k)] (wX cI ad F A) K := by
  refine ⟨q_le0 _ _ rfl, fun G hG => ?_⟩
  have hM := wf_M hw
  have w := hw.2.2.1 m hm
  have hin : vp_in (nI m) 18 := vp_in_nI (by omega) (by decide)
  refine sg_S_allowsKey_0 hG ad F A (nI m) (nI k) ?_
  rw [nI_clamp (by omega), (hR.2.2.2.2 m hm).2.2]
  refine ⟨hin, fun c => h1 (Or.inl (neq (by omega) (by decide) (show nI (S 5 m) = nI 15 from c))), fun c => ⟨hin, fun c2 => h0 (fun z => ?_), fun c2 => h1 (Or.inr (neq (by omega) (by omega) c2))⟩⟩
  rcases z with z | z
  · exact c (by rw [z]; rfl)
  · exact c2 (by rw [z])
theorem sx_isName : ∀ n, n < 40 → jf_X_isName (nI n) = if n < 35 then 1 else 0 := by decide +kernel
theorem x_allowsName (ad : Nat → Nat) (F : Nat → Int32) (A : Nat → Nat → Int32) {S : sc_S} (hw : sc_wf S) (hR : xR S F A) {i n : Nat} (hi : i < S 7 0) (hn : n < 40) (h1 : n < 35 → (S 1 i = 35 ∨ S 1 i = n) → K (some (.int 1)) (wX cI ad F A)) (h0 : ¬ (n < 35 ∧ (S 1 i = 35 ∨ S 1 i = n)) → K (some (.int 0)) (wX cI ad F A)) : T_S_allowsName cI tv [.ref (ad 1), .int (nI i), .int (nI n)] (wX cI ad F A) K := by
  refine ⟨q_le0 _ _ rfl, fun G hG => ?_⟩
  have n18 := hw.1
  have b := hw.2.2.2.2.1 i hi
  have hin : vp_in (nI i) 18 := vp_in_nI (by omega) (by decide)
  refine sg_S_allowsName_0 hG ad F A (nI i) (nI n) ?_
  rw [nI_clamp (by omega), (hR.2.2.2.1 i hi).2.1, sx_isName n hn]
  by_cases hn2 : n < 35
  · rw [if_pos hn2]
    refine ⟨fun c => absurd c (by decide), fun _ => ⟨hin, fun c => h1 hn2 (Or.inl (neq (by omega) (by decide) (show nI (S 1 i) = nI 35 from c))), fun c => ⟨hin, fun c2 => h0 (fun z => ?_), fun c2 => h1 hn2 (Or.inr (neq (by omega) (by omega) c2))⟩⟩⟩
    rcases z.2 with z | z
    · exact c (by rw [z]; rfl)
    · exact c2 (by rw [z])
  · rw [if_neg hn2]
    exact ⟨fun _ => h0 (fun z => hn2 z.1), fun c => absurd rfl c⟩
theorem x_isBadStep (ad : Nat → Nat) (F : Nat → Int32) (A : Nat → Nat → Int32) {S : sc_S} (hw : sc_wf S) (hR : xR S F A) {i d j e : Nat} (hi : i < S 7 0) (hj : j < S 7 0) (hd : d < 3) (he : e < 3) (hK : K (some (.int (nI (sc_bad (opn S i d) (S 0 i) (opn S j e) (S 0 j))))) (wX cI ad F A)) : T_R_isBadStep cI tv [.ref (ad 3), .int (nI i), .int (nI d), .int (nI j), .int (nI e)] (wX cI ad F A) K := by
  refine ⟨q_le0 _ _ rfl, fun G hG => ?_⟩
  have n18 := hw.1
  have bi := (hw.2.2.2.2.1 i hi).1
  have bj := (hw.2.2.2.2.1 j hj).1
  have ei : nI i * 3 + nI d = nI (3 * i + d) := by rw [show (3 : Int32) = nI 3 from rfl, pk_mul, nI_add, Nat.mul_comm]
  have ej : nI j * 3 + nI e = nI (3 * j + e) := by rw [show (3 : Int32) = nI 3 from rfl, pk_mul, nI_add, Nat.mul_comm]
  obtain ⟨r1, r2, r3, r4⟩ := hR.2.2.2.1 i hi
  obtain ⟨t1, t2, t3, t4⟩ := hR.2.2.2.1 j hj
  have l1 := sc_plc_lt (n := opn S i d) bi
  have l2 := sc_plc_lt (n := opn S j e) bj
  have hsub : (nI (S 0 j) - nI (S 0 i)).toInt = (S 0 j : Int) - S 0 i := pk_sub_toInt (by omega) (by omega)
  refine sg_R_isBadStep_0 hG ad F A (nI i) (nI d) (nI j) (nI e) ?_
  rw [nI_clamp (show i < 2 ^ 31 by omega), nI_clamp (show j < 2 ^ 31 by omega), r1, t1]
  refine ⟨vp_in_nI (by omega) (by decide), vp_in_nI (by omega) (by decide), fun c => ?_, fun c => ?_⟩
  · have hne : S 0 i ≠ S 0 j := fun q => c (by rw [q]; refine Int32.toInt_inj.mp ?_; rw [pk_sub_toInt (by omega) (by omega), show (0 : Int32).toInt = 0 from rfl]; omega)
    have far : 2 < sc_dist (S 0 i) (S 0 j) → G 51 [] [] (wX cI ad F A) 0 0 := by
      intro hf
      refine sg_R_isBadStep_51 hG ad F A ?_
      unfold sc_bad at hK
      rw [if_neg hne, if_pos hf] at hK
      exact hK
    refine ⟨fun c2 => far ?_, fun c2 => ⟨fun c3 => ?_, fun c3 => far ?_⟩⟩
    · rw [Int32.lt_iff_toInt_lt, hsub, show (-2 : Int32).toInt = -2 from rfl] at c2
      unfold sc_dist
      rw [if_neg (by omega)]
      omega
    · rw [Int32.lt_iff_toInt_lt, hsub, show (-2 : Int32).toInt = -2 from rfl] at c2
      rw [Int32.le_iff_toInt_le, hsub, show (2 : Int32).toInt = 2 from rfl] at c3
      have hnf : ¬ 2 < sc_dist (S 0 i) (S 0 j) := by unfold sc_dist; split <;> omega
      unfold sc_bad at hK
      rw [if_neg hne, if_neg hnf] at hK
      rw [ei, ej, nI_clamp (show 3 * i + d < 2 ^ 31 by omega), nI_clamp (show 3 * j + e < 2 ^ 31 by omega), (r4 d hd).2, (t4 e he).2]
      refine ⟨vp_in_nI (by omega) (by decide), vp_in_nI (by omega) (by decide), ?_⟩
      refine sg_R_isBadStep_84 hG ad F A _ _ _ ⟨fun c4 => ?_, fun c4 => ?_⟩
      · rw [Int32.le_iff_toInt_le, hsub, show (0 : Int32).toInt = 0 from rfl] at c4
        rw [if_neg (by omega)] at hK
        refine ⟨fun c5 => ?_, fun c5 => ?_⟩
        · rw [if_pos ((nsub_m1 (by omega) (by omega)).mp c5)] at hK
          exact hK
        · rw [if_neg (fun q => c5 ((nsub_m1 (by omega) (by omega)).mpr q))] at hK
          exact hK
      · rw [Int32.le_iff_toInt_le, hsub, show (0 : Int32).toInt = 0 from rfl] at c4
        rw [if_pos (by omega)] at hK
        refine ⟨fun c5 => ?_, fun c5 => ?_⟩
        · rw [if_pos ((nsub_1 (by omega) (by omega)).mp c5)] at hK
          exact hK
        · rw [if_neg (fun q => c5 ((nsub_1 (by omega) (by omega)).mpr q))] at hK
          exact hK
    · rw [Int32.le_iff_toInt_le, hsub, show (2 : Int32).toInt = 2 from rfl] at c3
      unfold sc_dist
      rw [if_pos (by omega)]
      omega
  · have heq : S 0 i = S 0 j := by
      have := congrArg Int32.toInt c
      rw [hsub, show (0 : Int32).toInt = 0 from rfl] at this
      omega
    unfold sc_bad at hK
    rw [if_pos heq] at hK
    refine ⟨fun c2 => ?_, fun c2 => ?_⟩
    · have := neq (by omega) (by omega) c2
      rw [if_pos (by unfold opn; rw [heq, this])] at hK
      exact hK
    · have := nne (by omega) (by omega) c2
      rw [if_neg (by unfold opn; rw [heq]; omega)] at hK
      exact hK
end XB
