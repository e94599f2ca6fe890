/-! the class: what a state ahead holds, and the folding of one line -/
def xrep (B : Nat) (V C : c_T) (a n : Nat) : Prop := (V = none ∧ C = none ∧ a = 268435456 ∧ n = 0) ∨ ∃ k, V = some (a, k) ∧ a ≤ B ∧ c_tr 1000000 C = some (a / 64, n)
theorem xrep_0 (B : Nat) : xrep B none none 268435456 0 := Or.inl ⟨rfl, rfl, rfl, rfl⟩
theorem xrep_le {B : Nat} {V C : c_T} {a n : Nat} (hB : B < 268435456) (h : xrep B V C a n) : a ≤ 268435456 ∧ n ≤ 1000000 := by
  rcases h with ⟨-, -, h1, h2⟩ | ⟨k, -, h1, h2⟩
  · omega
  · exact ⟨by omega, c_tr_le h2⟩
theorem xrep_mono {B B' : Nat} {V C : c_T} {a n : Nat} (h : xrep B V C a n) (hB : B ≤ B') : xrep B' V C a n := by
  rcases h with h | ⟨k, h1, h2, h3⟩
  · exact Or.inl h
  · exact Or.inr ⟨k, h1, by omega, h3⟩
theorem xrep_skip {B B' l : Nat} {V C V' C' : c_T} {best bw a n : Nat} (hB' : B' < 268435456) (h : xrep B V C best bw) (h' : xrep B' V' C' a n) (ha : 268435456 ≤ a) : xrep B (c_add V (c_mul (some (64 * l, 1)) V')) (c_add C (c_mul (some (l, 1)) C')) best bw := by
  rcases h' with ⟨e1, e2, -, -⟩ | ⟨k, -, h1, -⟩
  · rw [e1, e2, c_mul_none, c_mul_none, c_add_none, c_add_none]; exact h
  · omega
def xstep (best bw v n : Nat) : Nat := if v / 64 < best / 64 then n else if v / 64 = best / 64 then min 1000000 (bw + n) else bw
theorem xrep_add {B B' l : Nat} {V C V' C' : c_T} {best bw a n : Nat} (hB : B < 268435456) (h : xrep B V C best bw) (h' : xrep B' V' C' a n) (ha : a < 268435456) (hB' : B' + 64 * l ≤ B) : xrep B (c_add V (c_mul (some (64 * l, 1)) V')) (c_add C (c_mul (some (l, 1)) C')) (min best (a + 64 * l)) (xstep best bw (a + 64 * l) n) := by
  unfold xstep
  rcases h' with ⟨-, -, h1, -⟩ | ⟨k', e', h1', h2'⟩
  · omega
  · have hs := c_tr_shift (l := l) h2'
    have ev : c_mul (some (64 * l, 1)) V' = some (a + 64 * l, 1 * k') := by rw [e']; show some (64 * l + a, 1 * k') = _; rw [Nat.add_comm]
    have ed : (a + 64 * l) / 64 = a / 64 + l := by omega
    rw [ev]
    rcases h with ⟨e1, e2, e3, e4⟩ | ⟨k, e1, h1, h2⟩
    · rw [e1, e2, e3, e4, c_none_add, c_none_add, if_pos (by omega), show min 268435456 (a + 64 * l) = a + 64 * l by omega]
      exact Or.inr ⟨_, rfl, by omega, by rw [hs, ed]⟩
    · have ht := c_tr_some h2 hs
      rw [e1]
      refine Or.inr ?_
      show ∃ k0, (if best < a + 64 * l then some (best, k) else if a + 64 * l < best then some (a + 64 * l, 1 * k') else some (best, k + 1 * k')) = some (min best (a + 64 * l), k0) ∧ _
      by_cases c1 : best < a + 64 * l
      · rw [if_pos c1, show min best (a + 64 * l) = best by omega]
        refine ⟨k, rfl, h1, ?_⟩
        rw [ht]
        by_cases c2 : best / 64 < a / 64 + l
        · rw [if_pos c2, if_neg (by omega), if_neg (by omega)]
        · rw [if_neg c2, if_neg (by omega), if_neg (by omega), if_pos (by omega)]
      · rw [if_neg c1]
        by_cases c3 : a + 64 * l < best
        · rw [if_pos c3, show min best (a + 64 * l) = a + 64 * l by omega]
          refine ⟨_, rfl, by omega, ?_⟩
          rw [ht, ed]
          by_cases c2 : a / 64 + l < best / 64
          · rw [if_neg (by omega), if_pos c2, if_pos (by omega)]
          · rw [if_neg (by omega), if_neg c2, if_neg (by omega), if_pos (by omega), show best / 64 = a / 64 + l by omega]
        · rw [if_neg c3, show min best (a + 64 * l) = best by omega]
          refine ⟨_, rfl, h1, ?_⟩
          rw [ht, if_neg (by omega), if_neg (by omega), if_neg (by omega), if_pos (by omega)]
/-- the arrays of what lies ahead -/
def xcur (B N : Nat) (V C : Nat → c_T) (f g : Nat → Int32) : Prop := ∀ x, x < N → ∃ a n, f x = nI a ∧ g x = nI n ∧ xrep B (V x) (C x) a n
section XF
variable {cI : ClassId} {tv : Nat} {K : q_K}
theorem x_foldOnek (ad : Nat → Nat) (F : Nat → Int32) (A : Nat → Nat → Int32) {B B' lm st size fl : Nat} {V C : Nat → c_T} {l : Nat → Nat} (hB : B < 268435456) (hBl : B' + 64 * lm ≤ B) (hst : st < 405) (hsz : size ≤ 15) (hfl : fl + size ≤ 225) (hc : xcur B' size V C (A 19) (A 20)) (hl : ∀ i, i < size → l i ≤ lm ∧ A 21 (fl + i) = nI (64 * l i))
    (hK : ∀ a n, xrep B (c_sum size (fun i => c_mul (some (64 * l i, 1)) (V i))) (c_sum size (fun i => c_mul (some (l i, 1)) (C i))) a n → K none (wX cI ad F (q_ua (q_ua A 17 (upd (A 17) st (nI a))) 18 (upd (A 18) st (nI n))))) : T_R_foldOne cI tv [.ref (ad 3), .int (nI st), .int (nI size), .ref (ad 21), .int (nI fl)] (wX cI ad F A) K := by
  refine ⟨q_le0 _ _ rfl, fun G hG => ?_⟩
  refine sg_R_foldOnek_0 hG ad F A _ _ _ ?_
  have hin : vp_in (nI st) 405 := vp_in_nI (by omega) (by decide)
  have loop : ∀ (d i best bw : Nat), i + d = size → xrep B (c_sum i (fun i => c_mul (some (64 * l i, 1)) (V i))) (c_sum i (fun i => c_mul (some (l i, 1)) (C i))) best bw → G 10 [(0, .ref (ad 3)), (1, .int (nI st)), (2, .int (nI size)), (3, .ref (ad 21)), (4, .int (nI fl)), (5, .int (nI best)), (6, .int (nI bw)), (7, .int (nI i))] [] (wX cI ad F A) 0 0 := by
    intro d
    induction d with
    | zero =>
      intro i best bw hd hr
      have e : i = size := by omega
      subst e
      refine sg_R_foldOnek_10 hG ad F A _ _ _ _ _ _ ⟨fun _ => ⟨hin, hin, ?_⟩, fun c => absurd (nI_le (Nat.le_refl _) (by omega)) c⟩
      rw [nI_clamp (show st < 2 ^ 31 by omega)]
      exact hK best bw hr
    | succ d ih =>
      intro i best bw hd hr
      obtain ⟨a, n, ea, en, hr2⟩ := hc i (by omega)
      obtain ⟨hl1, hl2⟩ := hl i (by omega)
      have hb := xrep_le hB hr
      have hb2 := xrep_le (show B' < 268435456 by omega) hr2
      have hi : vp_in (nI i) 15 := vp_in_nI (by omega) (by decide)
      have go : ∀ best' bw', xrep B (c_add (c_sum i (fun i => c_mul (some (64 * l i, 1)) (V i))) (c_mul (some (64 * l i, 1)) (V i))) (c_add (c_sum i (fun i => c_mul (some (l i, 1)) (C i))) (c_mul (some (l i, 1)) (C i))) best' bw' → G 109 [(0, .ref (ad 3)), (1, .int (nI st)), (2, .int (nI size)), (3, .ref (ad 21)), (4, .int (nI fl)), (5, .int (nI best')), (6, .int (nI bw')), (7, .int (nI i))] [] (wX cI ad F A) 0 0 := by
        intro best' bw' hr3
        refine sg_R_foldOnek_109 hG ad F A _ _ _ _ _ _ ?_
        rw [show nI i + 1 = nI (i + 1) from nI_1 i]
        exact ih (i + 1) best' bw' (by omega) hr3
      refine sg_R_foldOnek_10 hG ad F A _ _ _ _ _ _ ⟨fun c => absurd (nge (by omega) (by omega) c) (by omega), fun _ => ⟨hi, ?_⟩⟩
      rw [nI_clamp (show i < 2 ^ 31 by omega), ea]
      refine ⟨fun c => go best bw (xrep_skip (by omega) hr hr2 (nge (by decide) (by omega) (show nI 268435456 ≤ nI a from c))), fun c => ?_⟩
      have ha : a < 268435456 := nng (by decide) (by omega) (show ¬ nI 268435456 ≤ nI a from c)
      have hadd := xrep_add (l := l i) hB hr hr2 ha (by omega)
      have haB : a ≤ B' := by
        rcases hr2 with ⟨-, -, h1, -⟩ | ⟨k', -, h1, -⟩
        · omega
        · exact h1
      rw [nI_add, nI_clamp (show fl + i < 2 ^ 31 by omega), hl2, nI_add, en]
      have ev : nI (a + 64 * l i) / 64 = nI ((a + 64 * l i) / 64) := pk_div (by omega) (by decide) (by decide)
      have eb : nI best / 64 = nI (best / 64) := pk_div (by omega) (by decide) (by decide)
      rw [ev, eb]
      have fin : ∀ bw', bw' = xstep best bw (a + 64 * l i) n → G 100 [(0, .ref (ad 3)), (1, .int (nI st)), (2, .int (nI size)), (3, .ref (ad 21)), (4, .int (nI fl)), (5, .int (nI best)), (6, .int (nI bw')), (7, .int (nI i)), (8, .int (nI (a + 64 * l i)))] [] (wX cI ad F A) 0 0 := by
        intro bw' e
        refine sg_R_foldOnek_100 hG ad F A _ _ _ _ _ _ _ ?_
        rw [x_min (by omega) (by omega)]
        refine go _ _ ?_
        rw [e]
        exact hadd
      refine ⟨hi, vp_in_nI (by omega) (by decide), fun c1 => ⟨fun c2 => fin bw ?_, fun c2 => ?_⟩, fun c1 => ⟨hi, ?_⟩⟩
      · have g1 := nge (by omega) (by omega) c1
        have g2 := nne (by omega) (by omega) c2
        unfold xstep
        rw [if_neg (by omega), if_neg g2]
      · have g1 := nge (by omega) (by omega) c1
        have g2 := neq (by omega) (by omega) c2
        refine sg_R_foldOnek_83 hG ad F A _ _ _ _ _ (nI i) _ ⟨hi, ?_⟩
        rw [nI_clamp (show i < 2 ^ 31 by omega), en, nI_add, show (1000000 : Int32) = nI 1000000 from rfl, x_min (by decide) (by omega)]
        refine fin _ ?_
        unfold xstep
        rw [if_neg (by omega), if_pos g2]
      · have g1 := nng (by omega) (by omega) c1
        refine sg_R_foldOnek_67 hG ad F A _ _ _ _ _ _ _ ?_
        refine fin n ?_
        unfold xstep
        rw [if_pos g1]
  exact loop size 0 268435456 0 (by omega) (xrep_0 B)
theorem x_foldOnes (ad : Nat → Nat) (F : Nat → Int32) (A : Nat → Nat → Int32) {B B' lm st size fl : Nat} {V C : Nat → c_T} {l : Nat → Nat} (hB : B < 268435456) (hBl : B' + 64 * lm ≤ B) (hst : st < 405) (hsz : size ≤ 15) (hfl : fl + size ≤ 27) (hc : xcur B' size V C (A 19) (A 20)) (hl : ∀ i, i < size → l i ≤ lm ∧ A 22 (fl + i) = nI (64 * l i))
    (hK : ∀ a n, xrep B (c_sum size (fun i => c_mul (some (64 * l i, 1)) (V i))) (c_sum size (fun i => c_mul (some (l i, 1)) (C i))) a n → K none (wX cI ad F (q_ua (q_ua A 17 (upd (A 17) st (nI a))) 18 (upd (A 18) st (nI n))))) : T_R_foldOne cI tv [.ref (ad 3), .int (nI st), .int (nI size), .ref (ad 22), .int (nI fl)] (wX cI ad F A) K := by
  refine ⟨q_le0 _ _ rfl, fun G hG => ?_⟩
  refine sg_R_foldOnes_0 hG ad F A _ _ _ ?_
  have hin : vp_in (nI st) 405 := vp_in_nI (by omega) (by decide)
  have loop : ∀ (d i best bw : Nat), i + d = size → xrep B (c_sum i (fun i => c_mul (some (64 * l i, 1)) (V i))) (c_sum i (fun i => c_mul (some (l i, 1)) (C i))) best bw → G 10 [(0, .ref (ad 3)), (1, .int (nI st)), (2, .int (nI size)), (3, .ref (ad 22)), (4, .int (nI fl)), (5, .int (nI best)), (6, .int (nI bw)), (7, .int (nI i))] [] (wX cI ad F A) 0 0 := by
    intro d
    induction d with
    | zero =>
      intro i best bw hd hr
      have e : i = size := by omega
      subst e
      refine sg_R_foldOnes_10 hG ad F A _ _ _ _ _ _ ⟨fun _ => ⟨hin, hin, ?_⟩, fun c => absurd (nI_le (Nat.le_refl _) (by omega)) c⟩
      rw [nI_clamp (show st < 2 ^ 31 by omega)]
      exact hK best bw hr
    | succ d ih =>
      intro i best bw hd hr
      obtain ⟨a, n, ea, en, hr2⟩ := hc i (by omega)
      obtain ⟨hl1, hl2⟩ := hl i (by omega)
      have hb := xrep_le hB hr
      have hb2 := xrep_le (show B' < 268435456 by omega) hr2
      have hi : vp_in (nI i) 15 := vp_in_nI (by omega) (by decide)
      have go : ∀ best' bw', xrep B (c_add (c_sum i (fun i => c_mul (some (64 * l i, 1)) (V i))) (c_mul (some (64 * l i, 1)) (V i))) (c_add (c_sum i (fun i => c_mul (some (l i, 1)) (C i))) (c_mul (some (l i, 1)) (C i))) best' bw' → G 109 [(0, .ref (ad 3)), (1, .int (nI st)), (2, .int (nI size)), (3, .ref (ad 22)), (4, .int (nI fl)), (5, .int (nI best')), (6, .int (nI bw')), (7, .int (nI i))] [] (wX cI ad F A) 0 0 := by
        intro best' bw' hr3
        refine sg_R_foldOnes_109 hG ad F A _ _ _ _ _ _ ?_
        rw [show nI i + 1 = nI (i + 1) from nI_1 i]
        exact ih (i + 1) best' bw' (by omega) hr3
      refine sg_R_foldOnes_10 hG ad F A _ _ _ _ _ _ ⟨fun c => absurd (nge (by omega) (by omega) c) (by omega), fun _ => ⟨hi, ?_⟩⟩
      rw [nI_clamp (show i < 2 ^ 31 by omega), ea]
      refine ⟨fun c => go best bw (xrep_skip (by omega) hr hr2 (nge (by decide) (by omega) (show nI 268435456 ≤ nI a from c))), fun c => ?_⟩
      have ha : a < 268435456 := nng (by decide) (by omega) (show ¬ nI 268435456 ≤ nI a from c)
      have hadd := xrep_add (l := l i) hB hr hr2 ha (by omega)
      have haB : a ≤ B' := by
        rcases hr2 with ⟨-, -, h1, -⟩ | ⟨k', -, h1, -⟩
        · omega
        · exact h1
      rw [nI_add, nI_clamp (show fl + i < 2 ^ 31 by omega), hl2, nI_add, en]
      have ev : nI (a + 64 * l i) / 64 = nI ((a + 64 * l i) / 64) := pk_div (by omega) (by decide) (by decide)
      have eb : nI best / 64 = nI (best / 64) := pk_div (by omega) (by decide) (by decide)
      rw [ev, eb]
      have fin : ∀ bw', bw' = xstep best bw (a + 64 * l i) n → G 100 [(0, .ref (ad 3)), (1, .int (nI st)), (2, .int (nI size)), (3, .ref (ad 22)), (4, .int (nI fl)), (5, .int (nI best)), (6, .int (nI bw')), (7, .int (nI i)), (8, .int (nI (a + 64 * l i)))] [] (wX cI ad F A) 0 0 := by
        intro bw' e
        refine sg_R_foldOnes_100 hG ad F A _ _ _ _ _ _ _ ?_
        rw [x_min (by omega) (by omega)]
        refine go _ _ ?_
        rw [e]
        exact hadd
      refine ⟨hi, vp_in_nI (by omega) (by decide), fun c1 => ⟨fun c2 => fin bw ?_, fun c2 => ?_⟩, fun c1 => ⟨hi, ?_⟩⟩
      · have g1 := nge (by omega) (by omega) c1
        have g2 := nne (by omega) (by omega) c2
        unfold xstep
        rw [if_neg (by omega), if_neg g2]
      · have g1 := nge (by omega) (by omega) c1
        have g2 := neq (by omega) (by omega) c2
        refine sg_R_foldOnes_83 hG ad F A _ _ _ _ _ (nI i) _ ⟨hi, ?_⟩
        rw [nI_clamp (show i < 2 ^ 31 by omega), en, nI_add, show (1000000 : Int32) = nI 1000000 from rfl, x_min (by decide) (by omega)]
        refine fin _ ?_
        unfold xstep
        rw [if_neg (by omega), if_pos g2]
      · have g1 := nng (by omega) (by omega) c1
        refine sg_R_foldOnes_67 hG ad F A _ _ _ _ _ _ _ ?_
        refine fin n ?_
        unfold xstep
        rw [if_pos g1]
  exact loop size 0 268435456 0 (by omega) (xrep_0 B)
end XF
