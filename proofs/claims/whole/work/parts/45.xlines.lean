/-! the class: the folding of all lines of one part -/
def lx (size stride b i o : Nat) : Nat := stride * (size * b + i) + o
theorem lx_inj {size stride b i o b' i' o' : Nat} (hi : i < size) (ho : o < stride) (hi' : i' < size) (ho' : o' < stride) (h : lx size stride b i o = lx size stride b' i' o') : b = b' ∧ i = i' ∧ o = o' := by
  have h1 := ix_inj ho ho' h
  have h2 := ix_inj hi hi' h1.1
  exact ⟨h2.1, h2.2, h1.2⟩
theorem lx_lt {blocks size stride b i o : Nat} (hb : b < blocks) (hi : i < size) (ho : o < stride) : lx size stride b i o < blocks * size * stride := ix_lt ho (ix_lt hi hb)
theorem lx_eq (size stride b i o : Nat) : b * stride * size + o + i * stride = lx size stride b i o := by
  unfold lx
  rw [Nat.mul_add, Nat.mul_comm b stride, Nat.mul_assoc, Nat.mul_comm b size, Nat.mul_comm i stride]
  omega
def xfol (B size stride : Nat) (l : Nat → Nat → Nat) (V C : Nat → c_T) (f g : Nat → Int32) (b i o : Nat) : Prop := ∃ a n, f (lx size stride b i o) = nI a ∧ g (lx size stride b i o) = nI n ∧ xrep B (c_sum size (fun j => c_mul (some (64 * l i j, 1)) (V (lx size stride b j o)))) (c_sum size (fun j => c_mul (some (l i j, 1)) (C (lx size stride b j o)))) a n
def xinv (B blocks size stride : Nat) (l : Nat → Nat → Nat) (V C : Nat → c_T) (f0 g0 f g : Nat → Int32) (D : Nat → Nat → Nat → Prop) : Prop := ∀ b i o, b < blocks → i < size → o < stride → (D b i o → xfol B size stride l V C f g b i o) ∧ (¬ D b i o → f (lx size stride b i o) = f0 (lx size stride b i o) ∧ g (lx size stride b i o) = g0 (lx size stride b i o))
theorem xinv_iff {B blocks size stride : Nat} {l : Nat → Nat → Nat} {V C : Nat → c_T} {f0 g0 f g : Nat → Int32} {D D' : Nat → Nat → Nat → Prop} (h : xinv B blocks size stride l V C f0 g0 f g D) (hD : ∀ b i o, b < blocks → i < size → o < stride → (D b i o ↔ D' b i o)) : xinv B blocks size stride l V C f0 g0 f g D' := fun b i o hb hi ho => ⟨fun d => (h b i o hb hi ho).1 ((hD b i o hb hi ho).mpr d), fun d => (h b i o hb hi ho).2 (fun q => d ((hD b i o hb hi ho).mp q))⟩
theorem xinv_step {B blocks size stride : Nat} {l : Nat → Nat → Nat} {V C : Nat → c_T} {f0 g0 f g : Nat → Int32} {D : Nat → Nat → Nat → Prop} {b i o a n : Nat} (h : xinv B blocks size stride l V C f0 g0 f g D) (hi : i < size) (ho : o < stride) (hr : xrep B (c_sum size (fun j => c_mul (some (64 * l i j, 1)) (V (lx size stride b j o)))) (c_sum size (fun j => c_mul (some (l i j, 1)) (C (lx size stride b j o)))) a n) : xinv B blocks size stride l V C f0 g0 (upd f (lx size stride b i o) (nI a)) (upd g (lx size stride b i o) (nI n)) (fun b' i' o' => D b' i' o' ∨ (b' = b ∧ i' = i ∧ o' = o)) := by
  intro b' i' o' hb' hi' ho'
  by_cases e : b' = b ∧ i' = i ∧ o' = o
  · refine ⟨fun _ => ?_, fun d => absurd (Or.inr e) d⟩
    obtain ⟨e1, e2, e3⟩ := e
    subst e1; subst e2; subst e3
    exact ⟨a, n, upd_s _ _ _, upd_s _ _ _, hr⟩
  · have hne : lx size stride b' i' o' ≠ lx size stride b i o := fun z => e (lx_inj hi' ho' hi ho z)
    obtain ⟨h1, h2⟩ := h b' i' o' hb' hi' ho'
    refine ⟨fun d => ?_, fun d => ?_⟩
    · rcases d with d | d
      · obtain ⟨a', n', q1, q2, q3⟩ := h1 d
        exact ⟨a', n', by rw [pk_un hne]; exact q1, by rw [pk_un hne]; exact q2, q3⟩
      · exact absurd d e
    · rw [pk_un hne, pk_un hne]
      exact h2 (fun q => d (Or.inl q))
section XFL
variable {cI : ClassId} {tv : Nat} {K : q_K}
theorem x_foldLinesk (ad : Nat → Nat) (F : Nat → Int32) (A : Nat → Nat → Int32) {B B' lm blocks size stride fl : Nat} {V C : Nat → c_T} {l : Nat → Nat → Nat} (hB : B < 268435456) (hBl : B' + 64 * lm ≤ B) (hsz : 1 ≤ size ∧ size ≤ 15) (hstr : 1 ≤ stride) (hN : blocks * size * stride ≤ 405) (hfl : fl + size * size ≤ 225) (hc : xcur B' (blocks * size * stride) V C (A 17) (A 18)) (hl : ∀ i j, i < size → j < size → l i j ≤ lm ∧ A 21 (fl + i * size + j) = nI (64 * l i j))
    (hK : ∀ A' : Nat → Nat → Int32, (∀ k, k ≠ 17 → k ≠ 18 → k ≠ 19 → k ≠ 20 → A' k = A k) → (∀ b i o, b < blocks → i < size → o < stride → xfol B size stride l V C (A' 17) (A' 18) b i o) → K none (wX cI ad F A')) : T_R_foldLines cI tv [.ref (ad 3), .int (nI blocks), .int (nI stride), .int (nI size), .ref (ad 21), .int (nI fl)] (wX cI ad F A) K := by
  refine ⟨q_le0 _ _ rfl, fun G hG => ?_⟩
  have hb405 : blocks ≤ 405 := by
    have h1 : blocks * 1 ≤ blocks * size := Nat.mul_le_mul_left _ hsz.1
    have h2 : blocks * size * 1 ≤ blocks * size * stride := Nat.mul_le_mul_left _ hstr
    omega
  refine sg_R_foldLinesk_0 hG ad F A _ _ _ _ ?_
  have outer : ∀ (d b : Nat) (A' : Nat → Nat → Int32), b + d = blocks → (∀ k, k ≠ 17 → k ≠ 18 → k ≠ 19 → k ≠ 20 → A' k = A k) → xinv B blocks size stride l V C (A 17) (A 18) (A' 17) (A' 18) (fun b' _ _ => b' < b) → G 3 [(0, .ref (ad 3)), (1, .int (nI blocks)), (2, .int (nI stride)), (3, .int (nI size)), (4, .ref (ad 21)), (5, .int (nI fl)), (6, .int (nI b))] [] (wX cI ad F A') 0 0 := by
    intro d
    induction d with
    | zero =>
      intro b A' hd h1 h2
      have e : b = blocks := by omega
      subst e
      exact sg_R_foldLinesk_3 hG ad F A' _ _ _ _ _ ⟨fun _ => hK A' h1 (fun b' i o g1 g2 g3 => (h2 b' i o g1 g2 g3).1 g1), fun c => absurd (nI_le (Nat.le_refl _) (by omega)) c⟩
    | succ d ih =>
      intro b A' hd h1 h2
      have hb : b < blocks := by omega
      have hs405 : stride ≤ 405 := by
        have h1 : 1 * 1 ≤ blocks * size := Nat.mul_le_mul (by omega) hsz.1
        have h2 : 1 * stride ≤ blocks * size * stride := Nat.mul_le_mul_right _ h1
        omega
      refine sg_R_foldLinesk_3 hG ad F A' _ _ _ _ _ ⟨fun c => absurd (nge (by omega) (by omega) c) (by omega), fun _ => ?_⟩
      have mid : ∀ (e o : Nat) (A' : Nat → Nat → Int32), o + e = stride → (∀ k, k ≠ 17 → k ≠ 18 → k ≠ 19 → k ≠ 20 → A' k = A k) → xinv B blocks size stride l V C (A 17) (A 18) (A' 17) (A' 18) (fun b' _ o' => b' < b ∨ (b' = b ∧ o' < o)) → G 12 [(0, .ref (ad 3)), (1, .int (nI blocks)), (2, .int (nI stride)), (3, .int (nI size)), (4, .ref (ad 21)), (5, .int (nI fl)), (6, .int (nI b)), (7, .int (nI o))] [] (wX cI ad F A') 0 0 := by
        intro e
        induction e with
        | zero =>
          intro o A' he h1 h2
          have e : o = stride := by omega
          subst e
          refine sg_R_foldLinesk_12 hG ad F A' _ _ _ _ _ _ ⟨fun _ => ?_, fun c => absurd (nI_le (Nat.le_refl _) (by omega)) c⟩
          rw [show nI b + 1 = nI (b + 1) from nI_1 b]
          exact ih (b + 1) A' (by omega) h1 (xinv_iff h2 (fun b' i o' g1 g2 g3 => ⟨fun q => by omega, fun q => by omega⟩))
        | succ e ihe =>
          intro o A' he h1 h2
          have ho : o < stride := by omega
          refine sg_R_foldLinesk_12 hG ad F A' _ _ _ _ _ _ ⟨fun c => absurd (nge (by omega) (by omega) c) (by omega), fun _ => ?_⟩
          rw [pk_mul, pk_mul, nI_add]
          have eix : ∀ i, nI (b * stride * size + o) + nI i * nI stride = nI (lx size stride b i o) := fun i => by rw [pk_mul, nI_add, lx_eq]
          have hlx : ∀ i, i < size → lx size stride b i o < 405 := fun i hi => Nat.lt_of_lt_of_le (lx_lt hb hi ho) hN
          -- the folding of the line
          have fold : ∀ (u i : Nat) (A' : Nat → Nat → Int32), i + u = size → (∀ k, k ≠ 17 → k ≠ 18 → k ≠ 19 → k ≠ 20 → A' k = A k) → xcur B' size (fun j => V (lx size stride b j o)) (fun j => C (lx size stride b j o)) (A' 19) (A' 20) → xinv B blocks size stride l V C (A 17) (A 18) (A' 17) (A' 18) (fun b' i' o' => b' < b ∨ (b' = b ∧ (o' < o ∨ (o' = o ∧ i' < i)))) → G 85 [(0, .ref (ad 3)), (1, .int (nI blocks)), (2, .int (nI stride)), (3, .int (nI size)), (4, .ref (ad 21)), (5, .int (nI fl)), (6, .int (nI b)), (7, .int (nI o)), (8, .int (nI (b * stride * size + o))), (9, .int (nI i))] [] (wX cI ad F A') 0 0 := by
            intro u
            induction u with
            | zero =>
              intro i A' hu h1 h3 h2
              have e : i = size := by omega
              subst e
              refine sg_R_foldLinesk_85 hG ad F A' _ _ _ _ _ _ _ _ ⟨fun _ => ?_, fun c => absurd (nI_le (Nat.le_refl _) (by omega)) c⟩
              rw [show nI o + 1 = nI (o + 1) from nI_1 o]
              exact ihe (o + 1) A' (by omega) h1 (xinv_iff h2 (fun b' i' o' g1 g2 g3 => ⟨fun q => by omega, fun q => by omega⟩))
            | succ u ihu =>
              intro i A' hu h1 h3 h2
              have hi : i < size := by omega
              refine sg_R_foldLinesk_85 hG ad F A' _ _ _ _ _ _ _ _ ⟨fun c => absurd (nge (by omega) (by omega) c) (by omega), fun _ => ?_⟩
              rw [eix i, pk_mul, nI_add]
              have hlk : (i + 1) * size ≤ size * size := Nat.mul_le_mul_right _ hi
              rw [Nat.succ_mul] at hlk
              refine x_foldOnek ad F A' hB hBl (hlx i hi) hsz.2 (by omega) h3 (l := l i) (fun j hj => ⟨(hl i j hi hj).1, by rw [h1 21 (by decide) (by decide) (by decide) (by decide)]; exact (hl i j hi hj).2⟩) (fun a n hr => ?_)
              refine sg_R_foldLinesk_112 hG ad F _ _ _ _ _ _ _ _ _ ?_
              rw [show nI i + 1 = nI (i + 1) from nI_1 i]
              refine ihu (i + 1) _ (by omega) (fun k g1 g2 g3 g4 => by rw [q_ua_ne g2, q_ua_ne g1]; exact h1 k g1 g2 g3 g4) h3 ?_
              refine xinv_iff (xinv_step h2 hi ho hr) (fun b' i' o' g1 g2 g3 => ⟨fun q => by omega, fun q => by omega⟩)
          -- the line is taken out
          have load : ∀ (u i : Nat) (A' : Nat → Nat → Int32), i + u = size → (∀ k, k ≠ 17 → k ≠ 18 → k ≠ 19 → k ≠ 20 → A' k = A k) → (∀ j, j < i → A' 19 j = A 17 (lx size stride b j o) ∧ A' 20 j = A 18 (lx size stride b j o)) → xinv B blocks size stride l V C (A 17) (A 18) (A' 17) (A' 18) (fun b' _ o' => b' < b ∨ (b' = b ∧ o' < o)) → G 32 [(0, .ref (ad 3)), (1, .int (nI blocks)), (2, .int (nI stride)), (3, .int (nI size)), (4, .ref (ad 21)), (5, .int (nI fl)), (6, .int (nI b)), (7, .int (nI o)), (8, .int (nI (b * stride * size + o))), (9, .int (nI i))] [] (wX cI ad F A') 0 0 := by
            intro u
            induction u with
            | zero =>
              intro i A' hu h1 h3 h2
              have e : i = size := by omega
              subst e
              refine sg_R_foldLinesk_32 hG ad F A' _ _ _ _ _ _ _ _ ⟨fun _ => ?_, fun c => absurd (nI_le (Nat.le_refl _) (by omega)) c⟩
              refine fold i 0 A' (by omega) h1 (fun j hj => ?_) (xinv_iff h2 (fun b' i' o' g1 g2 g3 => ⟨fun q => by omega, fun q => by omega⟩))
              rw [(h3 j hj).1, (h3 j hj).2]
              exact hc _ (lx_lt hb hj ho)
            | succ u ihu =>
              intro i A' hu h1 h3 h2
              have hi : i < size := by omega
              have hin : vp_in (nI i) 15 := vp_in_nI (by omega) (by decide)
              have hix : vp_in (nI (lx size stride b i o)) 405 := vp_in_nI (hlx i hi) (by decide)
              have hcl := hlx i hi
              refine sg_R_foldLinesk_32 hG ad F A' _ _ _ _ _ _ _ _ ⟨fun c => absurd (nge (by omega) (by omega) c) (by omega), fun _ => ?_⟩
              rw [eix i, nI_clamp (show lx size stride b i o < 2 ^ 31 by omega), nI_clamp (show i < 2 ^ 31 by omega)]
              refine ⟨hix, hin, hix, hin, ?_⟩
              refine sg_R_foldLinesk_76 hG ad F _ _ _ _ _ _ _ _ _ ?_
              rw [show nI i + 1 = nI (i + 1) from nI_1 i]
              refine ihu (i + 1) _ (by omega) (fun k g1 g2 g3 g4 => by rw [q_ua_ne g4, q_ua_ne g3]; exact h1 k g1 g2 g3 g4) (fun j hj => ?_) h2
              have old := (h2 b i o hb hi ho).2 (fun q => by omega)
              show upd (A' 19) i (A' 17 (lx size stride b i o)) j = _ ∧ upd (A' 20) i (A' 18 (lx size stride b i o)) j = _
              rcases Nat.lt_or_ge j i with z | z
              · rw [pk_un (by omega), pk_un (by omega)]; exact h3 j z
              · rw [show j = i by omega, upd_s, upd_s]; exact old
          exact load size 0 A' (by omega) h1 (fun j hj => absurd hj (Nat.not_lt_zero j)) h2
      exact mid stride 0 A' (by omega) h1 (xinv_iff h2 (fun b' i' o' g1 g2 g3 => ⟨fun q => by omega, fun q => by omega⟩))
  exact outer blocks 0 A (by omega) (fun k _ _ _ _ => rfl) (fun b i o _ _ _ => ⟨fun q => absurd q (Nat.not_lt_zero _), fun _ => ⟨rfl, rfl⟩⟩)
theorem x_foldLiness (ad : Nat → Nat) (F : Nat → Int32) (A : Nat → Nat → Int32) {B B' lm blocks size stride fl : Nat} {V C : Nat → c_T} {l : Nat → Nat → Nat} (hB : B < 268435456) (hBl : B' + 64 * lm ≤ B) (hsz : 1 ≤ size ∧ size ≤ 15) (hstr : 1 ≤ stride) (hN : blocks * size * stride ≤ 405) (hfl : fl + size * size ≤ 27) (hc : xcur B' (blocks * size * stride) V C (A 17) (A 18)) (hl : ∀ i j, i < size → j < size → l i j ≤ lm ∧ A 22 (fl + i * size + j) = nI (64 * l i j))
    (hK : ∀ A' : Nat → Nat → Int32, (∀ k, k ≠ 17 → k ≠ 18 → k ≠ 19 → k ≠ 20 → A' k = A k) → (∀ b i o, b < blocks → i < size → o < stride → xfol B size stride l V C (A' 17) (A' 18) b i o) → K none (wX cI ad F A')) : T_R_foldLines cI tv [.ref (ad 3), .int (nI blocks), .int (nI stride), .int (nI size), .ref (ad 22), .int (nI fl)] (wX cI ad F A) K := by
  refine ⟨q_le0 _ _ rfl, fun G hG => ?_⟩
  have hb405 : blocks ≤ 405 := by
    have h1 : blocks * 1 ≤ blocks * size := Nat.mul_le_mul_left _ hsz.1
    have h2 : blocks * size * 1 ≤ blocks * size * stride := Nat.mul_le_mul_left _ hstr
    omega
  refine sg_R_foldLiness_0 hG ad F A _ _ _ _ ?_
  have outer : ∀ (d b : Nat) (A' : Nat → Nat → Int32), b + d = blocks → (∀ k, k ≠ 17 → k ≠ 18 → k ≠ 19 → k ≠ 20 → A' k = A k) → xinv B blocks size stride l V C (A 17) (A 18) (A' 17) (A' 18) (fun b' _ _ => b' < b) → G 3 [(0, .ref (ad 3)), (1, .int (nI blocks)), (2, .int (nI stride)), (3, .int (nI size)), (4, .ref (ad 22)), (5, .int (nI fl)), (6, .int (nI b))] [] (wX cI ad F A') 0 0 := by
    intro d
    induction d with
    | zero =>
      intro b A' hd h1 h2
      have e : b = blocks := by omega
      subst e
      exact sg_R_foldLiness_3 hG ad F A' _ _ _ _ _ ⟨fun _ => hK A' h1 (fun b' i o g1 g2 g3 => (h2 b' i o g1 g2 g3).1 g1), fun c => absurd (nI_le (Nat.le_refl _) (by omega)) c⟩
    | succ d ih =>
      intro b A' hd h1 h2
      have hb : b < blocks := by omega
      have hs405 : stride ≤ 405 := by
        have h1 : 1 * 1 ≤ blocks * size := Nat.mul_le_mul (by omega) hsz.1
        have h2 : 1 * stride ≤ blocks * size * stride := Nat.mul_le_mul_right _ h1
        omega
      refine sg_R_foldLiness_3 hG ad F A' _ _ _ _ _ ⟨fun c => absurd (nge (by omega) (by omega) c) (by omega), fun _ => ?_⟩
      have mid : ∀ (e o : Nat) (A' : Nat → Nat → Int32), o + e = stride → (∀ k, k ≠ 17 → k ≠ 18 → k ≠ 19 → k ≠ 20 → A' k = A k) → xinv B blocks size stride l V C (A 17) (A 18) (A' 17) (A' 18) (fun b' _ o' => b' < b ∨ (b' = b ∧ o' < o)) → G 12 [(0, .ref (ad 3)), (1, .int (nI blocks)), (2, .int (nI stride)), (3, .int (nI size)), (4, .ref (ad 22)), (5, .int (nI fl)), (6, .int (nI b)), (7, .int (nI o))] [] (wX cI ad F A') 0 0 := by
        intro e
        induction e with
        | zero =>
          intro o A' he h1 h2
          have e : o = stride := by omega
          subst e
          refine sg_R_foldLiness_12 hG ad F A' _ _ _ _ _ _ ⟨fun _ => ?_, fun c => absurd (nI_le (Nat.le_refl _) (by omega)) c⟩
          rw [show nI b + 1 = nI (b + 1) from nI_1 b]
          exact ih (b + 1) A' (by omega) h1 (xinv_iff h2 (fun b' i o' g1 g2 g3 => ⟨fun q => by omega, fun q => by omega⟩))
        | succ e ihe =>
          intro o A' he h1 h2
          have ho : o < stride := by omega
          refine sg_R_foldLiness_12 hG ad F A' _ _ _ _ _ _ ⟨fun c => absurd (nge (by omega) (by omega) c) (by omega), fun _ => ?_⟩
          rw [pk_mul, pk_mul, nI_add]
          have eix : ∀ i, nI (b * stride * size + o) + nI i * nI stride = nI (lx size stride b i o) := fun i => by rw [pk_mul, nI_add, lx_eq]
          have hlx : ∀ i, i < size → lx size stride b i o < 405 := fun i hi => Nat.lt_of_lt_of_le (lx_lt hb hi ho) hN
          -- the folding of the line
          have fold : ∀ (u i : Nat) (A' : Nat → Nat → Int32), i + u = size → (∀ k, k ≠ 17 → k ≠ 18 → k ≠ 19 → k ≠ 20 → A' k = A k) → xcur B' size (fun j => V (lx size stride b j o)) (fun j => C (lx size stride b j o)) (A' 19) (A' 20) → xinv B blocks size stride l V C (A 17) (A 18) (A' 17) (A' 18) (fun b' i' o' => b' < b ∨ (b' = b ∧ (o' < o ∨ (o' = o ∧ i' < i)))) → G 85 [(0, .ref (ad 3)), (1, .int (nI blocks)), (2, .int (nI stride)), (3, .int (nI size)), (4, .ref (ad 22)), (5, .int (nI fl)), (6, .int (nI b)), (7, .int (nI o)), (8, .int (nI (b * stride * size + o))), (9, .int (nI i))] [] (wX cI ad F A') 0 0 := by
            intro u
            induction u with
            | zero =>
              intro i A' hu h1 h3 h2
              have e : i = size := by omega
              subst e
              refine sg_R_foldLiness_85 hG ad F A' _ _ _ _ _ _ _ _ ⟨fun _ => ?_, fun c => absurd (nI_le (Nat.le_refl _) (by omega)) c⟩
              rw [show nI o + 1 = nI (o + 1) from nI_1 o]
              exact ihe (o + 1) A' (by omega) h1 (xinv_iff h2 (fun b' i' o' g1 g2 g3 => ⟨fun q => by omega, fun q => by omega⟩))
            | succ u ihu =>
              intro i A' hu h1 h3 h2
              have hi : i < size := by omega
              refine sg_R_foldLiness_85 hG ad F A' _ _ _ _ _ _ _ _ ⟨fun c => absurd (nge (by omega) (by omega) c) (by omega), fun _ => ?_⟩
              rw [eix i, pk_mul, nI_add]
              have hlk : (i + 1) * size ≤ size * size := Nat.mul_le_mul_right _ hi
              rw [Nat.succ_mul] at hlk
              refine x_foldOnes ad F A' hB hBl (hlx i hi) hsz.2 (by omega) h3 (l := l i) (fun j hj => ⟨(hl i j hi hj).1, by rw [h1 22 (by decide) (by decide) (by decide) (by decide)]; exact (hl i j hi hj).2⟩) (fun a n hr => ?_)
              refine sg_R_foldLiness_112 hG ad F _ _ _ _ _ _ _ _ _ ?_
              rw [show nI i + 1 = nI (i + 1) from nI_1 i]
              refine ihu (i + 1) _ (by omega) (fun k g1 g2 g3 g4 => by rw [q_ua_ne g2, q_ua_ne g1]; exact h1 k g1 g2 g3 g4) h3 ?_
              refine xinv_iff (xinv_step h2 hi ho hr) (fun b' i' o' g1 g2 g3 => ⟨fun q => by omega, fun q => by omega⟩)
          -- the line is taken out
          have load : ∀ (u i : Nat) (A' : Nat → Nat → Int32), i + u = size → (∀ k, k ≠ 17 → k ≠ 18 → k ≠ 19 → k ≠ 20 → A' k = A k) → (∀ j, j < i → A' 19 j = A 17 (lx size stride b j o) ∧ A' 20 j = A 18 (lx size stride b j o)) → xinv B blocks size stride l V C (A 17) (A 18) (A' 17) (A' 18) (fun b' _ o' => b' < b ∨ (b' = b ∧ o' < o)) → G 32 [(0, .ref (ad 3)), (1, .int (nI blocks)), (2, .int (nI stride)), (3, .int (nI size)), (4, .ref (ad 22)), (5, .int (nI fl)), (6, .int (nI b)), (7, .int (nI o)), (8, .int (nI (b * stride * size + o))), (9, .int (nI i))] [] (wX cI ad F A') 0 0 := by
            intro u
            induction u with
            | zero =>
              intro i A' hu h1 h3 h2
              have e : i = size := by omega
              subst e
              refine sg_R_foldLiness_32 hG ad F A' _ _ _ _ _ _ _ _ ⟨fun _ => ?_, fun c => absurd (nI_le (Nat.le_refl _) (by omega)) c⟩
              refine fold i 0 A' (by omega) h1 (fun j hj => ?_) (xinv_iff h2 (fun b' i' o' g1 g2 g3 => ⟨fun q => by omega, fun q => by omega⟩))
              rw [(h3 j hj).1, (h3 j hj).2]
              exact hc _ (lx_lt hb hj ho)
            | succ u ihu =>
              intro i A' hu h1 h3 h2
              have hi : i < size := by omega
              have hin : vp_in (nI i) 15 := vp_in_nI (by omega) (by decide)
              have hix : vp_in (nI (lx size stride b i o)) 405 := vp_in_nI (hlx i hi) (by decide)
              have hcl := hlx i hi
              refine sg_R_foldLiness_32 hG ad F A' _ _ _ _ _ _ _ _ ⟨fun c => absurd (nge (by omega) (by omega) c) (by omega), fun _ => ?_⟩
              rw [eix i, nI_clamp (show lx size stride b i o < 2 ^ 31 by omega), nI_clamp (show i < 2 ^ 31 by omega)]
              refine ⟨hix, hin, hix, hin, ?_⟩
              refine sg_R_foldLiness_76 hG ad F _ _ _ _ _ _ _ _ _ ?_
              rw [show nI i + 1 = nI (i + 1) from nI_1 i]
              refine ihu (i + 1) _ (by omega) (fun k g1 g2 g3 g4 => by rw [q_ua_ne g4, q_ua_ne g3]; exact h1 k g1 g2 g3 g4) (fun j hj => ?_) h2
              have old := (h2 b i o hb hi ho).2 (fun q => by omega)
              show upd (A' 19) i (A' 17 (lx size stride b i o)) j = _ ∧ upd (A' 20) i (A' 18 (lx size stride b i o)) j = _
              rcases Nat.lt_or_ge j i with z | z
              · rw [pk_un (by omega), pk_un (by omega)]; exact h3 j z
              · rw [show j = i by omega, upd_s, upd_s]; exact old
          exact load size 0 A' (by omega) h1 (fun j hj => absurd hj (Nat.not_lt_zero j)) h2
      exact mid stride 0 A' (by omega) h1 (xinv_iff h2 (fun b' i' o' g1 g2 g3 => ⟨fun q => by omega, fun q => by omega⟩))
  exact outer blocks 0 A (by omega) (fun k _ _ _ _ => rfl) (fun b i o _ _ _ => ⟨fun q => absurd q (Nat.not_lt_zero _), fun _ => ⟨rfl, rfl⟩⟩)
end XFL
