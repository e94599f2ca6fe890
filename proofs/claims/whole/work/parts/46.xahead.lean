/-! the class: folding part after part is one sum over all states ahead -/
theorem c_split (n : Nat) (f : Nat → c_T) : ∀ k, c_sum (n + k) f = c_add (c_sum n f) (c_sum k (fun b => f (n + b)))
  | 0 => (c_add_none _).symm
  | k + 1 => by
    show c_add (c_sum (n + k) f) (f (n + k)) = c_add _ (c_add (c_sum k (fun b => f (n + b))) (f (n + k)))
    rw [c_split n f k, c_add_assoc]
theorem c_flat (k : Nat) (f : Nat → c_T) : ∀ n, c_sum (n * k) f = c_sum n (fun a => c_sum k (fun b => f (k * a + b)))
  | 0 => by rw [Nat.zero_mul]; rfl
  | n + 1 => by
    rw [Nat.succ_mul, c_split, c_flat k f n, Nat.mul_comm n k]
    rfl
theorem c_mul_pair (a b : Nat) (X : c_T) : c_mul (some (a, 1)) (c_mul (some (b, 1)) X) = c_mul (some (a + b, 1)) X := by
  cases X with
  | none => rfl
  | some x => show some (a + (b + x.1), 1 * (1 * x.2)) = some (a + b + x.1, 1 * x.2); rw [Nat.one_mul, Nat.add_assoc]
def fm (n s : Nat) (M : Nat → Nat → Nat) (V : Nat → c_T) (x : Nat) : c_T := c_sum n (fun g => c_mul (some (M (x / s) g, 1)) (V (s * g + x % s)))
theorem lx_div {z s b j o : Nat} (hj : j < z) (ho : o < s) : lx z s b j o / (z * s) = b ∧ lx z s b j o % (z * s) = s * j + o := by
  have hlt : s * j + o < z * s := ix_lt ho hj
  have e : lx z s b j o = z * s * b + (s * j + o) := by
    unfold lx
    rw [Nat.mul_add, ← Nat.mul_assoc, Nat.mul_comm s z]
    omega
  rw [e]
  exact ⟨by rw [Nat.mul_add_div (by omega), Nat.div_eq_of_lt hlt, Nat.add_zero], by rw [Nat.mul_add_mod, Nat.mod_eq_of_lt hlt]⟩
theorem lx_div1 {z s b j o : Nat} (ho : o < s) : lx z s b j o / s = z * b + j ∧ lx z s b j o % s = o := by
  unfold lx
  exact ⟨by rw [Nat.mul_add_div (by omega), Nat.div_eq_of_lt ho, Nat.add_zero], by rw [Nat.mul_add_mod, Nat.mod_eq_of_lt ho]⟩
theorem fm_step {n z s b i o : Nat} {M st M' : Nat → Nat → Nat} {V : Nat → c_T} (ho : o < s) (hM : ∀ g j, j < z → M' (z * b + i) (z * g + j) = M b g + st i j) : c_sum z (fun j => c_mul (some (st i j, 1)) (fm n (z * s) M V (lx z s b j o))) = fm (n * z) s M' V (lx z s b i o) := by
  have e1 : ∀ j, j < z → c_mul (some (st i j, 1)) (fm n (z * s) M V (lx z s b j o)) = c_sum n (fun g => c_mul (some (M' (z * b + i) (z * g + j), 1)) (V (s * (z * g + j) + o))) := by
    intro j hj
    unfold fm
    rw [(lx_div hj ho).1, (lx_div hj ho).2, c_mul_sum]
    refine c_sum_congr (fun g _ => ?_)
    rw [c_mul_pair, hM g j hj, Nat.add_comm (st i j), show z * s * g + (s * j + o) = s * (z * g + j) + o by rw [Nat.mul_add, ← Nat.mul_assoc, Nat.mul_comm s z]; omega]
  rw [c_sum_congr e1, c_sum_swap]
  unfold fm
  rw [(lx_div1 ho).1, (lx_div1 ho).2, c_flat]
theorem xcur_fold {B n z s : Nat} {M st M' : Nat → Nat → Nat} {V C : Nat → c_T} {f g : Nat → Int32} (hz : 0 < z) (hs : 0 < s) (hM : ∀ b i g j, i < z → j < z → M' (z * b + i) (z * g + j) = M b g + st i j) (h : ∀ b i o, b < n → i < z → o < s → xfol B z s st (fm n (z * s) (fun h g => 64 * M h g) V) (fm n (z * s) M C) f g b i o) : xcur B (n * z * s) (fm (n * z) s (fun h g => 64 * M' h g) V) (fm (n * z) s M' C) f g := by
  intro x hx
  have h1 : x / s < n * z := Nat.div_lt_of_lt_mul (by rw [Nat.mul_comm]; exact hx)
  have h2 : x / s / z < n := Nat.div_lt_of_lt_mul (by rw [Nat.mul_comm]; exact h1)
  have hi : x / s % z < z := Nat.mod_lt _ hz
  have ho : x % s < s := Nat.mod_lt _ hs
  obtain ⟨a, k, q1, q2, q3⟩ := h (x / s / z) (x / s % z) (x % s) h2 hi ho
  have e : lx z s (x / s / z) (x / s % z) (x % s) = x := by
    unfold lx
    rw [Nat.div_add_mod, Nat.div_add_mod]
  rw [fm_step (M' := fun h g => 64 * M' h g) (st := fun i j => 64 * st i j) ho (fun g j hj => by show 64 * M' _ _ = _; rw [hM _ _ g j hi hj, Nat.mul_add]), fm_step ho (fun g j hj => hM _ _ g j hi hj), e] at q3
  rw [e] at q1 q2
  exact ⟨a, k, q1, q2, q3⟩
theorem fm_one {N x : Nat} (V : Nat → c_T) (M : Nat → Nat → Nat) (hM : ∀ h g, M h g = 0) (hx : x < N) : fm 1 N M V x = V x := by
  show c_add none (c_mul (some (M (x / N) 0, 1)) (V (N * 0 + x % N))) = V x
  rw [c_none_add, hM, Nat.mul_zero, Nat.zero_add, Nat.mod_eq_of_lt hx, c_mul_comm, c_mul_one]
theorem xcur_congr {B N : Nat} {V V' C C' : Nat → c_T} {f g : Nat → Int32} (h : xcur B N V C f g) (hV : ∀ x, x < N → V' x = V x) (hC : ∀ x, x < N → C' x = C x) : xcur B N V' C' f g := by
  intro x hx
  rw [hV x hx, hC x hx]
  exact h x hx
/-- what a state pays for one ahead, the KEYS and the first p places -/
def xL (S : sc_S) (m : Nat) : Nat → Nat → Nat → Nat
  | 0, h, g => S 6 4 * sc_kd (h % 15) (g % 15)
  | p + 1, h, g => xL S m p (h / 3) (g / 3) + xst S m p (h % 3) (g % 3)
theorem xst_le {S : sc_S} (hw : sc_wf S) (m p d e : Nat) : xst S m p d e ≤ 20 := by
  have h := hw.2.2.2.2.2 3 (by decide)
  unfold xst
  split
  · have := sc_bad_le (opn S (S 3 m + p) d) (S 0 (S 3 m + p)) (opn S (S 3 (m + 1) + p) e) (S 0 (S 3 (m + 1) + p))
    have h2 := Nat.mul_le_mul h this
    omega
  · omega
theorem kd_le {a b : Nat} (ha : a < 15) (hb : b < 15) : sc_kd a b ≤ 14 := by
  have h : sc_dist a b ≤ 14 := by unfold sc_dist; split <;> omega
  unfold sc_kd
  split <;> omega
theorem p3_succ {k : Nat} (h : k < 3) : p3 (k + 1) = 3 * p3 k := by
  rcases (show k = 0 ∨ k = 1 ∨ k = 2 by omega) with rfl | rfl | rfl <;> rfl
section XA
variable {cI : ClassId} {tv : Nat} {K : q_K}
theorem x_lookAheadFrom (ad : Nat → Nat) (F : Nat → Int32) (A : Nat → Nat → Int32) {S : sc_S} (hw : sc_wf S) (hR : xR S F A) {m B0 : Nat} {V C : Nat → c_T} (hm : m + 1 < S 7 1) (hB : B0 + 21760 < 268435456) (h15 : A 15 (m + 1) = nI (xo S (m + 1))) (h21 : ∀ k k', k < 15 → k' < 15 → A 21 (15 * k + k') = nI (64 * (S 6 4 * sc_kd k k'))) (hc : xcur B0 (15 * p3 (S 4 (m + 1))) V C (fun x => A 14 (xo S (m + 1) + x)) (A 16))
    (hK : ∀ A' : Nat → Nat → Int32, (∀ k, k ≠ 17 → k ≠ 18 → k ≠ 19 → k ≠ 20 → k ≠ 22 → A' k = A k) → xcur (B0 + 21760) (15 * p3 (S 4 (m + 1))) (fm (15 * p3 (S 4 (m + 1))) 1 (fun h g => 64 * xL S m (S 4 (m + 1)) h g) V) (fm (15 * p3 (S 4 (m + 1))) 1 (xL S m (S 4 (m + 1))) C) (A' 17) (A' 18) → K none (wX cI ad (q_uf F 11 (nI (p3 (S 4 (m + 1))))) A')) : T_R_lookAheadFrom cI tv [.ref (ad 3), .int (nI m)] (wX cI ad F A) K := by
  refine ⟨q_le0 _ _ rfl, fun G hG => ?_⟩
  have hM := wf_M hw
  have w := hw.2.2.1 (m + 1) hm
  have r := hR.2.2.2.2 (m + 1) hm
  have hxo := xo_lt hw hm
  have hw64 := hw.2.2.2.2.2 4 (by decide)
  have hP := p3_pos (S 4 (m + 1))
  refine sg_R_lookAheadFrom_0 hG ad F A (nI m) ?_
  rw [show nI m + 1 = nI (m + 1) from nI_1 m, nI_clamp (show m + 1 < 2 ^ 31 by omega), r.2.1, nI_clamp (show S 4 (m + 1) < 2 ^ 31 by omega), pk4_p3, h15, show (15 : Int32) = nI 15 from rfl, pk_mul]
  have hin : vp_in (nI (m + 1)) 18 := vp_in_nI (by omega) (by decide)
  have nneg : ∀ n, n < 2 ^ 31 → ¬ nI n < 0 := fun n hn c => absurd (nlt' hn (by decide) (show nI n < nI 0 from c)) (Nat.not_lt_zero n)
  refine ⟨hin, vp_in_nI (by omega) (by decide), hin, ad 14, ad 17, _, _, _, 14, 17, 2430, 405, A 14, A 17, rfl, rfl, rfl, nneg _ (by omega), nneg 0 (by decide), nneg _ (by omega), ?_, ?_, ?_⟩
  · rw [nI_clamp (by omega), nI_clamp (by omega)]; exact hxo
  · rw [show (0 : Int32).toNatClampNeg = 0 from rfl, nI_clamp (by omega)]; omega
  rw [show (0 : Int32).toNatClampNeg = 0 from rfl, nI_clamp (by omega), nI_clamp (by omega)]
  show G 50 _ [] (wX cI ad (q_uf F 11 (nI (p3 (S 4 (m + 1))))) (q_ua A 17 (va_cpy (A 14) (A 17) (xo S (m + 1)) 0 (15 * p3 (S 4 (m + 1)))))) 0 0
  refine sg_R_lookAheadFrom_50 hG ad _ _ _ _ _ ⟨ad 16, ad 18, _, _, _, 16, 18, 405, 405, A 16, A 18, rfl, rfl, rfl, nneg 0 (by decide), nneg 0 (by decide), nneg _ (by omega), ?_, ?_, ?_⟩
  · rw [show (0 : Int32).toNatClampNeg = 0 from rfl, nI_clamp (by omega)]; omega
  · rw [show (0 : Int32).toNatClampNeg = 0 from rfl, nI_clamp (by omega)]; omega
  rw [show (0 : Int32).toNatClampNeg = 0 from rfl, nI_clamp (by omega)]
  show G 64 _ [] (wX cI ad (q_uf F 11 (nI (p3 (S 4 (m + 1))))) (q_ua (q_ua A 17 (va_cpy (A 14) (A 17) (xo S (m + 1)) 0 (15 * p3 (S 4 (m + 1))))) 18 (va_cpy (A 16) (A 18) 0 0 (15 * p3 (S 4 (m + 1)))))) 0 0
  refine sg_R_lookAheadFrom_64 hG ad _ _ _ _ _ ?_
  have hc2 : xcur B0 (1 * 15 * p3 (S 4 (m + 1))) (fm 1 (15 * p3 (S 4 (m + 1))) (fun h g => 64 * (fun _ _ => 0) h g) V) (fm 1 (15 * p3 (S 4 (m + 1))) (fun _ _ => 0) C) (va_cpy (A 14) (A 17) (xo S (m + 1)) 0 (15 * p3 (S 4 (m + 1)))) (va_cpy (A 16) (A 18) 0 0 (15 * p3 (S 4 (m + 1)))) := by
    intro x hx
    rw [show 1 * 15 = 15 from rfl] at hx
    rw [fm_one V (fun h g => 64 * (fun _ _ => 0) h g) (fun _ _ => rfl) hx, fm_one C (fun _ _ => 0) (fun _ _ => rfl) hx]
    obtain ⟨a, n, e1, e2, e3⟩ := hc x hx
    refine ⟨a, n, ?_, ?_, e3⟩
    · rw [pk_cpy_in (Nat.zero_le x) (by omega)]; exact e1
    · rw [pk_cpy_in (Nat.zero_le x) (by omega), Nat.zero_add]; exact e2
  refine x_foldLinesk ad _ _ (B := B0 + 17920) (lm := 280) (l := fun i j => S 6 4 * sc_kd i j) (blocks := 1) (size := 15) (fl := 0) (by omega) (by omega) ⟨by decide, by decide⟩ hP.1 (by omega) (by decide) hc2 (fun i j hi hj => ⟨Nat.mul_le_mul hw64 (kd_le hi hj), ?_⟩) (fun A1 k1 f1 => ?_)
  · show A 21 (0 + i * 15 + j) = _
    rw [Nat.zero_add, Nat.mul_comm i 15]; exact h21 i j hi hj
  have c0 := xcur_fold (M' := xL S m 0) (by decide) hP.1 (fun b i g j hi hj => by show S 6 4 * sc_kd ((15 * b + i) % 15) ((15 * g + j) % 15) = 0 + _; rw [show (15 * b + i) % 15 = i by omega, show (15 * g + j) % 15 = j by omega, Nat.zero_add]) f1
  have kA1 : ∀ k, k ≠ 17 → k ≠ 18 → k ≠ 19 → k ≠ 20 → k ≠ 22 → A1 k = A k := fun k g1 g2 g3 g4 _ => by rw [k1 k g1 g2 g3 g4, q_ua_ne g2, q_ua_ne g1]
  refine sg_R_lookAheadFrom_80 hG ad _ _ _ _ _ ?_
  refine x_linkSteps ad _ _ hw (xR_of hR (fun j hj => by rw [q_uf_ne (by omega)]) (fun k hk hk2 => kA1 k (by omega) (by omega) (by omega) (by omega) (by omega))) hm (fun fs hfs => ?_)
  refine sg_R_lookAheadFrom_85 hG ad _ _ _ _ _ ?_
  have loop : ∀ (d p : Nat) (A' : Nat → Nat → Int32), p + d = S 4 (m + 1) → (∀ k, k ≠ 17 → k ≠ 18 → k ≠ 19 → k ≠ 20 → k ≠ 22 → A' k = A k) → xStp S m (A' 22) → xcur (B0 + 17920 + 1280 * p) (15 * p3 p * p3 (S 4 (m + 1) - p)) (fm (15 * p3 p) (p3 (S 4 (m + 1) - p)) (fun h g => 64 * xL S m p h g) V) (fm (15 * p3 p) (p3 (S 4 (m + 1) - p)) (xL S m p) C) (A' 17) (A' 18) → G 88 [(0, .ref (ad 3)), (2, .int (nI (S 4 (m + 1)))), (4, .int (nI p))] [] (wX cI ad (q_uf F 11 (nI (p3 (S 4 (m + 1))))) A') 0 0 := by
    intro d
    induction d with
    | zero =>
      intro p A' hd h1 h2 h3
      have e : p = S 4 (m + 1) := by omega
      subst e
      refine sg_R_lookAheadFrom_88 hG ad _ A' _ _ ⟨fun _ => hK A' h1 ?_, fun c => absurd (nI_le (Nat.le_refl _) (by omega)) c⟩
      rw [Nat.sub_self] at h3
      have e1 : p3 0 = 1 := rfl
      rw [e1, Nat.mul_one] at h3
      intro x hx
      obtain ⟨a, n, q1, q2, q3⟩ := h3 x hx
      exact ⟨a, n, q1, q2, xrep_mono q3 (by omega)⟩
    | succ d ih =>
      intro p A' hd h1 h2 h3
      have hp : p < S 4 (m + 1) := by omega
      have es : p3 (S 4 (m + 1) - p) = 3 * p3 (S 4 (m + 1) - 1 - p) := by rw [← p3_succ (by omega)]; congr 1; omega
      have es2 : S 4 (m + 1) - (p + 1) = S 4 (m + 1) - 1 - p := by omega
      have hs := p3_pos (S 4 (m + 1) - 1 - p)
      have hall : 15 * p3 p * 3 * p3 (S 4 (m + 1) - 1 - p) ≤ 405 := by
        rcases (show S 4 (m + 1) = 1 ∨ S 4 (m + 1) = 2 ∨ S 4 (m + 1) = 3 by omega) with e | e | e <;> rw [e] at hp ⊢
        · rw [show p = 0 by omega]; decide
        · rcases (show p = 0 ∨ p = 1 by omega) with rfl | rfl <;> decide
        · rcases (show p = 0 ∨ p = 1 ∨ p = 2 by omega) with rfl | rfl | rfl <;> decide
      refine sg_R_lookAheadFrom_88 hG ad _ A' _ _ ⟨fun c => absurd (nge (by omega) (by omega) c) (by omega), fun _ => ?_⟩
      have e1 : nI (S 4 (m + 1)) - 1 - nI p = nI (S 4 (m + 1) - 1 - p) := by
        rw [show (1 : Int32) = nI 1 from rfl, pk_sub (by omega), pk_sub (by omega)]
      rw [e1, nI_clamp (show p < 2 ^ 31 by omega), nI_clamp (show S 4 (m + 1) - 1 - p < 2 ^ 31 by omega), pk4_p3, pk4_p3, show (15 : Int32) = nI 15 from rfl, pk_mul, show (3 : Int32) = nI 3 from rfl, pk_mul, pk_mul]
      rw [es, ← Nat.mul_assoc] at h3
      refine ⟨vp_in_nI (by omega) (by decide), vp_in_nI (by omega) (by decide), ?_⟩
      have hp3 : p + 1 ≤ 3 := by omega
      have hB1 : B0 + 17920 + 1280 * (p + 1) < 268435456 := Nat.lt_of_le_of_lt (show B0 + 17920 + 1280 * (p + 1) ≤ B0 + 21760 by omega) hB
      refine x_foldLiness ad _ A' (B := B0 + 17920 + 1280 * (p + 1)) (lm := 20) (l := xst S m p) (size := 3) hB1 (by show B0 + 17920 + 1280 * p + 64 * 20 ≤ B0 + 17920 + 1280 * (p + 1); omega) ⟨by decide, by decide⟩ hs.1 hall (by omega) h3 (fun i j hi hj => ⟨xst_le hw m p i j, ?_⟩) (fun A2 k2 f2 => ?_)
      · rw [show p * 3 * 3 + i * 3 + j = 9 * p + 3 * i + j by omega]
        exact h2 p i j (by omega) hi hj
      · refine sg_R_lookAheadFrom_132 hG ad _ A2 _ _ _ ?_
        rw [show nI p + 1 = nI (p + 1) from nI_1 p]
        refine ih (p + 1) A2 (by omega) (fun k g1 g2 g3 g4 g5 => by rw [k2 k g1 g2 g3 g4]; exact h1 k g1 g2 g3 g4 g5) (by rw [k2 22 (by decide) (by decide) (by decide) (by decide)]; exact h2) ?_
        have c1 := xcur_fold (M' := xL S m (p + 1)) (by decide) hs.1 (fun b i g j hi hj => by show xL S m p ((3 * b + i) / 3) ((3 * g + j) / 3) + xst S m p ((3 * b + i) % 3) ((3 * g + j) % 3) = _; rw [show (3 * b + i) / 3 = b by omega, show (3 * g + j) / 3 = g by omega, show (3 * b + i) % 3 = i by omega, show (3 * g + j) % 3 = j by omega]) f2
        rw [es2, show 15 * p3 (p + 1) = 15 * p3 p * 3 by rw [p3_succ (by omega)]; omega]
        exact c1
  refine loop (S 4 (m + 1)) 0 _ (by omega) (fun k g1 g2 g3 g4 g5 => by rw [q_ua_ne g5]; exact kA1 k g1 g2 g3 g4 g5) hfs ?_
  exact c0
end XA
