/-! the class: every state of a MOMENT is weighed -/
theorem ix_inj {P k p k' p' : Nat} (hp : p < P) (hp' : p' < P) (h : P * k + p = P * k' + p') : k = k' ∧ p = p' := by
  have hP : 0 < P := by omega
  have e1 : (P * k + p) / P = k := by rw [Nat.mul_add_div hP, Nat.div_eq_of_lt hp, Nat.add_zero]
  have e2 : (P * k' + p') / P = k' := by rw [Nat.mul_add_div hP, Nat.div_eq_of_lt hp', Nat.add_zero]
  have e : k = k' := by rw [← e1, ← e2, h]
  subst e
  exact ⟨rfl, by omega⟩
theorem ix_lt {P k p n : Nat} (hp : p < P) (hk : k < n) : P * k + p < n * P := by
  have h : P * (k + 1) ≤ P * n := Nat.mul_le_mul_left P hk
  rw [Nat.mul_succ] at h
  rw [Nat.mul_comm n P]
  omega
def xkey (S : sc_S) (m key : Nat) : Prop := S 5 m = 15 ∨ S 5 m = key
def xcell (S : sc_S) (m P pa : Nat) (av aw : Nat → Nat) (key pick : Nat) (v n : Int32) : Prop := ((xfit S m pick ∧ xkey S m key) → v = nI (64 * xpaid S m pick (S 4 m) + xsgn S m pick (S 4 m) + 64 * S 6 0 * xout S m key pick (S 4 m) + av (pa * key + pick * pa / P)) ∧ n = nI (aw (pa * key + pick * pa / P))) ∧ (¬ (xfit S m pick ∧ xkey S m key) → v = nI 268435456 ∧ n = nI 0)
section XW
variable {cI : ClassId} {tv : Nat} {K : q_K}
theorem x_weigh (ad : Nat → Nat) (F : Nat → Int32) (A : Nat → Nat → Int32) {S : sc_S} (hw : sc_wf S) (hR : xR S F A) {m pa : Nat} {av aw : Nat → Nat} (hm : m < S 7 1) (hpa : 1 ≤ pa ∧ pa ≤ 27) (h11 : F 11 = nI pa) (h15 : A 15 m = nI (xo S m)) (hav : ∀ x, x < 15 * pa → A 17 x = nI (av x) ∧ A 18 x = nI (aw x))
    (hK : ∀ A' : Nat → Nat → Int32, (∀ k, k ≠ 14 → k ≠ 16 → k ≠ 23 → A' k = A k) → (∀ key pick, key < 15 → pick < p3 (S 4 m) → xcell S m (p3 (S 4 m)) pa av aw key pick (A' 14 (xo S m + (p3 (S 4 m) * key + pick))) (A' 16 (p3 (S 4 m) * key + pick))) → (∀ t, t < xo S m ∨ xo S m + 15 * p3 (S 4 m) ≤ t → A' 14 t = A 14 t) → K none (wX cI ad F A')) : T_R_weigh cI tv [.ref (ad 3), .int (nI m)] (wX cI ad F A) K := by
  refine ⟨q_le0 _ _ rfl, fun G hG => ?_⟩
  have hM := wf_M hw
  have hin : vp_in (nI m) 18 := vp_in_nI (by omega) (by decide)
  have hP := p3_pos (S 4 m)
  have hxo := xo_lt hw hm
  refine sg_R_weigh_0 hG ad F A (nI m) ?_
  refine x_picksAt ad F A hw hR hm ?_
  generalize p3 (S 4 m) = P at *
  refine sg_R_weigh_5 hG ad F A (nI m) _ ?_
  have outer : ∀ (d q : Nat) (A' : Nat → Nat → Int32), q + d = P → (∀ k, k ≠ 14 → k ≠ 16 → k ≠ 23 → A' k = A k) → (∀ key pick, key < 15 → pick < q → xcell S m P pa av aw key pick (A' 14 (xo S m + (P * key + pick))) (A' 16 (P * key + pick))) → (∀ t, t < xo S m ∨ xo S m + 15 * P ≤ t → A' 14 t = A 14 t) → G 8 [(0, .ref (ad 3)), (1, .int (nI m)), (2, .int (nI P)), (3, .int (nI q))] [] (wX cI ad F A') 0 0 := by
    intro d
    induction d with
    | zero =>
      intro q A' hd h1 h2 h3
      have e : q = P := by omega
      subst e
      exact sg_R_weigh_8 hG ad F A' _ _ _ ⟨fun _ => hK A' h1 h2 h3, fun c => absurd (nI_le (Nat.le_refl _) (by omega)) c⟩
    | succ d ih =>
      intro q A' hd h1 h2 h3
      have hq : q < P := by omega
      refine sg_R_weigh_8 hG ad F A' _ _ _ ⟨fun c => absurd (nge (by omega) (by omega) c) (by omega), fun _ => ?_⟩
      have hR' : ∀ f, xR S F (q_ua A' 23 f) := fun f => xR_of hR (fun _ _ => rfl) (fun k hk hk2 => by rw [q_ua_ne (by omega)]; exact h1 k (by omega) (by omega) (by omega))
      have hpk : q * pa / P < pa := Nat.div_lt_of_lt_mul (by rw [Nat.mul_comm P pa, Nat.mul_comm q pa]; exact Nat.mul_lt_mul_of_pos_left hq (by omega))
      have hqpa : q * pa ≤ 27 * 27 := Nat.mul_le_mul (by omega) hpa.2
      have epk : nI q * F 11 / nI P = nI (q * pa / P) := by rw [h11, pk_mul, pk_div (by omega) (by omega) (by omega)]
      -- the keys of one pick
      have inner : ∀ (x4 x5 : Int32), ((x4 = 1 ∧ xfit S m q ∧ x5 = nI (64 * xpaid S m q (S 4 m) + xsgn S m q (S 4 m))) ∨ (x4 = 0 ∧ ¬ xfit S m q)) → ∀ (e b : Nat) (A' : Nat → Nat → Int32), b + e = 15 → (∀ k, k ≠ 14 → k ≠ 16 → k ≠ 23 → A' k = A k) → xTr S m q (A' 23) → (∀ key pick, key < 15 → pick < q → xcell S m P pa av aw key pick (A' 14 (xo S m + (P * key + pick))) (A' 16 (P * key + pick))) → (∀ key, key < b → xcell S m P pa av aw key q (A' 14 (xo S m + (P * key + q))) (A' 16 (P * key + q))) → (∀ t, t < xo S m ∨ xo S m + 15 * P ≤ t → A' 14 t = A 14 t) → G 51 [(0, .ref (ad 3)), (1, .int (nI m)), (2, .int (nI P)), (3, .int (nI q)), (4, .int x4), (5, .int x5), (6, .int (nI (q * pa / P))), (7, .int (nI b))] [] (wX cI ad F A') 0 0 := by
        intro x4 x5 hx e
        induction e with
        | zero =>
          intro b A' he h1 hT h2 h4 h3
          refine sg_R_weigh_51 hG ad F A' _ _ _ _ _ _ (nI b) ⟨fun _ => ?_, fun c => absurd (show nI 15 ≤ nI b from nI_le (by omega) (by omega)) c⟩
          rw [show nI q + 1 = nI (q + 1) from nI_1 q]
          refine ih (q + 1) A' (by omega) h1 (fun key pick g1 g2 => ?_) h3
          rcases Nat.lt_or_ge pick q with z | z
          · exact h2 key pick g1 z
          · rw [show pick = q by omega]; exact h4 key (by omega)
        | succ e ihe =>
          intro b A' he h1 hT h2 h4 h3
          have hb : b < 15 := by omega
          have hst := ix_lt hq hb
          have hR1 : xR S F A' := xR_of hR (fun _ _ => rfl) (fun k hk hk2 => h1 k (by omega) (by omega) (by omega))
          have eb : nI b * nI P + nI q = nI (P * b + q) := by rw [pk_mul, nI_add, Nat.mul_comm]
          have ef : nI b * F 11 + nI (q * pa / P) = nI (pa * b + q * pa / P) := by rw [h11, pk_mul, nI_add, Nat.mul_comm]
          have hfr : pa * b + q * pa / P < 15 * pa := ix_lt hpk hb
          have e15 : A' 15 m = nI (xo S m) := by rw [h1 15 (by decide) (by decide) (by decide)]; exact h15
          have hnx : ∀ v n : Int32, xcell S m P pa av aw b q v n → G 168 [(0, .ref (ad 3)), (1, .int (nI m)), (2, .int (nI P)), (3, .int (nI q)), (4, .int x4), (5, .int x5), (6, .int (nI (q * pa / P))), (7, .int (nI b))] [] (wX cI ad F (q_ua (q_ua A' 14 (upd (A' 14) (xo S m + (P * b + q)) v)) 16 (upd (A' 16) (P * b + q) n))) 0 0 := by
            intro v n hc
            refine sg_R_weigh_168 hG ad F _ _ _ _ _ _ _ (nI b) ?_
            rw [show nI b + 1 = nI (b + 1) from nI_1 b]
            refine ihe (b + 1) _ (by omega) (fun k g1 g2 g3 => by rw [q_ua_ne g2, q_ua_ne g1]; exact h1 k g1 g2 g3) hT (fun key pick g1 g2 => ?_) (fun key g => ?_) (fun t ht => ?_)
            · show xcell S m P pa av aw key pick (upd (A' 14) (xo S m + (P * b + q)) v (xo S m + (P * key + pick))) (upd (A' 16) (P * b + q) n (P * key + pick))
              have hne : P * key + pick ≠ P * b + q := fun z => by have := ix_inj (show pick < P by omega) hq z; omega
              rw [pk_un (by omega), pk_un hne]
              exact h2 key pick g1 g2
            · show xcell S m P pa av aw key q (upd (A' 14) (xo S m + (P * b + q)) v (xo S m + (P * key + q))) (upd (A' 16) (P * b + q) n (P * key + q))
              rcases Nat.lt_or_ge key b with z | z
              · have hne : P * key + q ≠ P * b + q := fun z => by have := ix_inj hq hq z; omega
                rw [pk_un (by omega), pk_un hne]
                exact h4 key z
              · rw [show key = b by omega, upd_s, upd_s]; exact hc
            · show upd (A' 14) (xo S m + (P * b + q)) v t = _
              rw [pk_un (by omega)]
              exact h3 t ht
          have hv1 : vp_in (nI (xo S m + (P * b + q))) 2430 := vp_in_nI (by omega) (by decide)
          have hv2 : vp_in (nI (P * b + q)) 405 := vp_in_nI (by omega) (by decide)
          have hv3 : vp_in (nI (pa * b + q * pa / P)) 405 := vp_in_nI (by omega) (by decide)
          have no : ¬ (xfit S m q ∧ xkey S m b) → G 80 [(0, .ref (ad 3)), (1, .int (nI m)), (2, .int (nI P)), (3, .int (nI q)), (4, .int x4), (5, .int x5), (6, .int (nI (q * pa / P))), (7, .int (nI b))] [] (wX cI ad F A') 0 0 := by
            intro hn
            refine sg_R_weigh_80 hG ad F A' (nI m) (nI P) (nI q) x4 x5 _ (nI b) ?_
            rw [eb, ef, nI_clamp (show m < 2 ^ 31 by omega), e15, nI_add, nI_clamp (show xo S m + (P * b + q) < 2 ^ 31 by omega)]
            refine ⟨hin, fun _ => ⟨hv1, ?_⟩, fun c => absurd rfl c⟩
            refine sg_R_weigh_145 hG ad F _ _ _ _ _ _ _ _ 0 _ _ ⟨fun _ => ⟨hv2, ?_⟩, fun c => absurd rfl c⟩
            rw [nI_clamp (show P * b + q < 2 ^ 31 by omega)]
            exact hnx 268435456 0 ⟨fun z => absurd z hn, fun _ => ⟨rfl, rfl⟩⟩
          refine sg_R_weigh_51 hG ad F A' _ _ _ _ _ _ (nI b) ⟨fun c => absurd (nge (by decide) (by omega) (show nI 15 ≤ nI b from c)) (by omega), fun _ => ⟨fun c => ?_, fun c => ?_⟩⟩
          · rcases hx with ⟨e1, -⟩ | ⟨-, e2⟩
            · rw [e1] at c; exact absurd c (by decide)
            · exact no (fun z => e2 z.1)
          · have hx1 : x4 = 1 ∧ xfit S m q ∧ x5 = nI (64 * xpaid S m q (S 4 m) + xsgn S m q (S 4 m)) := by
              rcases hx with z | ⟨z, -⟩
              · exact z
              · exact absurd z c
            refine x_allowsKey ad F A' hw hR1 hm hb (fun hy => ?_) (fun hy => ?_)
            · refine sg_R_weigh_73 hG ad F A' (nI m) (nI P) (nI q) x4 x5 _ (nI b) 1 ⟨fun z => absurd z (by decide), fun _ => ?_⟩
              rw [eb, ef, nI_clamp (show m < 2 ^ 31 by omega), e15, nI_add, nI_clamp (show xo S m + (P * b + q) < 2 ^ 31 by omega)]
              refine ⟨hin, fun z => absurd z (by decide), fun _ => ?_⟩
              refine x_valueOutside ad F A' hw hR1 hm hb hT ?_
              have a17 : A' 17 (pa * b + q * pa / P) = nI (av (pa * b + q * pa / P)) := by rw [h1 17 (by decide) (by decide) (by decide)]; exact (hav _ hfr).1
              have a18 : A' 18 (pa * b + q * pa / P) = nI (aw (pa * b + q * pa / P)) := by rw [h1 18 (by decide) (by decide) (by decide)]; exact (hav _ hfr).2
              refine sg_R_weigh_130 hG ad F A' _ _ _ _ _ _ _ 1 _ _ _ x5 _ ⟨hv3, hv1, ?_⟩
              rw [nI_clamp (show xo S m + (P * b + q) < 2 ^ 31 by omega), nI_clamp (show pa * b + q * pa / P < 2 ^ 31 by omega), a17]
              refine sg_R_weigh_145 hG ad F _ _ _ _ _ _ _ _ 1 _ _ ⟨fun z => absurd z (by decide), fun _ => ⟨hv3, hv2, ?_⟩⟩
              rw [nI_clamp (show P * b + q < 2 ^ 31 by omega), nI_clamp (show pa * b + q * pa / P < 2 ^ 31 by omega)]
              refine hnx _ _ ⟨fun _ => ⟨?_, a18⟩, fun z => absurd ⟨hx1.2.1, hy⟩ z⟩
              rw [hx1.2.2, nI_add, nI_add]
            · refine sg_R_weigh_73 hG ad F A' (nI m) (nI P) (nI q) x4 x5 _ (nI b) 0 ⟨fun _ => no (fun z => hy z.2), fun c => absurd rfl c⟩
      refine x_tryNames ad F A' hw (by have := hR' (A' 23); rw [q_ua_self] at this; exact this) hm (by omega) (fun hf f hT => ?_) (fun hf f hT => ?_)
      · refine sg_R_weigh_19 hG ad F _ _ _ _ 1 ⟨fun z => absurd z (by decide), fun _ => ?_⟩
        refine x_valueOfTried ad F _ hw (hR' f) hm hT ?_
        refine sg_R_weigh_31 hG ad F _ _ _ _ 1 _ ?_
        rw [epk]
        refine ⟨nI_ne0 (by omega) (by omega), ?_⟩
        exact inner 1 _ (Or.inl ⟨rfl, hf, rfl⟩) 15 0 _ rfl (fun k g1 g2 g3 => by rw [q_ua_ne g3]; exact h1 k g1 g2 g3) hT h2 (fun key g => absurd g (Nat.not_lt_zero _)) h3
      · refine sg_R_weigh_19 hG ad F _ _ _ _ 0 ⟨fun _ => ?_, fun z => absurd rfl z⟩
        rw [epk]
        refine ⟨nI_ne0 (by omega) (by omega), ?_⟩
        exact inner 0 _ (Or.inr ⟨rfl, hf⟩) 15 0 _ rfl (fun k g1 g2 g3 => by rw [q_ua_ne g3]; exact h1 k g1 g2 g3) hT h2 (fun key g => absurd g (Nat.not_lt_zero _)) h3
  exact outer P 0 A (by omega) (fun k _ _ _ => rfl) (fun key pick _ g => absurd g (Nat.not_lt_zero _)) (fun t _ => rfl)
end XW
