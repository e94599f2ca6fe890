/-! the model: steps between rows, the cost of KEYS, the first layer -/
theorem sm_sized2 : ∀ a, a < 128 → ∀ b, b < 128 → jf_M_size (nI a - nI b) = nI (sc_dist a b) := by decide +kernel
theorem nsub_1 {a b : Nat} (ha : a < 2 ^ 30) (hb : b < 2 ^ 30) : (nI a - nI b = 1) ↔ a = b + 1 := by
  rw [← Int32.toInt_inj, pk_sub_toInt ha hb, show (1 : Int32).toInt = 1 from rfl]
  omega
theorem nsub_m1 {a b : Nat} (ha : a < 2 ^ 30) (hb : b < 2 ^ 30) : (nI a - nI b = (-1)) ↔ b = a + 1 := by
  rw [← Int32.toInt_inj, pk_sub_toInt ha hb, show (-1 : Int32).toInt = -1 from rfl]
  omega
theorem sc_plc_lt {n p : Nat} (hp : p < 128) : sc_plc n p < 200 := by
  unfold sc_plc sc_oct sc_let
  have : (4 * n + 3) % 7 < 7 := Nat.mod_lt _ (by decide)
  omega
theorem sm_step {n p n' p' : Nat} (hn : n < 35) (hp : p < 128) (hn' : n' < 35) (hp' : p' < 128) : jf_M_isStep (nI n) (nI p) (nI n') (nI p') = nI (sc_bad n p n' p') := by
  unfold jf_M_isStep sc_bad
  have l1 := sc_plc_lt (n := n) hp
  have l2 := sc_plc_lt (n := n') hp'
  rw [sm_sized2 p' hp' p hp, sm_place n hn p hp, sm_place n' hn' p' hp', sc_dist_comm p' p]
  have ld : sc_dist p p' < 128 := by unfold sc_dist; split <;> omega
  by_cases h : p = p'
  · rw [if_pos (by rw [h]), if_pos h]
    by_cases g : n = n'
    · rw [if_pos (by rw [g]), if_pos g]; rfl
    · rw [if_neg (fun q => g (neq (by omega) (by omega) q)), if_neg g]; rfl
  · rw [if_neg (fun q => h (neq (by omega) (by omega) q)), if_neg h]
    by_cases g : 2 < sc_dist p p'
    · rw [if_pos (show (2 : Int32) < nI (sc_dist p p') from nI_lt (a := 2) g (by omega)), if_pos g]; rfl
    · rw [if_neg (show ¬ (2 : Int32) < nI (sc_dist p p') from fun q => g (nlt' (a := 2) (by decide) (by omega) q)), if_neg g]
      by_cases k : p < p'
      · rw [if_neg (show ¬ nI p' ≤ nI p from fun q => absurd (nge (by omega) (by omega) q) (by omega)), if_pos k]
        by_cases e : sc_plc n' p' = sc_plc n p + 1
        · rw [if_pos ((nsub_1 (by omega) (by omega)).mpr e), if_pos e]; rfl
        · rw [if_neg (fun q => e ((nsub_1 (by omega) (by omega)).mp q)), if_neg e]; rfl
      · rw [if_pos (show nI p' ≤ nI p from nI_le (by omega) (by omega)), if_neg k]
        by_cases e : sc_plc n p = sc_plc n' p' + 1
        · rw [if_pos ((nsub_m1 (by omega) (by omega)).mpr e), if_pos e]; rfl
        · rw [if_neg (fun q => e ((nsub_m1 (by omega) (by omega)).mp q)), if_neg e]; rfl
def rok (S : sc_S) (m row : Nat) : Prop := ∀ p, p < 3 → mpl S m row p
def stp (S : sc_S) (m ra rb k : Nat) : Nat := sc_sum k (fun j => S 6 3 * sc_bad (mname S m ra j) (S 0 (S 3 m + j)) (mname S (m + 1) rb j) (S 0 (S 3 (m + 1) + j)))
def stpA (S : sc_S) (m ra rb : Nat) : Nat := stp S m ra rb (min (S 4 m) (S 4 (m + 1)))
section ML
variable {cI : ClassId} {tv : Nat} {K : q_K} {G : q_G}
theorem m_steps_row (hG : q_Cl (F_M_findSteps cI tv K) G) (ad : Nat → Nat) (F : Nat → Int32) (A : Nat → Nat → Int32) {S : sc_S} (hw : sc_wf S) (hR : mR S F A) {m a b : Nat} (hm : m + 1 < S 7 1) (ha : a < 27) (hb : b < 27) (hN : ∀ p, p < 3 → A 7 (3 * b + p) = mnm S (m + 1) b p) (hB : ∀ p, p < 3 → A 8 (3 * a + p) = mnm S m a p)
    (hE : ∀ x : Int32, (rok S m a → rok S (m + 1) b → x = nI (stpA S m a b)) → G 141 [(0, .ref (ad 0)), (1, .int (nI (m + 1))), (2, .int (nI a)), (3, .int (nI b)), (4, .int x)] [] (wM cI ad F A) 0 0) :
    ∀ (d p : Nat) (x : Int32), p + d = 3 → p ≤ min (S 4 m) (S 4 (m + 1)) → (rok S m a → rok S (m + 1) b → x = nI (stp S m a b p)) → G 22 [(0, .ref (ad 0)), (1, .int (nI (m + 1))), (2, .int (nI a)), (3, .int (nI b)), (4, .int x), (5, .int (nI p))] [] (wM cI ad F A) 0 0 := by
  have hM := wf_M hw
  have w := hw.2.2.1 m (by omega)
  have w1 := hw.2.2.1 (m + 1) hm
  have r := hR.2.2.2.2 m (by omega)
  have r1 := hR.2.2.2.2 (m + 1) hm
  have n18 := hw.1
  have em1 : nI (m + 1) - 1 = nI m := nI_pred m
  have hin1 : vp_in (nI (m + 1)) 18 := vp_in_nI (by omega) (by decide)
  have hin : vp_in (nI m) 18 := vp_in_nI (by omega) (by decide)
  intro d
  induction d with
  | zero =>
    intro p x hp hle hx
    have hmn : min (S 4 m) (S 4 (m + 1)) = p := by omega
    have e : rok S m a → rok S (m + 1) b → x = nI (stpA S m a b) := fun q1 q2 => by rw [hx q1 q2]; unfold stpA; rw [hmn]
    refine sg_M_findSteps_22 hG ad F A (nI (m + 1)) (nI a) (nI b) x (nI p) ⟨hin1, fun _ => hE x e, fun c => ?_⟩
    rw [nI_clamp (by omega), r1.2.1] at c
    exact absurd (nI_le (by omega) (by omega)) c
  | succ d ih =>
    intro p x hp hle hx
    refine sg_M_findSteps_22 hG ad F A (nI (m + 1)) (nI a) (nI b) x (nI p) ?_
    rw [em1, nI_clamp (show m + 1 < 2 ^ 31 by omega), nI_clamp (show m < 2 ^ 31 by omega), r.2.1, r1.2.1]
    have stop : p = min (S 4 m) (S 4 (m + 1)) → G 141 [(0, .ref (ad 0)), (1, .int (nI (m + 1))), (2, .int (nI a)), (3, .int (nI b)), (4, .int x)] [] (wM cI ad F A) 0 0 := fun e => hE x (fun q1 q2 => by rw [hx q1 q2]; unfold stpA; rw [← e])
    refine ⟨hin1, fun c => stop (by have := nge (by omega) (by omega) c; omega), fun c => ⟨hin, fun c2 => stop (by have := nge (by omega) (by omega) c2; omega), fun c2 => ?_⟩⟩
    have g1 : p < S 4 (m + 1) := nng (by omega) (by omega) c
    have g2 : p < S 4 m := nng (by omega) (by omega) c2
    have ea : 3 * nI a + nI p = nI (3 * a + p) := by rw [show (3 : Int32) = nI 3 from rfl, pk_mul, nI_add]
    have eb : 3 * nI b + nI p = nI (3 * b + p) := by rw [show (3 : Int32) = nI 3 from rfl, pk_mul, nI_add]
    rw [ea, eb, nI_clamp (show 3 * a + p < 2 ^ 31 by omega), nI_clamp (show 3 * b + p < 2 ^ 31 by omega), hB p (by omega), hN p (by omega)]
    refine ⟨vp_in_nI (by omega) (by decide), vp_in_nI (by omega) (by decide), ?_⟩
    have nxt : ∀ y : Int32, (rok S m a → rok S (m + 1) b → y = nI (stp S m a b (p + 1))) → G 135 [(0, .ref (ad 0)), (1, .int (nI (m + 1))), (2, .int (nI a)), (3, .int (nI b)), (4, .int y), (5, .int (nI p))] [] (wM cI ad F A) 0 0 := by
      intro y hy
      refine sg_M_findSteps_135 hG ad F A (nI (m + 1)) (nI a) (nI b) y (nI p) ?_
      rw [show nI p + 1 = nI (p + 1) from nI_1 p]
      exact ih (p + 1) y (by omega) (by omega) hy
    refine sg_M_findSteps_72 hG ad F A (nI (m + 1)) (nI a) (nI b) x (nI p) _ _ ?_
    rcases mnm_cases hw (show m < S 7 1 by omega) ha (show p < 3 by omega) with ⟨-, ⟨-, hx6, hn6⟩ | ⟨z, -⟩⟩ | ⟨hpl, hx6⟩
    · rw [hx6]
      refine ⟨fun c3 => absurd c3 (nI_pos (by omega)), fun _ => ?_⟩
      rcases mnm_cases hw hm hb (show p < 3 by omega) with ⟨-, ⟨-, hx7, hn7⟩ | ⟨z, -⟩⟩ | ⟨hpl, hx7⟩
      · rw [hx7]
        refine ⟨fun c3 => absurd c3 (nI_pos (by omega)), fun _ => ?_⟩
        rw [em1, nI_clamp (show m + 1 < 2 ^ 31 by omega), nI_clamp (show m < 2 ^ 31 by omega), r.1, r1.1, nI_add, nI_add]
        have hi : S 3 m + p < S 7 0 := by omega
        have hi1 : S 3 (m + 1) + p < S 7 0 := by omega
        rw [nI_clamp (show S 3 m + p < 2 ^ 31 by omega), nI_clamp (show S 3 (m + 1) + p < 2 ^ 31 by omega), (hR.2.2.2.1 _ hi).1, (hR.2.2.2.1 _ hi1).1, sm_step hn6 (hw.2.2.2.2.1 _ hi).1 hn7 (hw.2.2.2.2.1 _ hi1).1]
        have e6 : F 6 = nI (S 6 3) := hR.2.2.1 3 (by decide)
        have hb01 : sc_bad (mname S m a p) (S 0 (S 3 m + p)) (mname S (m + 1) b p) (S 0 (S 3 (m + 1) + p)) = 0 ∨ sc_bad (mname S m a p) (S 0 (S 3 m + p)) (mname S (m + 1) b p) (S 0 (S 3 (m + 1) + p)) = 1 := by
          unfold sc_bad
          split
          · split <;> simp
          · split
            · simp
            · split <;> split <;> simp
        refine ⟨hin, vp_in_nI (by omega) (by decide), hin1, vp_in_nI (by omega) (by decide), fun c3 => ?_, fun c3 => ?_⟩
        · refine nxt _ (fun q1 q2 => ?_)
          rw [hx q1 q2, show (0 : Int32) = nI 0 from rfl, nI_add]
          have := neq (by rcases hb01 with h | h <;> omega) (by decide) (show nI _ = nI 0 from c3)
          show nI (stp S m a b p + 0) = nI (stp S m a b p + S 6 3 * sc_bad _ _ _ _)
          rw [this, Nat.mul_zero]
        · refine nxt _ (fun q1 q2 => ?_)
          rw [hx q1 q2, e6, nI_add]
          have : sc_bad (mname S m a p) (S 0 (S 3 m + p)) (mname S (m + 1) b p) (S 0 (S 3 (m + 1) + p)) = 1 := by
            rcases hb01 with h | h
            · exact absurd (by rw [h]; rfl) c3
            · exact h
          show nI (stp S m a b p + S 6 3) = nI (stp S m a b p + S 6 3 * sc_bad _ _ _ _)
          rw [this, Nat.mul_one]
      · exact absurd g1 z
      · rw [hx7]
        exact ⟨fun _ => nxt x (fun _ q2 => absurd (q2 p (by omega)) hpl), fun c3 => absurd (by decide) c3⟩
    · exact absurd g2 z
    · rw [hx6]
      exact ⟨fun _ => nxt x (fun q1 _ => absurd (q1 p (by omega)) hpl), fun c3 => absurd (by decide) c3⟩
theorem m_findSteps (ad : Nat → Nat) (F : Nat → Int32) (A : Nat → Nat → Int32) {S : sc_S} (hw : sc_wf S) (hR : mR S F A) {m : Nat} (hm : m + 1 < S 7 1) (hN : ∀ b p, b < 27 → p < 3 → A 7 (3 * b + p) = mnm S (m + 1) b p) (hB : ∀ a p, a < 27 → p < 3 → A 8 (3 * a + p) = mnm S m a p)
    (hK : ∀ f : Nat → Int32, (∀ a b, a < 27 → b < 27 → rok S m a → rok S (m + 1) b → f (27 * a + b) = nI (stpA S m a b)) → K none (wM cI ad F (q_ua A 9 f))) :
    T_M_findSteps cI tv [.ref (ad 0), .int (nI (m + 1))] (wM cI ad F A) K := by
  refine ⟨q_le0 _ _ rfl, fun G hG => ?_⟩
  have outer : ∀ (d a : Nat) (f : Nat → Int32), a + d = 27 → (∀ a' b, a' < a → b < 27 → rok S m a' → rok S (m + 1) b → f (27 * a' + b) = nI (stpA S m a' b)) → G 2 [(0, .ref (ad 0)), (1, .int (nI (m + 1))), (2, .int (nI a))] [] (wM cI ad F (q_ua A 9 f)) 0 0 := by
    intro d
    induction d with
    | zero =>
      intro a f hd hf
      exact sg_M_findSteps_2 hG ad F _ (nI (m + 1)) (nI a) ⟨fun _ => hK f (fun a' b h1 h2 => hf a' b (by omega) h2), fun c => absurd (show nI 27 ≤ nI a from nI_le (by omega) (by omega)) c⟩
    | succ d ih =>
      intro a f hd hf
      have inner : ∀ (e b : Nat) (f : Nat → Int32), b + e = 27 → (∀ a' b, a' < a → b < 27 → rok S m a' → rok S (m + 1) b → f (27 * a' + b) = nI (stpA S m a' b)) → (∀ b', b' < b → rok S m a → rok S (m + 1) b' → f (27 * a + b') = nI (stpA S m a b')) → G 10 [(0, .ref (ad 0)), (1, .int (nI (m + 1))), (2, .int (nI a)), (3, .int (nI b))] [] (wM cI ad F (q_ua A 9 f)) 0 0 := by
        intro e
        induction e with
        | zero =>
          intro b f he h1 h2
          refine sg_M_findSteps_10 hG ad F _ (nI (m + 1)) (nI a) (nI b) ⟨fun _ => ?_, fun c => absurd (show nI 27 ≤ nI b from nI_le (by omega) (by omega)) c⟩
          rw [show nI a + 1 = nI (a + 1) from nI_1 a]
          refine ih (a + 1) f (by omega) (fun a' b' g1 g2 => ?_)
          rcases Nat.lt_or_ge a' a with z | z
          · exact h1 a' b' z g2
          · rw [show a' = a by omega]
            exact h2 b' (by omega)
        | succ e ihe =>
          intro b f he h1 h2
          refine sg_M_findSteps_10 hG ad F _ (nI (m + 1)) (nI a) (nI b) ⟨fun c => absurd (nge (by decide) (by omega) (show nI 27 ≤ nI b from c)) (by omega), fun _ => ?_⟩
          have h := m_steps_row (K := K) hG ad F (q_ua A 9 f) hw (show mR S F (q_ua A 9 f) from hR) hm (show a < 27 by omega) (show b < 27 by omega) (fun p hp => hN b p (by omega) hp) (fun p hp => hB a p (by omega) hp) (fun x hx => ?_) 3 0 0 rfl (Nat.zero_le _) (fun _ _ => rfl)
          · exact h
          · have e27 : 27 * nI a + nI b = nI (27 * a + b) := by rw [show (27 : Int32) = nI 27 from rfl, pk_mul, nI_add]
            refine sg_M_findSteps_141 hG ad F _ (nI (m + 1)) (nI a) (nI b) x ?_
            rw [e27, nI_clamp (by omega), show nI b + 1 = nI (b + 1) from nI_1 b, q_ua_ua]
            refine ⟨vp_in_nI (by omega) (by decide), ihe (b + 1) _ (by omega) (fun a' b' g1 g2 q1 q2 => ?_) (fun b' g q1 q2 => ?_)⟩
            · show upd f (27 * a + b) x (27 * a' + b') = _
              rw [pk_un (by omega)]
              exact h1 a' b' g1 g2 q1 q2
            · show upd f (27 * a + b) x (27 * a + b') = _
              rcases Nat.lt_or_ge b' b with z | z
              · rw [pk_un (by omega)]
                exact h2 b' z q1 q2
              · have : b' = b := by omega
                subst this
                rw [upd_s]
                exact hx q1 q2
      refine sg_M_findSteps_2 hG ad F _ (nI (m + 1)) (nI a) ⟨fun c => absurd (nge (by decide) (by omega) (show nI 27 ≤ nI a from c)) (by omega), fun _ => ?_⟩
      exact inner 27 0 f rfl hf (fun q hq => absurd hq (Nat.not_lt_zero q))
  refine sg_M_findSteps_0 hG ad F A (nI (m + 1)) ?_
  have h := outer 27 0 (A 9) rfl (fun r p hr => absurd hr (Nat.not_lt_zero r))
  rw [q_ua_self] at h
  exact h
theorem m_keysCost (ad : Nat → Nat) (F : Nat → Int32) (A : Nat → Nat → Int32) {S : sc_S} (hR : mR S F A) {a b : Nat} (ha : a < 15) (hb : b < 15) (hK : K (some (.int (nI (S 6 4 * sc_kd a b)))) (wM cI ad F A)) : T_M_keysCost cI tv [.ref (ad 0), .int (nI a), .int (nI b)] (wM cI ad F A) K := by
  refine ⟨q_le0 _ _ rfl, fun G hG => ?_⟩
  have e7 : F 7 = nI (S 6 4) := hR.2.2.1 4 (by decide)
  have ld : sc_dist a b < 15 := by unfold sc_dist; split <;> omega
  refine sg_M_keysCost_0 hG ad F A (nI a) (nI b) ?_
  rw [sm_sized a (by omega) b (by omega), e7]
  unfold sc_kd at hK
  refine ⟨fun c => ?_, fun c => ?_⟩
  · rw [if_neg (nne (by omega) (by decide) (show ¬ nI (sc_dist a b) = nI 12 from c))] at hK
    rw [pk_mul]
    exact hK
  · rw [if_pos (neq (by omega) (by decide) (show nI (sc_dist a b) = nI 12 from c)), Nat.mul_one] at hK
    exact hK
end ML
