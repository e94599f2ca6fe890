/-! the model: the best way to a state of the next layer -/
theorem m_most {a : Nat} (h : a < 2 ^ 31) : jf_M_most (nI a) = nI (min 1000000 a) := by
  unfold jf_M_most
  by_cases c : a ≤ 1000000
  · rw [if_pos (show nI a ≤ (1000000 : Int32) from nI_le (b := 1000000) c (by decide)), Nat.min_eq_right c]
  · rw [if_neg (show ¬ nI a ≤ (1000000 : Int32) from fun q => c (nge (b := 1000000) h (by decide) q)), Nat.min_eq_left (by omega)]; rfl
/-- one term more -/
theorem c_tr_some {X Y : c_T} {x wx y wy : Nat} (hX : c_tr 1000000 X = some (x, wx)) (hY : c_tr 1000000 Y = some (y, wy)) : c_tr 1000000 (c_add X Y) = if x < y then some (x, wx) else if y < x then some (y, wy) else some (x, min 1000000 (wx + wy)) := by
  rw [← c_tr_add, hX, hY]
  have hwx : min 1000000 wx = wx := by
    cases X with
    | none => cases hX
    | some z =>
      have := Option.some.inj hX
      have h2 : min 1000000 z.2 = wx := congrArg Prod.snd this
      omega
  have hwy : min 1000000 wy = wy := by
    cases Y with
    | none => cases hY
    | some z =>
      have := Option.some.inj hY
      have h2 : min 1000000 z.2 = wy := congrArg Prod.snd this
      omega
  by_cases h1 : x < y
  · simp only [c_add, c_tr, h1, if_true, Option.map, hwx]
  · by_cases h2 : y < x
    · simp only [c_add, c_tr, h1, h2, if_true, if_false, Option.map, hwy]
    · simp only [c_add, c_tr, h1, h2, if_false, Option.map]
theorem c_tr_none {X Y : c_T} (hX : X = none) : c_tr 1000000 (c_add X Y) = c_tr 1000000 Y := by rw [hX, c_none_add]
theorem c_tr_le {X : c_T} {x w : Nat} (h : c_tr 1000000 X = some (x, w)) : w ≤ 1000000 := by
  cases X with
  | none => cases h
  | some z =>
    have h2 : min 1000000 z.2 = w := congrArg Prod.snd (Option.some.inj h)
    omega
theorem c_tr_shift {X : c_T} {x w l : Nat} (h : c_tr 1000000 X = some (x, w)) : c_tr 1000000 (c_mul (some (l, 1)) X) = some (x + l, w) := by
  cases X with
  | none => cases h
  | some z =>
    have h1 : z.1 = x := congrArg Prod.fst (Option.some.inj h)
    have h2 : min 1000000 z.2 = w := congrArg Prod.snd (Option.some.inj h)
    show some (l + z.1, min 1000000 (1 * z.2)) = _
    rw [Nat.one_mul, h1, h2, Nat.add_comm]
/-- the best of the first b states before s -/
def mBst (S : sc_S) (m s : Nat) (c g r : Nat → Nat) (b q : Nat) : Prop := q < b ∧ mS S m q ∧ ∀ b', b' < b → mS S m b' → c q + mlk S m q s < c b' + mlk S m b' s ∨ (c q + mlk S m q s = c b' + mlk S m b' s ∧ (g q < g b' ∨ (g q = g b' ∧ r q ≤ r b')))
def mWs (S : sc_S) (m s : Nat) (cf : Nat → c_T) : Nat → c_T := fun b => c_mul (some (mlk S m b s, 1)) (cf b)
section MRc
variable {cI : ClassId} {tv : Nat} {K : q_K} {G : q_G}
theorem sc_sum_le {k B : Nat} {f : Nat → Nat} (h : ∀ j, j < k → f j ≤ B) : sc_sum k f ≤ k * B := by
  induction k with
  | zero => exact Nat.zero_le _
  | succ k ih =>
    show sc_sum k f + f k ≤ (k + 1) * B
    have a := ih (fun j hj => h j (by omega))
    have b := h k (by omega)
    rw [Nat.succ_mul]
    omega
theorem sc_bad_le (n p n' p' : Nat) : sc_bad n p n' p' ≤ 1 := by
  unfold sc_bad
  split
  · split <;> omega
  · split
    · omega
    · split <;> split <;> omega
theorem mlk_le {S : sc_S} (hw : sc_wf S) {m a b : Nat} (hm : m < S 7 1) (ha : a < 405) (hb : b < 405) : mlk S m a b ≤ 340 := by
  unfold mlk stpA stp
  have w := hw.2.2.1 m hm
  have w4 := hw.2.2.2.2.2 4 (by decide)
  have w3 := hw.2.2.2.2.2 3 (by decide)
  have hk : sc_kd (a / 27) (b / 27) ≤ 14 := by
    have hd : sc_dist (a / 27) (b / 27) ≤ 14 := by unfold sc_dist; split <;> omega
    unfold sc_kd
    split <;> omega
  have h1 : S 6 4 * sc_kd (a / 27) (b / 27) ≤ 20 * 14 := Nat.mul_le_mul w4 hk
  have h2 := sc_sum_le (k := min (S 4 m) (S 4 (m + 1))) (B := 20) (f := fun j => S 6 3 * sc_bad (mname S m (a % 27) j) (S 0 (S 3 m + j)) (mname S (m + 1) (b % 27) j) (S 0 (S 3 (m + 1) + j))) (fun j _ => by
    have := Nat.mul_le_mul w3 (sc_bad_le (mname S m (a % 27) j) (S 0 (S 3 m + j)) (mname S (m + 1) (b % 27) j) (S 0 (S 3 (m + 1) + j)))
    omega)
  have h3 : min (S 4 m) (S 4 (m + 1)) * 20 ≤ 3 * 20 := Nat.mul_le_mul_right 20 (by omega)
  omega
theorem m_reach_loop (hG : q_Cl (F_M_reach cI tv K) G) (ad : Nat → Nat) (F : Nat → Int32) (A : Nat → Nat → Int32) {S : sc_S} (hw : sc_wf S) (hR : mR S F A) {m s : Nat} (hm : m + 1 < S 7 1) (hs : s < 405) (hok : mS S (m + 1) s)
    {c g r n : Nat → Nat} {cf : Nat → c_T} (hE : ∀ b, b < 405 → mEnt S m c g r n A b) (hb : ∀ b, b < 405 → mS S m b → c b < 100000 ∧ g b < 64 ∧ r b < 405 ∧ c_tr 1000000 (cf b) = some (c b, n b)) (hn : ∀ b, b < 405 → ¬ mS S m b → cf b = none)
    (hst : ∀ a b, a < 27 → b < 27 → rok S m a → rok S (m + 1) b → A 9 (27 * a + b) = nI (stpA S m a b)) (hex : ∃ b, b < 405 ∧ mS S m b)
    (hEnd : ∀ (q w : Nat), mBst S m s c g r 405 q → c_tr 1000000 (c_sum 405 (mWs S m s cf)) = some (c q + mlk S m q s, w) → G 35 [(0, .ref (ad 0)), (1, .int (nI (m + 1))), (2, .int (nI s)), (3, .int (nI q)), (4, .int (nI (c q + mlk S m q s))), (5, .int (nI w)), (6, .int (nI 405))] [] (wM cI ad F A) 0 0) :
    ∀ (d b : Nat) (x3 x4 x5 : Int32), b + d = 405 → (((∀ b', b' < b → ¬ mS S m b') ∧ x3 = -1 ∧ x4 = 0 ∧ x5 = 0) ∨ (∃ q w : Nat, mBst S m s c g r b q ∧ x3 = nI q ∧ x4 = nI (c q + mlk S m q s) ∧ x5 = nI w ∧ c_tr 1000000 (c_sum b (mWs S m s cf)) = some (c q + mlk S m q s, w))) → G 35 [(0, .ref (ad 0)), (1, .int (nI (m + 1))), (2, .int (nI s)), (3, .int x3), (4, .int x4), (5, .int x5), (6, .int (nI b))] [] (wM cI ad F A) 0 0 := by
  have hM := wf_M hw
  intro d
  induction d with
  | zero =>
    intro b x3 x4 x5 hd hI
    have : b = 405 := by omega
    subst this
    rcases hI with ⟨h, -⟩ | ⟨q, w, h1, h2, h3, h4, h5⟩
    · obtain ⟨b, b1, b2⟩ := hex
      exact absurd b2 (h b b1)
    · rw [h2, h3, h4]
      exact hEnd q w h1 h5
  | succ d ih =>
    intro b x3 x4 x5 hd hI
    have hbl : b < 405 := by omega
    have hin : vp_in (nI b) 405 := vp_in_nI hbl (by decide)
    have hcl : (nI b).toNatClampNeg = b := nI_clamp (by omega)
    have e := hE b hbl
    have nxt : ∀ y3 y4 y5 : Int32, (((∀ b', b' < b + 1 → ¬ mS S m b') ∧ y3 = -1 ∧ y4 = 0 ∧ y5 = 0) ∨ (∃ q w : Nat, mBst S m s c g r (b + 1) q ∧ y3 = nI q ∧ y4 = nI (c q + mlk S m q s) ∧ y5 = nI w ∧ c_tr 1000000 (c_sum (b + 1) (mWs S m s cf)) = some (c q + mlk S m q s, w))) → G 212 [(0, .ref (ad 0)), (1, .int (nI (m + 1))), (2, .int (nI s)), (3, .int y3), (4, .int y4), (5, .int y5), (6, .int (nI b))] [] (wM cI ad F A) 0 0 := by
      intro y3 y4 y5 h
      refine sg_M_reach_212 hG ad F A (nI (m + 1)) (nI s) y3 y4 y5 (nI b) ?_
      rw [show nI b + 1 = nI (b + 1) from nI_1 b]
      exact ih (b + 1) y3 y4 y5 (by omega) h
    refine sg_M_reach_35 hG ad F A (nI (m + 1)) (nI s) x3 x4 x5 (nI b) ⟨fun cc => absurd (nge (by decide) (by omega) (show nI 405 ≤ nI b from cc)) (by omega), fun _ => ⟨hin, ?_⟩⟩
    rw [hcl]
    by_cases hSb : mS S m b
    · obtain ⟨a10, a11, a12, a13⟩ := e.1 hSb
      obtain ⟨k1, k2, k3, k4⟩ := hb b hbl hSb
      have hl := mlk_le hw (show m < S 7 1 by omega) hbl hs
      have hnb : n b ≤ 1000000 := c_tr_le k4
      have kS : c_tr 1000000 (mWs S m s cf b) = some (c b + mlk S m b s, n b) := c_tr_shift k4
      have eqsum : c_sum (b + 1) (mWs S m s cf) = c_add (c_sum b (mWs S m s cf)) (mWs S m s cf b) := rfl
      rw [a10]
      refine ⟨fun _ => ⟨hin, ?_⟩, fun cc => absurd (nI_pos' (by omega)) cc⟩
      have d27 : nI b / 27 = nI (b / 27) := pk_div (d := 27) (by omega) (by decide) (by decide)
      have ds27 : nI s / 27 = nI (s / 27) := pk_div (d := 27) (by omega) (by decide) (by decide)
      have r27 : nI b - nI b / 27 * 27 = nI (b % 27) := pk_rem (d := 27) (by omega) (by decide) (by decide)
      have rs27 : nI s - nI s / 27 * 27 = nI (s % 27) := pk_rem (d := 27) (by omega) (by decide) (by decide)
      have ei : 27 * (nI b - nI b / 27 * 27) + (nI s - nI s / 27 * 27) = nI (27 * (b % 27) + s % 27) := by
        rw [r27, rs27, show (27 : Int32) = nI 27 from rfl, pk_mul, nI_add]
      have hcc : nI (c b) + nI (S 6 4 * sc_kd (b / 27) (s / 27)) + A 9 (27 * (b % 27) + s % 27) = nI (c b + mlk S m b s) := by
        rw [hst _ _ (by omega) (by omega) hSb.2 hok.2, nI_add, nI_add, Nat.add_assoc]
        rfl
      rw [d27, ds27]
      refine m_keysCost ad F A hR (by omega) (by omega) ?_
      refine sg_M_reach_76 hG ad F A (nI (m + 1)) (nI s) x3 x4 x5 (nI b) _ _ ?_
      rw [ei, nI_clamp (show 27 * (b % 27) + s % 27 < 2 ^ 31 by omega), hcc]
      refine ⟨vp_in_nI (by omega) (by decide), ?_⟩
      -- the state b is the new best
      have upd1 : ∀ w : Nat, w ≤ 1000000 → (∀ b', b' < b → mS S m b' → c b + mlk S m b s < c b' + mlk S m b' s ∨ (c b + mlk S m b s = c b' + mlk S m b' s ∧ (g b < g b' ∨ (g b = g b' ∧ r b ≤ r b')))) → c_tr 1000000 (c_sum (b + 1) (mWs S m s cf)) = some (c b + mlk S m b s, min 1000000 (w + n b)) → G 178 [(0, .ref (ad 0)), (1, .int (nI (m + 1))), (2, .int (nI s)), (5, .int (nI w)), (6, .int (nI b)), (7, .int (nI (c b + mlk S m b s)))] [] (wM cI ad F A) 0 0 := by
        intro w hwl hbest hsum
        refine sg_M_reach_178 hG ad F A (nI (m + 1)) (nI s) (nI w) (nI b) _ ?_
        refine sg_M_reach_185 hG ad F A (nI (m + 1)) (nI s) (nI b) _ (nI w) (nI b) _ ⟨fun cc => absurd rfl cc, fun _ => ⟨hin, ?_⟩⟩
        rw [hcl, a13, nI_add, m_most (by omega)]
        refine nxt _ _ _ (Or.inr ⟨b, _, ⟨by omega, hSb, fun b' h1 h2 => ?_⟩, rfl, rfl, rfl, hsum⟩)
        rcases Nat.lt_or_ge b' b with z | z
        · exact hbest b' z h2
        · rw [show b' = b by omega]
          exact Or.inr ⟨rfl, Or.inr ⟨rfl, Nat.le_refl _⟩⟩
      rcases hI with ⟨hno, e3, e4, e5⟩ | ⟨q, w, hbst, e3, e4, e5, hsum⟩
      · subst e3
        refine ⟨fun _ => ?_, fun cc => absurd (by decide) cc⟩
        refine sg_M_reach_109 hG ad F A (nI (m + 1)) (nI s) (-1) x4 (nI b) _ ?_
        refine sg_M_reach_112 hG ad F A (nI (m + 1)) (nI s) (-1) x4 0 (nI b) _ ⟨fun _ => ?_, fun cc => absurd (by decide) cc⟩
        refine upd1 0 (by decide) (fun b' h1 h2 => absurd h2 (hno b' h1)) ?_
        rw [eqsum, c_tr_none (c_sum_none (fun i hi => by show c_mul _ (cf i) = none; rw [hn i (by omega) (hno i hi), c_mul_none])), kS, Nat.zero_add, Nat.min_eq_right hnb]
      · obtain ⟨q1, q2, q3⟩ := hbst
        obtain ⟨p1, p2, p3, p4⟩ := hb q (by omega) q2
        obtain ⟨t10, t11, t12, t13⟩ := (hE q (by omega)).1 q2
        have hql := mlk_le hw (show m < S 7 1 by omega) (show q < 405 by omega) hs
        have hwl : w ≤ 1000000 := c_tr_le hsum
        have hinq : vp_in (nI q) 405 := vp_in_nI (by omega) (by decide)
        have hclq : (nI q).toNatClampNeg = q := nI_clamp (by omega)
        have hadd : c_tr 1000000 (c_sum (b + 1) (mWs S m s cf)) = if c q + mlk S m q s < c b + mlk S m b s then some (c q + mlk S m q s, w) else if c b + mlk S m b s < c q + mlk S m q s then some (c b + mlk S m b s, n b) else some (c q + mlk S m q s, min 1000000 (w + n b)) := by rw [eqsum]; exact c_tr_some hsum kS
        subst e3; subst e4; subst e5
        -- the state b is no better: the best stays
        have stay : (c q + mlk S m q s < c b + mlk S m b s ∨ (c q + mlk S m q s = c b + mlk S m b s ∧ (g q < g b ∨ (g q = g b ∧ r q ≤ r b)))) → G 185 [(0, .ref (ad 0)), (1, .int (nI (m + 1))), (2, .int (nI s)), (3, .int (nI q)), (4, .int (nI (c q + mlk S m q s))), (5, .int (nI w)), (6, .int (nI b)), (7, .int (nI (c b + mlk S m b s)))] [] (wM cI ad F A) 0 0 := by
          intro hq
          have bst : mBst S m s c g r (b + 1) q := ⟨by omega, q2, fun b' h1 h2 => by
            rcases Nat.lt_or_ge b' b with z | z
            · exact q3 b' z h2
            · rw [show b' = b by omega]; exact hq⟩
          refine sg_M_reach_185 hG ad F A (nI (m + 1)) (nI s) (nI q) _ (nI w) (nI b) _ ⟨fun cc => ?_, fun cc => ⟨hin, ?_⟩⟩
          · have hlt : c q + mlk S m q s < c b + mlk S m b s := by
              rcases hq with hq | hq
              · exact hq
              · exact absurd (by rw [hq.1]) cc
            rw [if_pos hlt] at hadd
            exact nxt _ _ _ (Or.inr ⟨q, w, bst, rfl, rfl, rfl, hadd⟩)
          · have heq := neq (by omega) (by omega) cc
            rw [if_neg (by omega), if_neg (by omega)] at hadd
            rw [hcl, a13, nI_add, m_most (by omega)]
            exact nxt _ _ _ (Or.inr ⟨q, _, bst, rfl, rfl, rfl, hadd⟩)
        have newer : c b + mlk S m b s < c q + mlk S m q s → ∀ b', b' < b → mS S m b' → c b + mlk S m b s < c b' + mlk S m b' s ∨ (c b + mlk S m b s = c b' + mlk S m b' s ∧ (g b < g b' ∨ (g b = g b' ∧ r b ≤ r b'))) := by
          intro hlt b' h1 h2
          rcases q3 b' h1 h2 with z | z <;> (left; omega)
        have tie : c b + mlk S m b s = c q + mlk S m q s → (g b < g q ∨ (g b = g q ∧ r b < r q)) → G 178 [(0, .ref (ad 0)), (1, .int (nI (m + 1))), (2, .int (nI s)), (5, .int (nI w)), (6, .int (nI b)), (7, .int (nI (c b + mlk S m b s)))] [] (wM cI ad F A) 0 0 := by
          intro heq hless
          refine upd1 w hwl (fun b' h1 h2 => ?_) ?_
          · rcases q3 b' h1 h2 with z | ⟨z1, z2⟩
            · left; omega
            · right
              refine ⟨by omega, ?_⟩
              rcases hless with h | h <;> rcases z2 with z | z
              · left; omega
              · left; omega
              · left; omega
              · right; omega
          · rw [hadd, if_neg (by omega), if_neg (by omega), heq]
        refine ⟨fun cc => absurd cc (nI_pos (by omega)), fun _ => ⟨fun cc => ?_, fun cc => ?_⟩⟩
        · have hle := nge (by omega) (by omega) cc
          refine sg_M_reach_112 hG ad F A (nI (m + 1)) (nI s) (nI q) _ (nI w) (nI b) _ ⟨fun c2 => absurd c2 (nI_pos (by omega)), fun _ => ⟨fun c2 => absurd (nlt' (by omega) (by omega) c2) (by omega), fun _ => ⟨fun c2 => stay (Or.inl (by have := nne (by omega) (by omega) c2; omega)), fun c2 => ?_⟩⟩⟩
          have heq := neq (by omega) (by omega) c2
          rw [hcl, hclq, a11, t11, a12, t12]
          refine ⟨hin, hinq, fun c3 => tie heq (Or.inl (nlt' (by omega) (by omega) c3)), fun c3 => ⟨hin, hinq, fun c4 => stay (Or.inr ⟨heq.symm, Or.inl (by have := nne (by omega) (by omega) c4; have := nnl (by omega) (by omega) c3; omega)⟩), fun c4 => ⟨hin, hinq, fun c5 => stay (Or.inr ⟨heq.symm, Or.inr ⟨(neq (by omega) (by omega) c4).symm, nge (by omega) (by omega) c5⟩⟩), fun c5 => tie heq (Or.inr ⟨neq (by omega) (by omega) c4, nng (by omega) (by omega) c5⟩)⟩⟩⟩
        · have hlt := nng (by omega) (by omega) cc
          refine sg_M_reach_109 hG ad F A (nI (m + 1)) (nI s) (nI q) _ (nI b) _ ?_
          refine sg_M_reach_112 hG ad F A (nI (m + 1)) (nI s) (nI q) _ 0 (nI b) _ ⟨fun c2 => absurd c2 (nI_pos (by omega)), fun _ => ⟨fun _ => ?_, fun c2 => absurd (nI_lt hlt (by omega)) c2⟩⟩
          refine upd1 0 (by decide) (newer hlt) ?_
          rw [hadd, if_neg (by omega), if_pos hlt, Nat.zero_add, Nat.min_eq_right hnb]
    · rw [e.2 hSb]
      refine ⟨fun cc => absurd cc (by decide), fun _ => ?_⟩
      refine nxt _ _ _ ?_
      have e0 : mWs S m s cf b = none := by show c_mul _ (cf b) = none; rw [hn b hbl hSb, c_mul_none]
      rcases hI with ⟨hno, e3, e4, e5⟩ | ⟨q, w, hbst, e3, e4, e5, hsum⟩
      · refine Or.inl ⟨fun b' h => ?_, e3, e4, e5⟩
        rcases Nat.lt_or_ge b' b with z | z
        · exact hno b' z
        · rw [show b' = b by omega]; exact hSb
      · refine Or.inr ⟨q, w, ⟨by have := hbst.1; omega, hbst.2.1, fun b' h1 h2 => ?_⟩, e3, e4, e5, ?_⟩
        · rcases Nat.lt_or_ge b' b with z | z
          · exact hbst.2.2 b' z h2
          · rw [show b' = b by omega] at h2; exact absurd h2 hSb
        · show c_tr 1000000 (c_add (c_sum b (mWs S m s cf)) (mWs S m s cf b)) = _
          rw [e0, c_add_none]
          exact hsum
end MRc
