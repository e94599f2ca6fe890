/-! the model's states are the score's states -/
theorem cd_key {k a b c : Nat} (ha : a < 35) (hb : b < 35) (hc : c < 35) : sc_key (sc_code k a b c) = k := by unfold sc_key sc_code; omega
theorem cd_0 {k a b c : Nat} (ha : a < 35) (hb : b < 35) (hc : c < 35) : sc_nm (sc_code k a b c) 0 = a := by show sc_code k a b c / 1225 % 35 = a; unfold sc_code; omega
theorem cd_1 {k a b c : Nat} (hb : b < 35) (hc : c < 35) : sc_nm (sc_code k a b c) 1 = b := by show sc_code k a b c / 35 % 35 = b; unfold sc_code; omega
theorem cd_2 {k a b c : Nat} (hc : c < 35) : sc_nm (sc_code k a b c) 2 = c := by show sc_code k a b c % 35 = c; unfold sc_code; omega
theorem cd_eq (a : Nat) : sc_code (sc_key a) (sc_nm a 0) (sc_nm a 1) (sc_nm a 2) = a := by
  show ((a / 42875 * 35 + a / 1225 % 35) * 35 + a / 35 % 35) * 35 + a % 35 = a
  omega
theorem nm_lt (a j : Nat) : sc_nm a j < 35 := by
  match j with
  | 0 => exact Nat.mod_lt _ (by decide)
  | 1 => exact Nat.mod_lt _ (by decide)
  | _ + 2 => exact Nat.mod_lt _ (by decide)
theorem mname_lt {S : sc_S} (hw : sc_wf S) {m row p : Nat} (hm : m < S 7 1) (hr : row < 27) (hp : p < 3) : mname S m row p < 35 := by
  have w := hw.2.2.1 m hm
  unfold mname
  by_cases h : p < S 4 m
  · rw [if_pos h]
    have b := hw.2.2.2.2.1 (S 3 m + p) (by omega)
    cases e : sc_kth (sc_low (S 0 (S 3 m + p))) (S 1 (S 3 m + p)) (mdig row p) with
    | none => show (0 : Nat) < 35; decide
    | some n => exact sc_kth_lt _ (sc_low_lt _) _ (by omega) _ (mdig_lt hr hp) n e
  · rw [if_neg h]; decide
theorem mcode_nm {S : sc_S} (hw : sc_wf S) {m s j : Nat} (hm : m < S 7 1) (hj : j < 3) : sc_nm (mcode S m s) j = mname S m (s % 27) j := by
  have h0 := mname_lt hw hm (show s % 27 < 27 by omega) (show 0 < 3 by decide)
  have h1 := mname_lt hw hm (show s % 27 < 27 by omega) (show 1 < 3 by decide)
  have h2 := mname_lt hw hm (show s % 27 < 27 by omega) (show 2 < 3 by decide)
  unfold mcode
  match j, hj with
  | 0, _ => exact cd_0 h0 h1 h2
  | 1, _ => exact cd_1 h1 h2
  | 2, _ => exact cd_2 h2
theorem mcode_key {S : sc_S} (hw : sc_wf S) {m s : Nat} (hm : m < S 7 1) : sc_key (mcode S m s) = s / 27 := cd_key (mname_lt hw hm (show s % 27 < 27 by omega) (by decide)) (mname_lt hw hm (show s % 27 < 27 by omega) (by decide)) (mname_lt hw hm (show s % 27 < 27 by omega) (by decide))
theorem sc_sum_congr {n : Nat} {f g : Nat → Nat} (h : ∀ i, i < n → f i = g i) : sc_sum n f = sc_sum n g := by
  induction n with
  | zero => rfl
  | succ n ih =>
    show sc_sum n f + f n = sc_sum n g + g n
    rw [ih (fun i hi => h i (by omega)), h n (by omega)]
theorem kth_may {lo t k n : Nat} (hlo : lo < 12) (h : sc_kth lo t k = some n) (ht : t = 35 ∨ (t < 35 ∧ t % 12 = lo)) : n % 12 = lo ∧ (t = 35 ∨ t = n) := by
  unfold sc_kth at h
  rcases ht with e | e
  · rw [if_pos e] at h
    by_cases e2 : lo + 12 * k ≤ 34
    · rw [if_pos e2] at h
      have := Option.some.inj h
      exact ⟨by omega, Or.inl e⟩
    · rw [if_neg e2] at h; cases h
  · rw [if_neg (by omega)] at h
    by_cases e2 : k = 0
    · rw [if_pos e2] at h
      have := Option.some.inj h
      exact ⟨by omega, Or.inr (by omega)⟩
    · rw [if_neg e2] at h; cases h
theorem mm_1 {S : sc_S} (hw : sc_wf S) {m s : Nat} (hm : m < S 7 1) (hs : s < 405) (hok : mS S m s) : mcode S m s < sc_N ∧ sc_al S m (mcode S m s) ∧ sc_c S m (mcode S m s) = lC S m s ∧ sc_g S m (mcode S m s) = lG S m s := by
  have w := hw.2.2.1 m hm
  have h0 := mname_lt hw hm (show s % 27 < 27 by omega) (show 0 < 3 by decide)
  have h1 := mname_lt hw hm (show s % 27 < 27 by omega) (show 1 < 3 by decide)
  have h2 := mname_lt hw hm (show s % 27 < 27 by omega) (show 2 < 3 by decide)
  refine ⟨?_, ⟨?_, fun j hj => ⟨fun h => ?_, fun h => ?_⟩⟩, ?_, ?_⟩
  · unfold mcode sc_code sc_N; omega
  · rw [mcode_key hw hm]; exact hok.1
  · rw [mcode_nm hw hm hj]
    obtain ⟨n, a, b⟩ := (hok.2 j hj).1 h
    have e : mname S m (s % 27) j = n := by unfold mname; rw [if_pos h, b]; rfl
    rw [e]
    exact kth_may (sc_low_lt _) b (hw.2.2.2.2.1 (S 3 m + j) (by omega)).2.1
  · rw [mcode_nm hw hm hj]
    unfold mname
    rw [if_neg h]
  · unfold sc_c lC mc_p
    rw [show min 3 (S 4 m) = S 4 m by omega, mcode_key hw hm]
    refine sc_sum_congr (fun j hj => ?_)
    rw [mcode_nm hw hm (by omega)]
    congr 1
    refine sc_sum_congr (fun i hi => ?_)
    rw [mcode_nm hw hm (by omega)]
  · unfold sc_g lG mg_p
    rw [show min 3 (S 4 m) = S 4 m by omega]
    refine sc_sum_congr (fun j hj => ?_)
    rw [mcode_nm hw hm (by omega)]
theorem mm_4 {S : sc_S} (hw : sc_wf S) {m s t : Nat} (hm : m + 1 < S 7 1) : sc_l S m (mcode S m s) (mcode S (m + 1) t) = mlk S m s t := by
  have w := hw.2.2.1 m (by omega)
  unfold sc_l mlk stpA stp
  rw [mcode_key hw (show m < S 7 1 by omega), mcode_key hw hm]
  congr 1
  refine sc_sum_congr (fun j hj => ?_)
  rw [mcode_nm hw (show m < S 7 1 by omega) (by omega), mcode_nm hw hm (by omega)]
/-- the digit of a NAME -/
def dgt (S : sc_S) (m a j : Nat) : Nat := if j < S 4 m ∧ S 1 (S 3 m + j) = 35 then sc_nm a j / 12 else 0
theorem mm_2 {S : sc_S} (hw : sc_wf S) {m a : Nat} (hm : m < S 7 1) (ha : a < sc_N) (hal : sc_al S m a) : ∃ s, s < 405 ∧ mS S m s ∧ mcode S m s = a := by
  have w := hw.2.2.1 m hm
  have hk : sc_key a < 15 := by unfold sc_key; unfold sc_N at ha; omega
  have dl : ∀ j, dgt S m a j < 3 := by
    intro j
    have := nm_lt a j
    unfold dgt
    split <;> omega
  have d0 := dl 0
  have d1 := dl 1
  have d2 := dl 2
  have hdig : ∀ j, j < 3 → mdig (9 * dgt S m a 0 + 3 * dgt S m a 1 + dgt S m a 2) j = dgt S m a j := by
    intro j hj
    match j, hj with
    | 0, _ => show (9 * dgt S m a 0 + 3 * dgt S m a 1 + dgt S m a 2) / 9 = _; omega
    | 1, _ => show (9 * dgt S m a 0 + 3 * dgt S m a 1 + dgt S m a 2) / 3 % 3 = _; omega
    | 2, _ => show (9 * dgt S m a 0 + 3 * dgt S m a 1 + dgt S m a 2) % 3 = _; omega
  have hkth : ∀ j, j < 3 → j < S 4 m → sc_kth (sc_low (S 0 (S 3 m + j))) (S 1 (S 3 m + j)) (dgt S m a j) = some (sc_nm a j) := by
    intro j hj h
    obtain ⟨m1, m2⟩ := (hal.2 j hj).1 h
    have := nm_lt a j
    have hl := sc_low_lt (S 0 (S 3 m + j))
    by_cases e : S 1 (S 3 m + j) = 35
    · have hd : dgt S m a j = sc_nm a j / 12 := by unfold dgt; rw [if_pos ⟨h, e⟩]
      rw [hd]
      unfold sc_kth
      rw [if_pos e, if_pos (by omega)]
      congr 1
      omega
    · have hd : dgt S m a j = 0 := by unfold dgt; rw [if_neg (fun q => e q.2)]
      rw [hd]
      unfold sc_kth
      rw [if_neg e, if_pos rfl]
      rcases m2 with z | z
      · exact absurd z e
      · rw [z]
  have hs27 : (27 * sc_key a + (9 * dgt S m a 0 + 3 * dgt S m a 1 + dgt S m a 2)) / 27 = sc_key a := by omega
  have hr27 : (27 * sc_key a + (9 * dgt S m a 0 + 3 * dgt S m a 1 + dgt S m a 2)) % 27 = 9 * dgt S m a 0 + 3 * dgt S m a 1 + dgt S m a 2 := by omega
  have hname : ∀ j, j < 3 → mname S m (9 * dgt S m a 0 + 3 * dgt S m a 1 + dgt S m a 2) j = sc_nm a j := by
    intro j hj
    unfold mname
    by_cases h : j < S 4 m
    · rw [if_pos h, hdig j hj, hkth j hj h]; rfl
    · rw [if_neg h, (hal.2 j hj).2 h]
  refine ⟨27 * sc_key a + (9 * dgt S m a 0 + 3 * dgt S m a 1 + dgt S m a 2), by omega, ?_, ?_⟩
  · show mok S m _ _
    rw [hs27, hr27]
    refine ⟨hal.1, fun j hj => ⟨fun h => ⟨sc_nm a j, nm_lt a j, by rw [hdig j hj]; exact hkth j hj h⟩, fun h => ?_⟩⟩
    rw [hdig j hj]
    unfold dgt
    rw [if_neg (fun q => h q.1)]
  · unfold mcode
    rw [hs27, hr27, hname 0 (by decide), hname 1 (by decide), hname 2 (by decide)]
    exact cd_eq a
theorem mm_dig {S : sc_S} (hw : sc_wf S) {m ra rb j : Nat} (hm : m < S 7 1) (hj : j < 3) (ha : mpl S m ra j) (hb : mpl S m rb j) : (mdig ra j = mdig rb j → mname S m ra j = mname S m rb j) ∧ (mdig ra j < mdig rb j → mname S m ra j < mname S m rb j) := by
  unfold mname
  by_cases h : j < S 4 m
  · rw [if_pos h, if_pos h]
    obtain ⟨na, a1, a2⟩ := ha.1 h
    obtain ⟨nb, b1, b2⟩ := hb.1 h
    refine ⟨fun e => by rw [e], fun e => ?_⟩
    rw [a2, b2]
    show na < nb
    unfold sc_kth at a2 b2
    by_cases t : S 1 (S 3 m + j) = 35
    · rw [if_pos t] at a2 b2
      split at a2
      · split at b2
        · have := Option.some.inj a2
          have := Option.some.inj b2
          omega
        · cases b2
      · cases a2
    · rw [if_neg t] at a2 b2
      split at b2
      · omega
      · cases b2
  · rw [if_neg h, if_neg h, ha.2 h, hb.2 h]
    exact ⟨fun _ => rfl, fun e => absurd e (by decide)⟩
theorem mm_3 {S : sc_S} (hw : sc_wf S) {m s t : Nat} (hm : m < S 7 1) (hs : s < 405) (hok : mS S m s) (ht : t < 405) (hok2 : mS S m t) (h : s < t) : mcode S m s < mcode S m t := by
  have s0 := mname_lt hw hm (show s % 27 < 27 by omega) (show 0 < 3 by decide)
  have s1 := mname_lt hw hm (show s % 27 < 27 by omega) (show 1 < 3 by decide)
  have s2 := mname_lt hw hm (show s % 27 < 27 by omega) (show 2 < 3 by decide)
  have t0 := mname_lt hw hm (show t % 27 < 27 by omega) (show 0 < 3 by decide)
  have t1 := mname_lt hw hm (show t % 27 < 27 by omega) (show 1 < 3 by decide)
  have t2 := mname_lt hw hm (show t % 27 < 27 by omega) (show 2 < 3 by decide)
  have e0 := mm_dig hw hm (show 0 < 3 by decide) (hok.2 0 (by decide)) (hok2.2 0 (by decide))
  have e1 := mm_dig hw hm (show 1 < 3 by decide) (hok.2 1 (by decide)) (hok2.2 1 (by decide))
  have e2 := mm_dig hw hm (show 2 < 3 by decide) (hok.2 2 (by decide)) (hok2.2 2 (by decide))
  have q0 : mdig (s % 27) 0 = s % 27 / 9 := rfl
  have q1 : mdig (s % 27) 1 = s % 27 / 3 % 3 := rfl
  have q2 : mdig (s % 27) 2 = s % 27 % 3 := rfl
  have r0 : mdig (t % 27) 0 = t % 27 / 9 := rfl
  have r1 : mdig (t % 27) 1 = t % 27 / 3 % 3 := rfl
  have r2 : mdig (t % 27) 2 = t % 27 % 3 := rfl
  rw [q0, r0] at e0
  rw [q1, r1] at e1
  rw [q2, r2] at e2
  unfold mcode sc_code
  generalize mname S m (s % 27) 0 = x0 at *
  generalize mname S m (s % 27) 1 = x1 at *
  generalize mname S m (s % 27) 2 = x2 at *
  generalize mname S m (t % 27) 0 = y0 at *
  generalize mname S m (t % 27) 1 = y1 at *
  generalize mname S m (t % 27) 2 = y2 at *
  rcases Nat.lt_trichotomy (s / 27) (t / 27) with z | z | z
  · omega
  · rw [z]
    rcases Nat.lt_trichotomy (s % 27 / 9) (t % 27 / 9) with a | a | a
    · have := e0.2 a
      omega
    · have := e0.1 a
      rcases Nat.lt_trichotomy (s % 27 / 3 % 3) (t % 27 / 3 % 3) with b | b | b
      · have := e1.2 b
        omega
      · have := e1.1 b
        have := e2.2 (by omega)
        omega
      · omega
    · omega
  · omega
/-- the counts agree -/
theorem mm_cb {S : sc_S} (hw : sc_wf S) : ∀ (k m : Nat), m + k < S 7 1 → ∀ s, s < 405 → mS S m s → c_b (fun _ => 405) (mw S) (mlk S) k m s = c_b (fun _ => sc_N) (sc_w S) (sc_l S) k m (mcode S m s)
  | 0, m, hm, s, hs, hok => by
    obtain ⟨a1, a2, a3, a4⟩ := mm_1 hw (show m < S 7 1 by omega) hs hok
    show mw S m s = sc_w S m (mcode S m s)
    rw [mw_pos hok]
    unfold sc_w
    rw [if_pos a2, a3]
  | k + 1, m, hm, s, hs, hok => by
    obtain ⟨a1, a2, a3, a4⟩ := mm_1 hw (show m < S 7 1 by omega) hs hok
    show c_mul (mw S m s) (c_sum 405 (fun t => c_mul (some (mlk S m s t, 1)) (c_b (fun _ => 405) (mw S) (mlk S) k (m + 1) t))) = c_mul (sc_w S m (mcode S m s)) (c_sum sc_N (fun t => c_mul (some (sc_l S m (mcode S m s) t, 1)) (c_b (fun _ => sc_N) (sc_w S) (sc_l S) k (m + 1) t)))
    have e1 : mw S m s = sc_w S m (mcode S m s) := by
      rw [mw_pos hok]
      unfold sc_w
      rw [if_pos a2, a3]
    rw [e1]
    refine congrArg (c_mul _) ?_
    refine c_sum_map (P := mS S (m + 1)) (c := mcode S (m + 1)) (fun t ht hn => ?_) (fun t ht hok2 => ⟨(mm_1 hw (by omega) ht hok2).1, ?_⟩) (fun i j hij hj h1 h2 => mm_3 hw (by omega) (by omega) h1 hj h2 hij) (fun a ha hn => ?_)
    · rw [c_b_r, mw_neg hn, c_none_mul, c_mul_none]
    · rw [mm_4 hw (by omega), ← mm_cb hw k (m + 1) (by omega) t ht hok2]
    · have hna : ¬ sc_al S (m + 1) a := fun hal => by
        obtain ⟨t, t1, t2, t3⟩ := mm_2 hw (show m + 1 < S 7 1 by omega) ha hal
        exact hn t t1 t2 t3
      rw [c_b_r]
      unfold sc_w
      rw [if_neg hna, c_none_mul, c_mul_none]
theorem m_Res {S : sc_S} (hw : sc_wf S) {F : Nat → Int32} {A : Nat → Nat → Int32} (h : mOut S F A) : ∃ (co si ti : Nat) (na ke : Nat → Nat), sc_Res S co si ti na ke ∧ F 11 = nI co ∧ F 12 = nI si ∧ F 13 = nI ti ∧ co < 100000 ∧ si < 64 ∧ ti ≤ 1000000 ∧ (∀ m, m < S 7 1 → A 19 m = nI (ke m) ∧ ke m < 15) ∧ ∀ m j, m < S 7 1 → j < S 4 m → A 20 (S 3 m + j) = nI (na (S 3 m + j)) ∧ na (S 3 m + j) < 35 := by
  rcases h with ⟨h0, h1, h2, h3⟩ | ⟨h0, p, co, si, ti, hB, hv, hsi, hco, hc, f11, f12, f13, a19, a20⟩
  · exact ⟨0, 0, 1, fun _ => 0, fun _ => 0, Or.inl ⟨h0, rfl, rfl, rfl⟩, h1, h2, h3, by decide, by decide, by decide, fun m hm => by omega, fun m j hm => by omega⟩
  · have hmap := g_Best_map (N' := fun _ => sc_N) (al' := sc_al S) (v' := sc_v S) (lk' := sc_lv S) (mcode S)
      (fun m hm s hs hok => by
        obtain ⟨a1, a2, a3, a4⟩ := mm_1 hw (show m < S 7 1 by omega) hs hok
        exact ⟨a1, a2, by unfold sc_v; rw [a3, a4]⟩)
      (fun m hm a ha hal => mm_2 hw (show m < S 7 1 by omega) ha hal)
      (fun m hm s t hs h1 ht h2 hst => mm_3 hw (show m < S 7 1 by omega) hs h1 ht h2 hst)
      (fun m hm s t hs h1 ht h2 => by unfold sc_lv; rw [mm_4 hw (by omega)]) hB
    obtain ⟨hB', hv'⟩ := hmap
    rw [hv] at hv'
    have w : ∀ m, m < S 7 1 → p m < 405 := fun m hm => (hB.1 m (by omega)).1
    obtain ⟨na, hna⟩ : ∃ na : Nat → Nat, ∀ m j, m < S 7 1 → j < S 4 m → na (S 3 m + j) = mname S m (p m % 27) j := by
      refine ⟨fun i => mname S (S 2 i) (p (S 2 i) % 27) (i - S 3 (S 2 i)), fun m j hm hj => ?_⟩
      have wm := hw.2.2.1 m hm
      have b := hw.2.2.2.2.1 (S 3 m + j) (by omega)
      have e : S 2 (S 3 m + j) = m := by
        have mono : ∀ e k, k + e < S 7 1 → 0 < e → S 3 k + S 4 k ≤ S 3 (k + e) := by
          intro e
          induction e with
          | zero => intro k _ h; omega
          | succ e ihe =>
            intro k hk _
            have a2 := (hw.2.2.1 (k + e) (by omega)).2.2.2.2.1 (by omega)
            rw [show k + (e + 1) = k + e + 1 by omega, a2]
            rcases Nat.eq_zero_or_pos e with z | z
            · rw [z]; exact Nat.le_refl _
            · have := ihe k (by omega) z
              omega
        rcases Nat.lt_trichotomy (S 2 (S 3 m + j)) m with z | z | z
        · have := mono (m - S 2 (S 3 m + j)) (S 2 (S 3 m + j)) (by omega) (by omega)
          rw [show S 2 (S 3 m + j) + (m - S 2 (S 3 m + j)) = m by omega] at this
          omega
        · exact z
        · have := mono (S 2 (S 3 m + j) - m) m (by omega) (by omega)
          rw [show m + (S 2 (S 3 m + j) - m) = S 2 (S 3 m + j) by omega] at this
          omega
      show mname S (S 2 (S 3 m + j)) (p (S 2 (S 3 m + j)) % 27) (S 3 m + j - S 3 (S 2 (S 3 m + j))) = _
      rw [e, show S 3 m + j - S 3 m = j by omega]
    refine ⟨co, si, ti, na, fun m => p m / 27, Or.inr ⟨h0, fun m => mcode S m (p m), hB', by rw [hv']; omega, by rw [hv']; omega, fun m hm => (mcode_key hw hm).symm, fun m j hm hj => ?_, ?_⟩, f11, f12, f13, hco, hsi, c_tr_le hc, fun m hm => ⟨a19 m hm, by have := w m hm; show p m / 27 < 15; omega⟩, fun m j hm hj => ?_⟩
    · have wm := hw.2.2.1 m hm
      rw [hna m j hm hj, mcode_nm hw hm (by omega)]
    · have e1 : c_sum 405 (mcf S (S 7 1 - 1)) = c_sum 405 (c_b (fun _ => 405) (mw S) (mlk S) (S 7 1 - 1) 0) := c_both (fun _ => 405) (mw S) (mlk S) (S 7 1 - 1)
      have e2 : c_sum 405 (c_b (fun _ => 405) (mw S) (mlk S) (S 7 1 - 1) 0) = c_sum sc_N (c_b (fun _ => sc_N) (sc_w S) (sc_l S) (S 7 1 - 1) 0) := by
        refine c_sum_map (P := mS S 0) (c := mcode S 0) (fun t ht hn => ?_) (fun t ht hok2 => ⟨(mm_1 hw (by omega) ht hok2).1, (mm_cb hw (S 7 1 - 1) 0 (by omega) t ht hok2).symm⟩) (fun i j hij hj h1 h2 => mm_3 hw (by omega) (by omega) h1 hj h2 hij) (fun a ha hn => ?_)
        · rw [c_b_r, mw_neg hn, c_none_mul]
        · have hna2 : ¬ sc_al S 0 a := fun hal => by
            obtain ⟨t, t1, t2, t3⟩ := mm_2 hw h0 ha hal
            exact hn t t1 t2 t3
          rw [c_b_r]
          unfold sc_w
          rw [if_neg hna2, c_none_mul]
      rw [← e2, ← e1]
      exact hc
    · have wm := hw.2.2.1 m hm
      rw [hna m j hm hj]
      exact ⟨a20 m j hm hj, mname_lt hw hm (by omega) (by omega)⟩
