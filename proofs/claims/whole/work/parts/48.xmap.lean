/-! the class: the code of a state in the score -/
def xnz (S : sc_S) (m s j : Nat) : Nat := if j < S 4 m then xn S m (s % p3 (S 4 m)) j else 0
def xcode (S : sc_S) (m s : Nat) : Nat := sc_code (s / p3 (S 4 m)) (xnz S m s 0) (xnz S m s 1) (xnz S m s 2)
theorem xdg_mod {k s j : Nat} (hk : k ≤ 3) (hj : j < k) : xdg k (s % p3 k) j = xdg k s j := by
  unfold xdg
  rcases (show (k = 1 ∧ j = 0) ∨ (k = 2 ∧ j = 0) ∨ (k = 2 ∧ j = 1) ∨ (k = 3 ∧ j = 0) ∨ (k = 3 ∧ j = 1) ∨ (k = 3 ∧ j = 2) by omega) with ⟨rfl, rfl⟩ | ⟨rfl, rfl⟩ | ⟨rfl, rfl⟩ | ⟨rfl, rfl⟩ | ⟨rfl, rfl⟩ | ⟨rfl, rfl⟩
  · show s % 3 / 1 % 3 = s / 1 % 3; omega
  · show s % 9 / 3 % 3 = s / 3 % 3; omega
  · show s % 9 / 1 % 3 = s / 1 % 3; omega
  · show s % 27 / 9 % 3 = s / 9 % 3; omega
  · show s % 27 / 3 % 3 = s / 3 % 3; omega
  · show s % 27 / 1 % 3 = s / 1 % 3; omega
theorem xnz_lt {S : sc_S} {m s j : Nat} (h : xal S m s) : xnz S m s j < 35 := by
  unfold xnz
  split
  · rename_i hj; exact (h.1 j hj).1
  · decide
theorem xcode_nm {S : sc_S} {m s j : Nat} (h : xal S m s) (hj : j < 3) : sc_nm (xcode S m s) j = xnz S m s j := by
  have h0 := xnz_lt (j := 0) h
  have h1 := xnz_lt (j := 1) h
  have h2 := xnz_lt (j := 2) h
  unfold xcode
  match j, hj with
  | 0, _ => exact cd_0 h0 h1 h2
  | 1, _ => exact cd_1 h1 h2
  | 2, _ => exact cd_2 h2
theorem xcode_key {S : sc_S} {m s : Nat} (h : xal S m s) : sc_key (xcode S m s) = s / p3 (S 4 m) := cd_key (xnz_lt h) (xnz_lt h) (xnz_lt h)
theorem sc_sum_add (n : Nat) (f g : Nat → Nat) : sc_sum n (fun j => f j + g j) = sc_sum n f + sc_sum n g := by
  induction n with
  | zero => rfl
  | succ n ih =>
    show sc_sum n (fun j => f j + g j) + (f n + g n) = sc_sum n f + f n + (sc_sum n g + g n)
    rw [ih]; omega
theorem sc_sum_mul (n a : Nat) (f : Nat → Nat) : sc_sum n (fun j => a * f j) = a * sc_sum n f := by
  induction n with
  | zero => rfl
  | succ n ih =>
    show sc_sum n (fun j => a * f j) + a * f n = a * (sc_sum n f + f n)
    rw [ih, Nat.mul_add]
theorem xx_1 {S : sc_S} (hw : sc_wf S) {m s : Nat} (hm : m < S 7 1) (hs : s < xN S m) (hok : xal S m s) : xcode S m s < sc_N ∧ sc_al S m (xcode S m s) ∧ sc_c S m (xcode S m s) = xc S m s ∧ sc_g S m (xcode S m s) = xg S m s := by
  have w := hw.2.2.1 m hm
  have hP := p3_pos (S 4 m)
  have h0 := xnz_lt (j := 0) hok
  have h1 := xnz_lt (j := 1) hok
  have h2 := xnz_lt (j := 2) hok
  have hkey : s / p3 (S 4 m) < 15 := Nat.div_lt_of_lt_mul (by unfold xN at hs; rw [Nat.mul_comm]; exact hs)
  refine ⟨?_, ⟨?_, fun j hj => ⟨fun h => ?_, fun h => ?_⟩⟩, ?_, ?_⟩
  · unfold xcode sc_code sc_N; omega
  · rw [xcode_key hok]; exact hok.2
  · rw [xcode_nm hok hj]
    unfold xnz
    rw [if_pos h]
    refine ⟨?_, (hok.1 j h).2⟩
    unfold xn opn
    have := sc_low_lt (S 0 (S 3 m + j))
    omega
  · rw [xcode_nm hok hj]
    unfold xnz
    rw [if_neg h]
  · unfold sc_c xc xpaid xout
    rw [← sc_sum_mul, ← sc_sum_add, xcode_key hok]
    refine sc_sum_congr (fun j hj => ?_)
    have e : ∀ i, i < S 4 m → sc_nm (xcode S m s) i = xn S m (s % p3 (S 4 m)) i := by
      intro i hi
      rw [xcode_nm hok (by omega)]
      unfold xnz
      rw [if_pos hi]
    rw [e j hj, sc_sum_congr (g := fun i => S 6 2 * sc_wide (xn S m (s % p3 (S 4 m)) i) (xn S m (s % p3 (S 4 m)) j)) (fun i hi => by rw [e i (by omega)])]
    omega
  · unfold sc_g xg xsgn
    refine sc_sum_congr (fun j hj => ?_)
    rw [xcode_nm hok (by omega)]
    unfold xnz
    rw [if_pos hj]
theorem xx_4 {S : sc_S} (hw : sc_wf S) {m s t : Nat} (hm : m + 1 < S 7 1) (hs : xal S m s) (ht : xal S (m + 1) t) : sc_l S m (xcode S m s) (xcode S (m + 1) t) = xlk S m s t := by
  have w := hw.2.2.1 m (by omega)
  have w1 := hw.2.2.1 (m + 1) hm
  unfold sc_l xlk
  rw [xcode_key hs, xcode_key ht]
  congr 1
  refine sc_sum_congr (fun j hj => ?_)
  rw [xcode_nm hs (by omega), xcode_nm ht (by omega)]
  unfold xnz xst
  rw [if_pos (by omega), if_pos (by omega), if_pos hj]
  unfold xn
  rw [xdg_mod w.2.1 (by omega), xdg_mod w1.2.1 (by omega)]
theorem xx_2 {S : sc_S} (hw : sc_wf S) {m a : Nat} (hm : m < S 7 1) (ha : a < sc_N) (hal : sc_al S m a) : ∃ s, s < xN S m ∧ xal S m s ∧ xcode S m s = a := by
  have w := hw.2.2.1 m hm
  have hk : sc_key a < 15 := by unfold sc_key; unfold sc_N at ha; omega
  have key : ∀ pick, pick < p3 (S 4 m) → (∀ j, j < S 4 m → xdg (S 4 m) pick j = sc_nm a j / 12) → ∃ s, s < xN S m ∧ xal S m s ∧ xcode S m s = a := by
    intro pick hp hd
    have e1 : (p3 (S 4 m) * sc_key a + pick) / p3 (S 4 m) = sc_key a := by rw [Nat.mul_add_div (by omega), Nat.div_eq_of_lt hp, Nat.add_zero]
    have e2 : (p3 (S 4 m) * sc_key a + pick) % p3 (S 4 m) = pick := by rw [Nat.mul_add_mod, Nat.mod_eq_of_lt hp]
    have en : ∀ j, j < S 4 m → xn S m pick j = sc_nm a j := by
      intro j hj
      have m1 := ((hal.2 j (by omega)).1 hj).1
      have := sc_low_lt (S 0 (S 3 m + j))
      unfold xn opn
      rw [hd j hj]
      omega
    have ez : ∀ j, j < 3 → xnz S m (p3 (S 4 m) * sc_key a + pick) j = sc_nm a j := by
      intro j hj
      unfold xnz
      rw [e2]
      by_cases h : j < S 4 m
      · rw [if_pos h]; exact en j h
      · rw [if_neg h]; exact ((hal.2 j hj).2 h).symm
    refine ⟨p3 (S 4 m) * sc_key a + pick, ix_lt hp hk, ⟨?_, ?_⟩, ?_⟩
    · rw [e2]
      intro j hj
      unfold xfit1
      rw [en j hj]
      exact ⟨nm_lt a j, ((hal.2 j (by omega)).1 hj).2⟩
    · rw [e1]; exact hal.1
    · unfold xcode
      rw [e1, ez 0 (by decide), ez 1 (by decide), ez 2 (by decide)]
      exact cd_eq a
  have l0 := nm_lt a 0
  have l1 := nm_lt a 1
  have l2 := nm_lt a 2
  rcases (show S 4 m = 1 ∨ S 4 m = 2 ∨ S 4 m = 3 by omega) with e | e | e <;> rw [e] at key
  · refine key (sc_nm a 0 / 12) (by show _ < 3; omega) (fun j hj => ?_)
    rw [show j = 0 by omega]
    show sc_nm a 0 / 12 / 1 % 3 = _
    omega
  · refine key (3 * (sc_nm a 0 / 12) + sc_nm a 1 / 12) (by show _ < 9; omega) (fun j hj => ?_)
    rcases (show j = 0 ∨ j = 1 by omega) with rfl | rfl
    · show (3 * (sc_nm a 0 / 12) + sc_nm a 1 / 12) / 3 % 3 = _; omega
    · show (3 * (sc_nm a 0 / 12) + sc_nm a 1 / 12) / 1 % 3 = _; omega
  · refine key (9 * (sc_nm a 0 / 12) + 3 * (sc_nm a 1 / 12) + sc_nm a 2 / 12) (by show _ < 27; omega) (fun j hj => ?_)
    rcases (show j = 0 ∨ j = 1 ∨ j = 2 by omega) with rfl | rfl | rfl
    · show (9 * (sc_nm a 0 / 12) + 3 * (sc_nm a 1 / 12) + sc_nm a 2 / 12) / 9 % 3 = _; omega
    · show (9 * (sc_nm a 0 / 12) + 3 * (sc_nm a 1 / 12) + sc_nm a 2 / 12) / 3 % 3 = _; omega
    · show (9 * (sc_nm a 0 / 12) + 3 * (sc_nm a 1 / 12) + sc_nm a 2 / 12) / 1 % 3 = _; omega
theorem lex1 {k k' d e l : Nat} (hd : d < 3) (he : e < 3) (h1 : l + 12 * d < 35) (h2 : l + 12 * e < 35) (h : 3 * k + d < 3 * k' + e) : ((k * 35 + (l + 12 * d)) * 35 + 0) * 35 + 0 < ((k' * 35 + (l + 12 * e)) * 35 + 0) * 35 + 0 := by
  rcases Nat.lt_trichotomy k k' with z | z | z
  · omega
  · subst z; omega
  · omega
theorem lex2 {k k' d e l c f n : Nat} (hd : d < 3) (he : e < 3) (hc : c < 3) (hf : f < 3) (h1 : l + 12 * d < 35) (h2 : l + 12 * e < 35) (h3 : n + 12 * c < 35) (h4 : n + 12 * f < 35) (h : 9 * k + (3 * d + c) < 9 * k' + (3 * e + f)) : ((k * 35 + (l + 12 * d)) * 35 + (n + 12 * c)) * 35 + 0 < ((k' * 35 + (l + 12 * e)) * 35 + (n + 12 * f)) * 35 + 0 := by
  rcases Nat.lt_trichotomy k k' with z | z | z
  · omega
  · subst z
    rcases Nat.lt_trichotomy d e with y | y | y
    · omega
    · subst y; omega
    · omega
  · omega
theorem lex3 {k k' d e l c f n a b o : Nat} (hd : d < 3) (he : e < 3) (hc : c < 3) (hf : f < 3) (ha : a < 3) (hb : b < 3) (h1 : l + 12 * d < 35) (h2 : l + 12 * e < 35) (h3 : n + 12 * c < 35) (h4 : n + 12 * f < 35) (h5 : o + 12 * a < 35) (h6 : o + 12 * b < 35) (h : 27 * k + (9 * d + 3 * c + a) < 27 * k' + (9 * e + 3 * f + b)) : ((k * 35 + (l + 12 * d)) * 35 + (n + 12 * c)) * 35 + (o + 12 * a) < ((k' * 35 + (l + 12 * e)) * 35 + (n + 12 * f)) * 35 + (o + 12 * b) := by
  rcases Nat.lt_trichotomy k k' with z | z | z
  · omega
  · subst z
    rcases Nat.lt_trichotomy d e with y | y | y
    · omega
    · subst y
      rcases Nat.lt_trichotomy c f with x | x | x
      · omega
      · subst x; omega
      · omega
    · omega
  · omega
theorem xx_3 {S : sc_S} (hw : sc_wf S) {m s t : Nat} (hm : m < S 7 1) (hok : xal S m s) (hok2 : xal S m t) (h : s < t) : xcode S m s < xcode S m t := by
  have w := hw.2.2.1 m hm
  have s0 := xnz_lt (j := 0) hok
  have s1 := xnz_lt (j := 1) hok
  have s2 := xnz_lt (j := 2) hok
  have t0 := xnz_lt (j := 0) hok2
  have t1 := xnz_lt (j := 1) hok2
  have t2 := xnz_lt (j := 2) hok2
  have en : ∀ u j, j < S 4 m → xnz S m u j = sc_low (S 0 (S 3 m + j)) + 12 * xdg (S 4 m) u j := by
    intro u j hj
    unfold xnz
    rw [if_pos hj]
    unfold xn opn
    rw [xdg_mod w.2.1 hj]
  have ez : ∀ u j, ¬ j < S 4 m → xnz S m u j = 0 := fun u j hj => by unfold xnz; rw [if_neg hj]
  unfold xcode sc_code
  rcases (show S 4 m = 1 ∨ S 4 m = 2 ∨ S 4 m = 3 by omega) with e | e | e <;> rw [e] at en ez ⊢
  · rw [en s 0 (by decide)] at s0 ⊢
    rw [en t 0 (by decide)] at t0 ⊢
    rw [ez s 1 (by decide), ez s 2 (by decide), ez t 1 (by decide), ez t 2 (by decide)]
    refine lex1 (xdg_lt _ _ _) (xdg_lt _ _ _) s0 t0 ?_
    show 3 * (s / 3) + s / 1 % 3 < 3 * (t / 3) + t / 1 % 3
    omega
  · rw [en s 0 (by decide)] at s0 ⊢
    rw [en t 0 (by decide)] at t0 ⊢
    rw [en s 1 (by decide)] at s1 ⊢
    rw [en t 1 (by decide)] at t1 ⊢
    rw [ez s 2 (by decide), ez t 2 (by decide)]
    refine lex2 (xdg_lt _ _ _) (xdg_lt _ _ _) (xdg_lt _ _ _) (xdg_lt _ _ _) s0 t0 s1 t1 ?_
    show 9 * (s / 9) + (3 * (s / 3 % 3) + s / 1 % 3) < 9 * (t / 9) + (3 * (t / 3 % 3) + t / 1 % 3)
    omega
  · rw [en s 0 (by decide)] at s0 ⊢
    rw [en t 0 (by decide)] at t0 ⊢
    rw [en s 1 (by decide)] at s1 ⊢
    rw [en t 1 (by decide)] at t1 ⊢
    rw [en s 2 (by decide)] at s2 ⊢
    rw [en t 2 (by decide)] at t2 ⊢
    refine lex3 (xdg_lt _ _ _) (xdg_lt _ _ _) (xdg_lt _ _ _) (xdg_lt _ _ _) (xdg_lt _ _ _) (xdg_lt _ _ _) s0 t0 s1 t1 s2 t2 ?_
    show 27 * (s / 27) + (9 * (s / 9 % 3) + 3 * (s / 3 % 3) + s / 1 % 3) < 27 * (t / 27) + (9 * (t / 9 % 3) + 3 * (t / 3 % 3) + t / 1 % 3)
    omega
theorem xal_ex {S : sc_S} (hw : sc_wf S) {m : Nat} (hm : m < S 7 1) : ∃ s, s < xN S m ∧ xal S m s := by
  obtain ⟨s, h1, h2⟩ := mS_ex hw hm
  obtain ⟨a1, a2, -, -⟩ := mm_1 hw hm h1 h2
  obtain ⟨t, b1, b2, -⟩ := xx_2 hw hm a1 a2
  exact ⟨t, b1, b2⟩
