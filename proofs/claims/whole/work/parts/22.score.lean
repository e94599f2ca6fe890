/-! the score: what both sides hold, and the graph of its CHOICES (no machine in this part) -/
def sc_low (p : Nat) : Nat := (7 * p + 15) % 12
def sc_sg (n : Nat) : Nat := if 2 ≤ n / 7 then n / 7 - 2 else 2 - n / 7
def sc_oct (n p : Nat) : Nat := (p + 14 - n / 7) / 12
def sc_let (n : Nat) : Nat := (4 * n + 3) % 7
def sc_plc (n p : Nat) : Nat := 7 * sc_oct n p + sc_let n
def sc_dist (a b : Nat) : Nat := if a ≤ b then b - a else a - b
def sc_out (k n : Nat) : Nat := (k + 7 - n) + (n - (k + 13))
def sc_tw (n : Nat) : Nat := if sc_sg n = 2 then 1 else 0
def sc_wide (a b : Nat) : Nat := sc_dist a b - 6
def sc_kd (k k' : Nat) : Nat := if sc_dist k k' = 12 then 1 else sc_dist k k'
def sc_bad (n p n' p' : Nat) : Nat := if p = p' then (if n = n' then 0 else 1) else if 2 < sc_dist p p' then 0 else if p < p' then (if sc_plc n' p' = sc_plc n p + 1 then 0 else 1) else (if sc_plc n p = sc_plc n' p' + 1 then 0 else 1)
def sc_sum : Nat → (Nat → Nat) → Nat
  | 0, _ => 0
  | n + 1, f => sc_sum n f + f n
/-- a score: 0 PITCHES, 1 NAMES told (35: none), 2 the MOMENT of a SOUND, 3 the first SOUND of a MOMENT, 4 how many it has, 5 KEYS told (15: none), 6 the weights OUT, TWICE, WIDE, STEP, CHANGE, 7 how many SOUNDS, MOMENTS -/
abbrev sc_S : Type := Nat → Nat → Nat
/-- a state of a MOMENT: its KEY and the NAMES of its SOUNDS (0 where there is none) -/
def sc_N : Nat := 643125
def sc_key (a : Nat) : Nat := a / 42875
def sc_nm (a j : Nat) : Nat := match j with
  | 0 => a / 1225 % 35
  | 1 => a / 35 % 35
  | _ => a % 35
def sc_code (k n0 n1 n2 : Nat) : Nat := ((k * 35 + n0) * 35 + n1) * 35 + n2
/-- a NAME that a SOUND may have -/
def sc_may (S : sc_S) (i n : Nat) : Prop := n % 12 = sc_low (S 0 i) ∧ (S 1 i = 35 ∨ S 1 i = n)
def sc_al (S : sc_S) (m a : Nat) : Prop := (S 5 m = 15 ∨ S 5 m = sc_key a) ∧ ∀ j, j < 3 → (j < S 4 m → sc_may S (S 3 m + j) (sc_nm a j)) ∧ (¬ j < S 4 m → sc_nm a j = 0)
def sc_c (S : sc_S) (m a : Nat) : Nat := sc_sum (S 4 m) (fun j => S 6 0 * sc_out (sc_key a) (sc_nm a j) + S 6 1 * sc_tw (sc_nm a j) + sc_sum j (fun i => S 6 2 * sc_wide (sc_nm a i) (sc_nm a j)))
def sc_g (S : sc_S) (m a : Nat) : Nat := sc_sum (S 4 m) (fun j => sc_sg (sc_nm a j))
def sc_l (S : sc_S) (m a b : Nat) : Nat := S 6 4 * sc_kd (sc_key a) (sc_key b) + sc_sum (min (S 4 m) (S 4 (m + 1))) (fun j => S 6 3 * sc_bad (sc_nm a j) (S 0 (S 3 m + j)) (sc_nm b j) (S 0 (S 3 (m + 1) + j)))
def sc_v (S : sc_S) (m a : Nat) : Nat := 64 * sc_c S m a + sc_g S m a
def sc_lv (S : sc_S) (m a b : Nat) : Nat := 64 * sc_l S m a b
noncomputable def sc_w (S : sc_S) (m a : Nat) : c_T := @ite _ (sc_al S m a) (Classical.propDecidable _) (some (sc_c S m a, 1)) none
/-- what is MEANT: COST, signs, how many CHOICES, NAMES, KEYS -/
def sc_Res (S : sc_S) (co si ti : Nat) (na ke : Nat → Nat) : Prop := (S 7 1 = 0 ∧ co = 0 ∧ si = 0 ∧ ti = 1) ∨ (0 < S 7 1 ∧ ∃ p : Nat → Nat, g_Best (fun _ => sc_N) (sc_al S) (sc_v S) (sc_lv S) (S 7 1 - 1) p ∧ co = g_pv (sc_v S) (sc_lv S) (S 7 1 - 1) p / 64 ∧ si = g_pv (sc_v S) (sc_lv S) (S 7 1 - 1) p % 64 ∧
  (∀ m, m < S 7 1 → ke m = sc_key (p m)) ∧ (∀ m j, m < S 7 1 → j < S 4 m → na (S 3 m + j) = sc_nm (p m) j) ∧ c_tr 1000000 (c_sum sc_N (c_b (fun _ => sc_N) (sc_w S) (sc_l S) (S 7 1 - 1) 0)) = some (co, ti))
def sc_wf (S : sc_S) : Prop := S 7 0 ≤ 18 ∧ (S 7 1 = 0 ↔ S 7 0 = 0) ∧ (∀ m, m < S 7 1 → 1 ≤ S 4 m ∧ S 4 m ≤ 3 ∧ S 5 m ≤ 15 ∧ S 3 m + S 4 m ≤ S 7 0 ∧ (m + 1 < S 7 1 → S 3 (m + 1) = S 3 m + S 4 m) ∧ (m + 1 = S 7 1 → S 3 m + S 4 m = S 7 0)) ∧ (0 < S 7 1 → S 3 0 = 0) ∧
  (∀ i, i < S 7 0 → S 0 i < 128 ∧ (S 1 i = 35 ∨ (S 1 i < 35 ∧ S 1 i % 12 = sc_low (S 0 i))) ∧ S 2 i < S 7 1 ∧ S 3 (S 2 i) ≤ i ∧ i < S 3 (S 2 i) + S 4 (S 2 i)) ∧ ∀ j, j < 5 → S 6 j ≤ 20
theorem sc_Res_unique {S : sc_S} {co si ti co' si' ti' : Nat} {na na' ke ke' : Nat → Nat} (hw : sc_wf S) (h : sc_Res S co si ti na ke) (h' : sc_Res S co' si' ti' na' ke') : co = co' ∧ si = si' ∧ ti = ti' ∧ (∀ m, m < S 7 1 → ke m = ke' m) ∧ ∀ i, i < S 7 0 → na i = na' i := by
  rcases h with ⟨h0, h1, h2, h3⟩ | ⟨h0, p, h1, h2, h3, h4, h5, h6⟩
  · rcases h' with ⟨g0, g1, g2, g3⟩ | ⟨g0, -⟩
    · refine ⟨by omega, by omega, by omega, fun m hm => by omega, fun i hi => ?_⟩
      have := hw.2.1.mp h0
      omega
    · omega
  · rcases h' with ⟨g0, -⟩ | ⟨g0, q, g1, g2, g3, g4, g5, g6⟩
    · omega
    · have e := g_unique h1 g1
      have ev : g_pv (sc_v S) (sc_lv S) (S 7 1 - 1) p = g_pv (sc_v S) (sc_lv S) (S 7 1 - 1) q := g_pv_congr e
      have ec : co = co' := by rw [h2, g2, ev]
      refine ⟨ec, by rw [h3, g3, ev], ?_, fun m hm => by rw [h4 m hm, g4 m hm, e m (by omega)], fun i hi => ?_⟩
      · rw [h6] at g6
        have := Option.some.inj g6
        exact congrArg Prod.snd this
      · obtain ⟨-, -, a1, a2, a3⟩ := hw.2.2.2.2.1 i hi
        have b1 := h5 (S 2 i) (i - S 3 (S 2 i)) a1 (by omega)
        have b2 := g5 (S 2 i) (i - S 3 (S 2 i)) a1 (by omega)
        rw [show S 3 (S 2 i) + (i - S 3 (S 2 i)) = i by omega] at b1 b2
        rw [b1, b2, e (S 2 i) (by omega)]
