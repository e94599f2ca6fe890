/-! the calls that change a score -/
def sc_u (S : sc_S) (r i v : Nat) : sc_S := fun a b => if a = r then (if b = i then v else S a b) else S a b
theorem sc_u_r {S : sc_S} {r i v a b : Nat} (h : a ≠ r) : sc_u S r i v a b = S a b := if_neg h
theorem sc_u_i {S : sc_S} {r i v b : Nat} (h : b ≠ i) : sc_u S r i v r b = S r b := by
  show (if r = r then (if b = i then v else S r b) else S r b) = S r b
  rw [if_pos rfl, if_neg h]
theorem sc_u_s {S : sc_S} {r i v : Nat} : sc_u S r i v r i = v := by
  show (if r = r then (if i = i then v else S r i) else S r i) = v
  rw [if_pos rfl, if_pos rfl]
theorem sc_u_self {S : sc_S} {r i v : Nat} (h : S r i = v) : sc_u S r i v = S := by
  funext a b
  show (if a = r then (if b = i then v else S a b) else S a b) = S a b
  by_cases h1 : a = r
  · rw [if_pos h1]
    by_cases h2 : b = i
    · rw [if_pos h2, h1, h2, h]
    · rw [if_neg h2]
  · rw [if_neg h1]
def sc_clr (S : sc_S) : sc_S := fun a b => if a = 7 then 0 else S a b
theorem wf_clr {S : sc_S} (hw : sc_wf S) : sc_wf (sc_clr S) := by
  have e0 : sc_clr S 7 0 = 0 := rfl
  have e1 : sc_clr S 7 1 = 0 := rfl
  refine ⟨by rw [e0]; decide, ⟨fun _ => e0, fun _ => e1⟩, fun m hm => absurd hm (by rw [e1]; exact Nat.not_lt_zero m), fun h => absurd h (by rw [e1]; decide), fun i hi => absurd hi (by rw [e0]; exact Nat.not_lt_zero i), fun j hj => hw.2.2.2.2.2 j hj⟩
def sc_wts (S : sc_S) (f : Nat → Nat) : sc_S := fun a b => if a = 6 then f b else S a b
theorem wf_wts {S : sc_S} (hw : sc_wf S) {f : Nat → Nat} (hf : ∀ j, j < 5 → f j ≤ 20) : sc_wf (sc_wts S f) := ⟨hw.1, hw.2.1, hw.2.2.1, hw.2.2.2.1, hw.2.2.2.2.1, hf⟩
theorem wf_key {S : sc_S} (hw : sc_wf S) {i k : Nat} (hk : k ≤ 15) : sc_wf (sc_u S 5 i k) := by
  refine ⟨hw.1, hw.2.1, fun m hm => ?_, hw.2.2.2.1, hw.2.2.2.2.1, hw.2.2.2.2.2⟩
  have w := hw.2.2.1 m hm
  refine ⟨w.1, w.2.1, ?_, w.2.2.2⟩
  by_cases h : m = i
  · rw [h, sc_u_s]; exact hk
  · rw [sc_u_i h]; exact w.2.2.1
def okn (S : sc_S) (i : Nat) (x : Int32) : Prop := x = nI 35 ∨ ∃ n, n < 35 ∧ x = nI n ∧ n % 12 = sc_low (S 0 i)
theorem wf_fix {S : sc_S} (hw : sc_wf S) {i n : Nat} (hn : n = 35 ∨ (n < 35 ∧ n % 12 = sc_low (S 0 i))) : sc_wf (sc_u S 1 i n) := by
  refine ⟨hw.1, hw.2.1, hw.2.2.1, hw.2.2.2.1, fun j hj => ?_, hw.2.2.2.2.2⟩
  have b := hw.2.2.2.2.1 j hj
  refine ⟨b.1, ?_, b.2.2⟩
  by_cases h : j = i
  · subst h
    rw [sc_u_s]
    exact hn
  · rw [sc_u_i h]; exact b.2.1
def sc_putN (S : sc_S) (p : Nat) : sc_S := fun a b => match a with
  | 0 => if b = S 7 0 then p else S 0 b
  | 1 => if b = S 7 0 then 35 else S 1 b
  | 2 => if b = S 7 0 then S 7 1 else S 2 b
  | 3 => if b = S 7 1 then S 7 0 else S 3 b
  | 4 => if b = S 7 1 then 1 else S 4 b
  | 5 => if b = S 7 1 then 15 else S 5 b
  | 7 => if b = 0 then S 7 0 + 1 else if b = 1 then S 7 1 + 1 else S 7 b
  | a => S a b
def sc_putJ (S : sc_S) (p : Nat) : sc_S := fun a b => match a with
  | 0 => if b = S 7 0 then p else S 0 b
  | 1 => if b = S 7 0 then 35 else S 1 b
  | 2 => if b = S 7 0 then S 7 1 - 1 else S 2 b
  | 4 => if b = S 7 1 - 1 then S 4 b + 1 else S 4 b
  | 7 => if b = 0 then S 7 0 + 1 else S 7 b
  | a => S a b
theorem wf_putN {S : sc_S} (hw : sc_wf S) {p : Nat} (hp : p < 128) (hs : S 7 0 < 18) : sc_wf (sc_putN S p) := by
  have e0 : sc_putN S p 7 0 = S 7 0 + 1 := rfl
  have e1 : sc_putN S p 7 1 = S 7 1 + 1 := rfl
  have s0 : ∀ b, sc_putN S p 0 b = if b = S 7 0 then p else S 0 b := fun _ => rfl
  have s1 : ∀ b, sc_putN S p 1 b = if b = S 7 0 then 35 else S 1 b := fun _ => rfl
  have s2 : ∀ b, sc_putN S p 2 b = if b = S 7 0 then S 7 1 else S 2 b := fun _ => rfl
  have s3 : ∀ b, sc_putN S p 3 b = if b = S 7 1 then S 7 0 else S 3 b := fun _ => rfl
  have s4 : ∀ b, sc_putN S p 4 b = if b = S 7 1 then 1 else S 4 b := fun _ => rfl
  have s5 : ∀ b, sc_putN S p 5 b = if b = S 7 1 then 15 else S 5 b := fun _ => rfl
  obtain ⟨w1, w2, w3, w4, w5, w6⟩ := hw
  refine ⟨by rw [e0]; omega, by rw [e0, e1]; omega, fun m hm => ?_, fun _ => ?_, fun i hi => ?_, w6⟩
  · rw [e1] at hm
    rw [e0, e1, s3, s4, s5, s3 (m + 1)]
    rcases Nat.lt_or_ge m (S 7 1) with z | z
    · have w := w3 m z
      rw [if_neg (by omega), if_neg (by omega), if_neg (by omega)]
      refine ⟨w.1, w.2.1, w.2.2.1, by omega, fun _ => ?_, fun h => by omega⟩
      by_cases h : m + 1 = S 7 1
      · rw [if_pos h]; have := w.2.2.2.2.2 h; omega
      · rw [if_neg h]; exact w.2.2.2.2.1 (by omega)
    · have e : m = S 7 1 := by omega
      rw [if_pos e, if_pos e, if_pos e]
      exact ⟨by decide, by decide, by decide, by omega, fun h => by omega, fun _ => rfl⟩
  · rw [s3]
    by_cases h : 0 = S 7 1
    · rw [if_pos h]; exact w2.mp h.symm
    · rw [if_neg h]; exact w4 (by omega)
  · rw [e0] at hi
    rw [s0, s1, s2, e1]
    rcases Nat.lt_or_ge i (S 7 0) with z | z
    · have b := w5 i z
      rw [if_neg (by omega), if_neg (by omega), if_neg (by omega), s3, s4, if_neg (by omega), if_neg (by omega)]
      exact ⟨b.1, b.2.1, by omega, b.2.2.2⟩
    · have e : i = S 7 0 := by omega
      rw [if_pos e, if_pos e, if_pos e, s3, s4, if_pos rfl, if_pos rfl]
      exact ⟨hp, Or.inl rfl, by omega, by omega, by omega⟩
theorem wf_putJ {S : sc_S} (hw : sc_wf S) {p : Nat} (hp : p < 128) (hs : S 7 0 < 18) (h0 : S 7 0 ≠ 0) (h3 : S 4 (S 7 1 - 1) ≠ 3) : sc_wf (sc_putJ S p) := by
  have e0 : sc_putJ S p 7 0 = S 7 0 + 1 := rfl
  have e1 : sc_putJ S p 7 1 = S 7 1 := rfl
  have s0 : ∀ b, sc_putJ S p 0 b = if b = S 7 0 then p else S 0 b := fun _ => rfl
  have s1 : ∀ b, sc_putJ S p 1 b = if b = S 7 0 then 35 else S 1 b := fun _ => rfl
  have s2 : ∀ b, sc_putJ S p 2 b = if b = S 7 0 then S 7 1 - 1 else S 2 b := fun _ => rfl
  have s3 : ∀ b, sc_putJ S p 3 b = S 3 b := fun _ => rfl
  have s4 : ∀ b, sc_putJ S p 4 b = if b = S 7 1 - 1 then S 4 b + 1 else S 4 b := fun _ => rfl
  have s5 : ∀ b, sc_putJ S p 5 b = S 5 b := fun _ => rfl
  obtain ⟨w1, w2, w3, w4, w5, w6⟩ := hw
  have hM : 0 < S 7 1 := by omega
  refine ⟨by rw [e0]; omega, by rw [e0, e1]; omega, fun m hm => ?_, fun h => by rw [s3]; exact w4 hM, fun i hi => ?_, w6⟩
  · rw [e1] at hm
    have w := w3 m hm
    rw [e0, e1, s3, s4, s5, s3 (m + 1)]
    by_cases h : m = S 7 1 - 1
    · rw [if_pos h]
      have := w.2.2.2.2.2 (by omega)
      have h3' : S 4 m ≠ 3 := by rw [h]; exact h3
      exact ⟨by omega, by omega, w.2.2.1, by omega, fun h => by omega, fun _ => by omega⟩
    · rw [if_neg h]
      exact ⟨w.1, w.2.1, w.2.2.1, by omega, fun h => w.2.2.2.2.1 h, fun h => by omega⟩
  · rw [e0] at hi
    rw [s0, s1, s2, e1]
    rcases Nat.lt_or_ge i (S 7 0) with z | z
    · have b := w5 i z
      rw [if_neg (by omega), if_neg (by omega), if_neg (by omega), s3, s4]
      refine ⟨b.1, b.2.1, b.2.2.1, b.2.2.2.1, ?_⟩
      split <;> omega
    · have e : i = S 7 0 := by omega
      rw [if_pos e, if_pos e, if_pos e, s3, s4, if_pos rfl]
      have w := w3 (S 7 1 - 1) (by omega)
      have := w.2.2.2.2.2 (by omega)
      exact ⟨hp, Or.inl rfl, by omega, by omega, by omega⟩
noncomputable def an_weights (a b c d e : Int32) : Int32 := cif (inN 21 a ∧ inN 21 b ∧ inN 21 c ∧ inN 21 d ∧ inN 21 e) 1 (-2)
def wts5 (a b c d e : Int32) (j : Nat) : Nat := match j with
  | 0 => a.toNatClampNeg
  | 1 => b.toNatClampNeg
  | 2 => c.toNatClampNeg
  | 3 => d.toNatClampNeg
  | _ => e.toNatClampNeg
noncomputable def st_weights (S : sc_S) (a b c d e : Int32) : sc_S := cif (inN 21 a ∧ inN 21 b ∧ inN 21 c ∧ inN 21 d ∧ inN 21 e) (sc_wts S (wts5 a b c d e)) S
theorem in_cl {n : Nat} {x : Int32} (hn : n < 2 ^ 31) (h : inN n x) : x.toNatClampNeg < n ∧ x = nI x.toNatClampNeg := by
  obtain ⟨j, hj, rfl⟩ := h
  rw [nI_clamp (by omega)]
  exact ⟨hj, rfl⟩
theorem wts5_le {a b c d e : Int32} (h : inN 21 a ∧ inN 21 b ∧ inN 21 c ∧ inN 21 d ∧ inN 21 e) (j : Nat) : wts5 a b c d e j ≤ 20 := by
  have h1 := (in_cl (by decide) h.1).1
  have h2 := (in_cl (by decide) h.2.1).1
  have h3 := (in_cl (by decide) h.2.2.1).1
  have h4 := (in_cl (by decide) h.2.2.2.1).1
  have h5 := (in_cl (by decide) h.2.2.2.2).1
  match j with
  | 0 => exact Nat.le_of_lt_succ h1
  | 1 => exact Nat.le_of_lt_succ h2
  | 2 => exact Nat.le_of_lt_succ h3
  | 3 => exact Nat.le_of_lt_succ h4
  | _ + 4 => exact Nat.le_of_lt_succ h5
theorem wf_weights {S : sc_S} (hw : sc_wf S) (a b c d e : Int32) : sc_wf (st_weights S a b c d e) := by
  unfold st_weights
  by_cases h : inN 21 a ∧ inN 21 b ∧ inN 21 c ∧ inN 21 d ∧ inN 21 e
  · rw [cif_p h]; exact wf_wts hw (fun j _ => wts5_le h j)
  · rw [cif_n h]; exact hw
noncomputable def an_key (S : sc_S) (x k : Int32) : Int32 := cif (inN (S 7 0) x) (cif (inN 16 k) (nI (S 5 (S 2 x.toNatClampNeg))) (-2)) (-1)
noncomputable def st_key (S : sc_S) (x k : Int32) : sc_S := cif (inN (S 7 0) x ∧ inN 16 k) (sc_u S 5 (S 2 x.toNatClampNeg) k.toNatClampNeg) S
theorem wf_stkey {S : sc_S} (hw : sc_wf S) (x k : Int32) : sc_wf (st_key S x k) := by
  unfold st_key
  by_cases h : inN (S 7 0) x ∧ inN 16 k
  · rw [cif_p h]; exact wf_key hw (Nat.le_of_lt_succ (in_cl (by decide) h.2).1)
  · rw [cif_n h]; exact hw
noncomputable def an_fix (S : sc_S) (x n : Int32) : Int32 := cif (inN (S 7 0) x) (cif (okn S x.toNatClampNeg n) (nI (S 1 x.toNatClampNeg)) (-2)) (-1)
noncomputable def st_fix (S : sc_S) (x n : Int32) : sc_S := cif (inN (S 7 0) x ∧ okn S x.toNatClampNeg n) (sc_u S 1 x.toNatClampNeg n.toNatClampNeg) S
theorem okn_cl {S : sc_S} {i : Nat} {n : Int32} (h : okn S i n) : (n.toNatClampNeg = 35 ∨ (n.toNatClampNeg < 35 ∧ n.toNatClampNeg % 12 = sc_low (S 0 i))) ∧ n = nI n.toNatClampNeg := by
  rcases h with e | ⟨m, h1, e, h2⟩
  · rw [e, nI_clamp (by decide)]; exact ⟨Or.inl rfl, rfl⟩
  · rw [e, nI_clamp (by omega)]; exact ⟨Or.inr ⟨h1, h2⟩, rfl⟩
theorem wf_stfix {S : sc_S} (hw : sc_wf S) (x n : Int32) : sc_wf (st_fix S x n) := by
  unfold st_fix
  by_cases h : inN (S 7 0) x ∧ okn S x.toNatClampNeg n
  · rw [cif_p h]; exact wf_fix hw (okn_cl h.2).1
  · rw [cif_n h]; exact hw
/-- no SOUND can be put beside the last -/
def njo (S : sc_S) : Prop := S 7 0 = 0 ∨ S 4 (S 7 1 - 1) = 3
noncomputable def an_pitch (S : sc_S) (x w : Int32) : Int32 := cif (inN 128 x) (cif (¬ w = 0 ∧ njo S) (-3) (cif (S 7 0 = 18) (-4) (nI (S 7 0)))) (-2)
noncomputable def st_pitch (S : sc_S) (x w : Int32) : sc_S := cif (inN 128 x ∧ ¬ (¬ w = 0 ∧ njo S) ∧ ¬ S 7 0 = 18) (cif (w = 0) (sc_putN S x.toNatClampNeg) (sc_putJ S x.toNatClampNeg)) S
theorem wf_stpitch {S : sc_S} (hw : sc_wf S) (x w : Int32) : sc_wf (st_pitch S x w) := by
  unfold st_pitch
  by_cases h : inN 128 x ∧ ¬ (¬ w = 0 ∧ njo S) ∧ ¬ S 7 0 = 18
  · rw [cif_p h]
    have hp := (in_cl (by decide) h.1).1
    have n18 := hw.1
    by_cases hz : w = 0
    · rw [cif_p hz]; exact wf_putN hw hp (by omega)
    · rw [cif_n hz]
      exact wf_putJ hw hp (by omega) (fun q => h.2.1 ⟨hz, Or.inl q⟩) (fun q => h.2.1 ⟨hz, Or.inr q⟩)
  · rw [cif_n h]; exact hw
