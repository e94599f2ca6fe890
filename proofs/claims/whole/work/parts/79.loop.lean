/-! the law: every run of calls -/
theorem L_lt {L k : Nat} (hL : L ≤ 3072) (hk : k ≤ 3072) : (Int32.ofNat L - 6 < nI k) ↔ L < k + 6 := by
  rw [show Int32.ofNat L = nI L from rfl, iI_nat, iI_nat, show (6 : Int32) = iI 6 from rfl, iI_sub, iI_ltI (by omega) (by omega) (by omega) (by omega)]
  omega
theorem L_vp {L j t : Nat} (hL : L ≤ 3072) (h : 6 * j + t < L) : vp_in (nI (6 * j) + nI t) L := by
  rw [nI_add]
  exact vp_in_nI h (by omega)
theorem L_loop {cI cL : ClassId} {tv b L : Nat} {xs : Nat → Int32} {K : q_K} {G : q_G} (hG : q_Cl (F_L_law cI cL tv b L xs K) G) (hL : L ≤ 3072) (hK : ∀ w, K (some (.int 1)) w) : ∀ (d j : Nat), j + d = 512 → 6 * j ≤ L → ∀ (ad : Nat → Nat) (F : Nat → Int32) (A : Nat → Nat → Int32) (am : Nat → Nat) (Fm : Nat → Int32) (Am : Nat → Nat → Int32) (o : Nat) (f : Nat → Int64) (nc ns : Nat) (S : sc_S), sc_wf S → xI S F A → mI S Fm Am → nc ≤ 46 + j → ns ≤ 15837 + 6 * j → G 23 [(0, .ref b), (1, .ref (ad 0)), (2, .ref (am 0)), (3, .ref o), (4, .int (nI (6 * j)))] [] (wL cI cL ad F A am Fm Am o f) nc ns := by
  intro d
  induction d with
  | zero =>
    intro j hj h6 ad F A am Fm Am o f nc ns S hw hx hm hc hs
    have hlt : Int32.ofNat L - 6 < nI (6 * j) := (L_lt hL (by omega)).mpr (by omega)
    exact L_head hG ad F A am Fm Am o f _ nc ns (fun _ => L_end hG ad F A am Fm Am o f _ nc ns (by omega) (by omega) hK) (fun h => absurd hlt h) (fun h => absurd hlt h)
  | succ d ih =>
    intro j hj h6 ad F A am Fm Am o f nc ns S hw hx hm hc hs
    have hin : ¬ Int32.ofNat L - 6 < nI (6 * j) → 6 * j + 6 ≤ L := fun h => Nat.not_lt.mp (fun q => h ((L_lt hL (by omega)).mpr q))
    refine L_head hG ad F A am Fm Am o f _ nc ns (fun _ => L_end hG ad F A am Fm Am o f _ nc ns (by omega) (by omega) hK) (fun h => vp_in_nI (by have := hin h; omega) (by omega)) (fun h t ht => ?_)
    have h66 := hin h
    have v1 : vp_in (nI (6 * j) + 1) L := L_vp (t := 1) hL (by omega)
    have v2 : vp_in (nI (6 * j) + 2) L := L_vp (t := 2) hL (by omega)
    have v3 : vp_in (nI (6 * j) + 3) L := L_vp (t := 3) hL (by omega)
    have v4 : vp_in (nI (6 * j) + 4) L := L_vp (t := 4) hL (by omega)
    have v5 : vp_in (nI (6 * j) + 5) L := L_vp (t := 5) hL (by omega)
    have e6 : nI (6 * j) + 6 = nI (6 * (j + 1)) := by
      rw [show (6 : Int32) = nI 6 from rfl, nI_add]
      rfl
    have go : ∀ (f' : Nat → Int64) (nc' ns' : Nat), nc' ≤ nc + 1 → ns' ≤ ns + 6 → ∀ (S' : sc_S) (F' : Nat → Int32) (A' : Nat → Nat → Int32) (Fm' : Nat → Int32) (Am' : Nat → Nat → Int32), sc_wf S' → xI S' F' A' → mI S' Fm' Am' → G 851 [(0, .ref b), (1, .ref (ad 0)), (2, .ref (am 0)), (3, .ref o), (4, .int (nI (6 * j)))] [] (wL cI cL ad F' A' am Fm' Am' o f') nc' ns' := by
      intro f' nc' ns' h1 h2 S' F' A' Fm' Am' h3 h4 h5
      refine L_next hG ad F' A' am Fm' Am' o f' _ nc' ns' ?_
      rw [e6]
      exact ih (j + 1) (by omega) (by omega) ad F' A' am Fm' Am' o f' nc' ns' S' h3 h4 h5 (by omega) (by omega)
    have nx := go f nc ns (by omega) (by omega)
    have hnc : nc ≤ 1071 := by omega
    have hns : ns ≤ 24035 := by omega
    simp only [lcPcs, List.mem_cons, List.not_mem_nil, or_false] at ht
    rcases ht with rfl | rfl | rfl | rfl | rfl | rfl | rfl | rfl | rfl | rfl | rfl | rfl | rfl | rfl | rfl | rfl | rfl | rfl | rfl | rfl | rfl
    · exact lc_pitch hG ad F A am Fm Am o f _ nc ns hnc hns hw hx hm v1 v2 nx
    · exact lc_key hG ad F A am Fm Am o f _ nc ns hnc hns hw hx hm v1 v2 nx
    · exact lc_fix hG ad F A am Fm Am o f _ nc ns hnc hns hw hx hm v1 v2 nx
    · exact lc_weights hG ad F A am Fm Am o f _ nc ns hnc hns hw hx hm v1 v2 v3 v4 v5 nx
    · exact lc_clear hG ad F A am Fm Am o f _ nc ns hnc hns hw hx hm nx
    · exact lc_sum hG ad F A am Fm Am o f _ nc ns hnc hns hw hx hm nx
    · exact lc_signs hG ad F A am Fm Am o f _ nc ns hnc hns hw hx hm nx
    · exact lc_ties hG ad F A am Fm Am o f _ nc ns hnc hns hw hx hm nx
    · exact lc_name hG ad F A am Fm Am o f _ nc ns hnc hns hw hx hm v1 v2 nx
    · exact lc_keyOf hG ad F A am Fm Am o f _ nc ns hnc hns hw hx hm v1 nx
    · exact lc_turned hG ad F A am Fm Am o f _ nc ns hnc hns hw hx hm nx
    · exact lc_turn hG ad F A am Fm Am o f _ nc ns hnc hns hw hx hm v1 nx
    · exact lc_interval hG ad F A am Fm Am o f _ nc ns hnc hns hw hx hm v1 v2 v3 nx
    · exact lc_quality hG ad F A am Fm Am o f _ nc ns hnc hns hw hx hm v1 v2 nx
    · exact lc_add hG ad F A am Fm Am o f _ nc ns hnc hns hw hx hm v1 v2 nx
    · exact lc_transpose hG ad F A am Fm Am o f _ nc ns hnc hns hw hx hm v1 v2 v3 nx
    · exact lc_micro hG ad F A am Fm Am o f _ nc ns hnc hns hw hx hm v1 v2 v3 nx
    · exact lc_step hG ad F A am Fm Am o f _ nc ns (by omega) (by omega) hw hx hm v1 v2 (fun f' Fm' Am' hm' => go f' (nc + 1) (ns + 6) (Nat.le_refl _) (Nat.le_refl _) S F A Fm' Am' hw hx hm')
    · exact lc_equal hG ad F A am Fm Am o f _ nc ns hnc hns hw hx hm v1 v2 nx
    · exact lc_scale hG ad F A am Fm Am o f _ nc ns hnc hns hw hx hm v1 v2 nx
    · exact nx S F A Fm Am hw hx hm
