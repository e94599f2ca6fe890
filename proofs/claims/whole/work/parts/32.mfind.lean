/-! the model: find -/
def mOut (S : sc_S) (F : Nat → Int32) (A : Nat → Nat → Int32) : Prop := (S 7 1 = 0 ∧ F 11 = 0 ∧ F 12 = 0 ∧ F 13 = 1) ∨ (0 < S 7 1 ∧ ∃ (p : Nat → Nat) (co si ti : Nat), g_Best (fun _ => 405) (mS S) (fun m s => 64 * lC S m s + lG S m s) (fun m a b => 64 * mlk S m a b) (S 7 1 - 1) p ∧ g_pv (fun m s => 64 * lC S m s + lG S m s) (fun m a b => 64 * mlk S m a b) (S 7 1 - 1) p = 64 * co + si ∧ si < 64 ∧ co < 100000 ∧ c_tr 1000000 (c_sum 405 (mcf S (S 7 1 - 1))) = some (co, ti) ∧ F 11 = nI co ∧ F 12 = nI si ∧ F 13 = nI ti ∧ (∀ m, m < S 7 1 → A 19 m = nI (p m / 27)) ∧ ∀ m j, m < S 7 1 → j < S 4 m → A 20 (S 3 m + j) = nI (mname S m (p m % 27) j))
section MF
variable {cI : ClassId} {tv : Nat} {K : q_K} {G : q_G}
/-- the way back -/
theorem m_find_back (hG : q_Cl (F_M_find cI tv K) G) (ad : Nat → Nat) (F : Nat → Int32) (A : Nat → Nat → Int32) {S : sc_S} (hw : sc_wf S) (hR : mR S F A) {fr : Nat → Nat → Nat} {b : Nat} (hM0 : 0 < S 7 1) (hok : g_ok (fun _ => 405) (mS S) (S 7 1 - 1) (g_way fr (S 7 1 - 1) b)) (h18 : ∀ k, 1 ≤ k → k < S 7 1 → ∀ s, s < 405 → mS S k s → A 18 (405 * k + s) = nI (fr k s))
    (hK : ∀ A' : Nat → Nat → Int32, (∀ k, k < 19 → A' k = A k) → (∀ m, m < S 7 1 → A' 19 m = nI (g_way fr (S 7 1 - 1) b m / 27)) → (∀ m j, m < S 7 1 → j < S 4 m → A' 20 (S 3 m + j) = nI (mname S m (g_way fr (S 7 1 - 1) b m % 27) j)) → K none (wM cI ad F A')) :
    ∀ (k : Nat) (x1 : Int32) (A' : Nat → Nat → Int32), k ≤ S 7 1 → (∀ j, j < 19 → A' j = A j) → (0 < k → x1 = nI (g_way fr (S 7 1 - 1) b (k - 1))) → (∀ m, k ≤ m → m < S 7 1 → A' 19 m = nI (g_way fr (S 7 1 - 1) b m / 27)) → (∀ m j, k ≤ m → m < S 7 1 → j < S 4 m → A' 20 (S 3 m + j) = nI (mname S m (g_way fr (S 7 1 - 1) b m % 27) j)) → G 253 [(0, .ref (ad 0)), (1, .int x1), (2, .int (nI k - 1))] [] (wM cI ad F A') 0 0 := by
  have hM := wf_M hw
  intro k
  induction k with
  | zero =>
    intro x1 A' _ h0 _ h19 h20
    exact sg_M_find_253 hG ad F A' x1 (nI 0 - 1) ⟨fun _ => hK A' h0 (fun m hm => h19 m (by omega) hm) (fun m j hm hj => h20 m j (by omega) hm hj), fun c => absurd (by decide) c⟩
  | succ k ih =>
    intro x1 A' hk h0 hx h19 h20
    have ex := hx (by omega)
    rw [show k + 1 - 1 = k from rfl] at ex
    subst ex
    generalize hp : g_way fr (S 7 1 - 1) b = p at hok h19 h20 hx ⊢
    obtain ⟨pk, pok⟩ := hok k (by omega)
    have pk : p k < 405 := pk
    have w := hw.2.2.1 k (by omega)
    have hin : vp_in (nI k) 18 := vp_in_nI (by omega) (by decide)
    have hcl : (nI k).toNatClampNeg = k := nI_clamp (by omega)
    have d27 : nI (p k) / 27 = nI (p k / 27) := pk_div (d := 27) (by omega) (by decide) (by decide)
    have r27 : nI (p k) - nI (p k) / 27 * 27 = nI (p k % 27) := pk_rem (d := 27) (by omega) (by decide) (by decide)
    rw [show nI (k + 1) - 1 = nI k from nI_pred k]
    refine sg_M_find_253 hG ad F A' (nI (p k)) (nI k) ⟨fun c => absurd c (nI_pos (by omega)), fun _ => ⟨hin, ?_⟩⟩
    rw [hcl, d27]
    have inner : ∀ (d j : Nat) (B : Nat → Nat → Int32), j + d = S 4 k → (∀ i, i < 19 → B i = A i) → (∀ m, k ≤ m → m < S 7 1 → B 19 m = nI (p m / 27)) → (∀ m j, k + 1 ≤ m → m < S 7 1 → j < S 4 m → B 20 (S 3 m + j) = nI (mname S m (p m % 27) j)) → (∀ i, i < j → B 20 (S 3 k + i) = nI (mname S k (p k % 27) i)) → G 269 [(0, .ref (ad 0)), (1, .int (nI (p k))), (2, .int (nI k)), (3, .int (nI j))] [] (wM cI ad F B) 0 0 := by
      intro d
      induction d with
      | zero =>
        intro j B hd b0 b19 b20 bj
        refine sg_M_find_269 hG ad F B (nI (p k)) (nI k) (nI j) ⟨hin, fun _ => ?_, fun c => ?_⟩
        · have e18 : 405 * nI k + nI (p k) = nI (405 * k + p k) := by rw [show (405 : Int32) = nI 405 from rfl, pk_mul, nI_add]
          rw [e18, nI_clamp (by omega)]
          refine ⟨vp_in_nI (by omega) (by decide), ?_⟩
          have em : nI k + (-1) = nI k - 1 := by
            refine Int32.toInt_inj.mp ?_
            rcases Nat.eq_zero_or_pos k with z | z
            · rw [z]; rfl
            · obtain ⟨k', rfl⟩ : ∃ k', k = k' + 1 := ⟨k - 1, by omega⟩
              rw [pk_m1, nI_pred]
          rw [em]
          refine ih _ B (by omega) b0 (fun hk0 => ?_) (by rw [hp]; exact b19) (fun m j hm1 hm2 hj => ?_)
          · rw [b0 18 (by decide), h18 k (by omega) (by omega) _ pk pok]
            have := g_way_prev fr (S 7 1 - 1) b (k - 1) (by omega)
            rw [hp, show k - 1 + 1 = k by omega] at this
            rw [hp, this]
          · rw [hp]
            rcases Nat.lt_or_ge k m with z | z
            · exact b20 m j (by omega) hm2 hj
            · have : m = k := by omega
              subst this
              exact bj j (by omega)
        · rw [hcl, b0 5 (by decide), (hR.2.2.2.2 k (by omega)).2.1] at c
          exact absurd (nI_le (by omega) (by omega)) c
      | succ d ihd =>
        intro j B hd b0 b19 b20 bj
        have hRi : mR S F B := mR_of hR (fun i _ => rfl) (fun i hi => b0 i (by omega))
        refine sg_M_find_269 hG ad F B (nI (p k)) (nI k) (nI j) ⟨hin, fun c => ?_, fun _ => ⟨hin, ?_⟩⟩
        · rw [hcl, b0 5 (by decide), (hR.2.2.2.2 k (by omega)).2.1] at c
          have := nge (by omega) (by omega) c
          omega
        · rw [r27, hcl, b0 4 (by decide), (hR.2.2.2.2 k (by omega)).1, nI_add]
          refine m_nameIn ad F B hw hRi (by omega) (by omega) (by omega) ?_
          have hi : S 3 k + j < S 7 0 := by omega
          have n18 := hw.1
          refine sg_M_find_301 hG ad F B (nI (p k)) (nI k) (nI j) _ _ ⟨vp_in_nI (by omega) (by decide), ?_⟩
          rw [nI_clamp (by omega), show nI j + 1 = nI (j + 1) from nI_1 j]
          have hv : mnm S k (p k % 27) j = nI (mname S k (p k % 27) j) := by
            rcases mnm_cases hw (show k < S 7 1 by omega) (show p k % 27 < 27 by omega) (show j < 3 by omega) with ⟨-, ⟨-, z, -⟩ | ⟨z, -⟩⟩ | ⟨z, -⟩
            · exact z
            · exact absurd (show j < S 4 k by omega) z
            · exact absurd (pok.2 j (by omega)) z
          rw [hv]
          refine ihd (j + 1) _ (by omega) (fun i hi2 => by rw [q_ua_ne (by omega)]; exact b0 i hi2) (fun m h1 h2 => ?_) (fun m i h1 h2 h3 => ?_) (fun i hi2 => ?_)
          · exact b19 m h1 h2
          · show upd (B 20) (S 3 k + j) _ (S 3 m + i) = _
            have mono : ∀ e, k + 1 + e < S 7 1 → S 3 k + S 4 k ≤ S 3 (k + 1 + e) := by
              intro e
              induction e with
              | zero =>
                intro he
                have := w.2.2.2.2.1 (by omega)
                rw [show k + 1 + 0 = k + 1 from rfl, this]
                exact Nat.le_refl _
              | succ e ihe =>
                intro he
                have a1 := ihe (by omega)
                have a2 := (hw.2.2.1 (k + 1 + e) (by omega)).2.2.2.2.1 (by omega)
                rw [show k + 1 + (e + 1) = k + 1 + e + 1 by omega, a2]
                omega
            have := mono (m - (k + 1)) (by omega)
            rw [show k + 1 + (m - (k + 1)) = m by omega] at this
            rw [pk_un (by omega)]
            exact b20 m i h1 h2 h3
          · show upd (B 20) (S 3 k + j) _ (S 3 k + i) = _
            rcases Nat.lt_or_ge i j with z | z
            · rw [pk_un (by omega)]; exact bj i z
            · rw [show i = j by omega, upd_s]
    refine inner (S 4 k) 0 _ (by omega) (fun i hi => by rw [q_ua_ne (by omega)]; exact h0 i hi) (fun m h1 h2 => ?_) (fun m j h1 h2 h3 => ?_) (fun i hi => absurd hi (Nat.not_lt_zero i))
    · show upd (A' 19) k _ m = _
      rcases Nat.lt_or_ge k m with z | z
      · rw [pk_un (by omega)]
        exact h19 m (by omega) h2
      · rw [show m = k by omega, upd_s]
    · exact h20 m j (by omega) h2 h3
/-- how many have the least COST -/
theorem m_find_many (hG : q_Cl (F_M_find cI tv K) G) (ad : Nat → Nat) (F : Nat → Int32) (A : Nat → Nat → Int32) {S : sc_S} {l : Nat} {c n : Nat → Nat} {cf : Nat → c_T} (x1 : Int32) {co : Nat} (hco : co < 100000) (h11 : F 11 = nI co) (hE : ∀ s, s < 405 → (mS S l s → A 10 s = nI (c s) ∧ A 13 s = nI (n s)) ∧ (¬ mS S l s → A 10 s = -1)) (hb : ∀ s, s < 405 → mS S l s → c s < 100000 ∧ co ≤ c s ∧ c_tr 1000000 (cf s) = some (c s, n s)) (hn : ∀ s, s < 405 → ¬ mS S l s → cf s = none) (hex : ∃ s, s < 405 ∧ mS S l s ∧ c s = co)
    (hE2 : ∀ (F' : Nat → Int32) (ti : Nat), (∀ j, j ≠ 13 → F' j = F j) → F' 13 = nI ti → c_tr 1000000 (c_sum 405 cf) = some (co, ti) → G 253 [(0, .ref (ad 0)), (1, .int x1), (2, .int (F 2 - 1))] [] (wM cI ad F' A) 0 0) :
    ∀ (d s : Nat) (F' : Nat → Int32), s + d = 405 → (∀ j, j ≠ 13 → F' j = F j) → ((∃ w, F' 13 = nI w ∧ c_tr 1000000 (c_sum s cf) = some (co, w)) ∨ (F' 13 = 0 ∧ (∀ t, t < s → mS S l t → co < c t) ∧ (c_tr 1000000 (c_sum s cf) = none ∨ ∃ x w, c_tr 1000000 (c_sum s cf) = some (x, w) ∧ co < x))) → G 195 [(0, .ref (ad 0)), (1, .int x1), (2, .int (nI s))] [] (wM cI ad F' A) 0 0 := by
  intro d
  induction d with
  | zero =>
    intro s F' hd hF hI
    have : s = 405 := by omega
    subst this
    refine sg_M_find_195 hG ad F' A x1 (nI 405) ⟨fun _ => ?_, fun c => absurd (show nI 405 ≤ nI 405 from nI_le (Nat.le_refl _) (by decide)) c⟩
    rw [hF 2 (by decide)]
    rcases hI with ⟨w, h1, h2⟩ | ⟨-, h2, -⟩
    · exact hE2 F' w hF h1 h2
    · obtain ⟨t, t1, t2, t3⟩ := hex
      have := h2 t t1 t2
      omega
  | succ d ih =>
    intro s F' hd hF hI
    have hs : s < 405 := by omega
    have hin : vp_in (nI s) 405 := vp_in_nI hs (by decide)
    have hcl : (nI s).toNatClampNeg = s := nI_clamp (by omega)
    have eqs : c_sum (s + 1) cf = c_add (c_sum s cf) (cf s) := rfl
    refine sg_M_find_195 hG ad F' A x1 (nI s) ⟨fun cc => absurd (nge (by decide) (by omega) (show nI 405 ≤ nI s from cc)) (by omega), fun _ => ⟨hin, ?_⟩⟩
    rw [hcl, hF 11 (by decide), h11, show nI s + 1 = nI (s + 1) from nI_1 s]
    have nof : ∀ v : Int32, (∀ j, j ≠ 13 → q_uf F' 13 v j = F j) := fun v j hj => by rw [q_uf_ne hj]; exact hF j hj
    by_cases hok : mS S l s
    · obtain ⟨a10, a13⟩ := (hE s hs).1 hok
      obtain ⟨b1, b2, b3⟩ := hb s hs hok
      have hns : n s ≤ 1000000 := c_tr_le b3
      rw [a10, a13]
      refine ⟨fun cc => ?_, fun cc => ⟨hin, ?_⟩⟩
      · have hne := nne (by omega) (by omega) cc
        refine ih (s + 1) _ (by omega) (nof _) ?_
        show (∃ w, F' 13 = nI w ∧ _) ∨ (F' 13 = 0 ∧ _ ∧ _)
        rcases hI with ⟨w, h1, h2⟩ | ⟨h1, h2, h3⟩
        · refine Or.inl ⟨w, h1, ?_⟩
          rw [eqs, c_tr_some h2 b3, if_pos (by omega)]
        · refine Or.inr ⟨h1, fun t ht hok2 => ?_, Or.inr ?_⟩
          · rcases Nat.lt_or_ge t s with z | z
            · exact h2 t z hok2
            · rw [show t = s by omega]; omega
          · rcases h3 with h3 | ⟨x, w, h3, h4⟩
            · have e0 : c_sum s cf = none := by
                cases h : c_sum s cf with
                | none => rfl
                | some y => rw [h] at h3; cases h3
              exact ⟨c s, n s, by rw [eqs, c_tr_none e0]; exact b3, by omega⟩
            · rw [eqs, c_tr_some h3 b3]
              by_cases k1 : x < c s
              · exact ⟨x, w, by rw [if_pos k1], h4⟩
              · by_cases k2 : c s < x
                · exact ⟨c s, n s, by rw [if_neg k1, if_pos k2], by omega⟩
                · exact ⟨x, _, by rw [if_neg k1, if_neg k2], h4⟩
      · have heq := neq (by omega) (by omega) cc
        refine ih (s + 1) _ (by omega) (nof _) (Or.inl ?_)
        show ∃ w, jf_M_most (F' 13 + nI (n s)) = nI w ∧ _
        rcases hI with ⟨w, h1, h2⟩ | ⟨h1, h2, h3⟩
        · have hwl := c_tr_le h2
          refine ⟨min 1000000 (w + n s), by rw [h1, nI_add, m_most (by omega)], ?_⟩
          rw [eqs, c_tr_some h2 b3, if_neg (by omega), if_neg (by omega)]
        · refine ⟨n s, ?_, ?_⟩
          · rw [h1, show (0 : Int32) = nI 0 from rfl, nI_add, m_most (by omega), Nat.zero_add, Nat.min_eq_right hns]
          · rcases h3 with h3 | ⟨x, w, h3, h4⟩
            · have e0 : c_sum s cf = none := by
                cases h : c_sum s cf with
                | none => rfl
                | some y => rw [h] at h3; cases h3
              rw [eqs, c_tr_none e0, b3, heq]
            · rw [eqs, c_tr_some h3 b3, if_neg (by omega), if_pos (by omega), heq]
    · rw [(hE s hs).2 hok]
      have e0 : c_sum (s + 1) cf = c_sum s cf := by rw [eqs, hn s hs hok, c_add_none]
      refine ⟨fun _ => ?_, fun cc => ?_⟩
      · refine ih (s + 1) _ (by omega) (nof _) ?_
        show (∃ w, F' 13 = nI w ∧ _) ∨ (F' 13 = 0 ∧ _ ∧ _)
        rw [e0]
        rcases hI with h | ⟨h1, h2, h3⟩
        · exact Or.inl h
        · refine Or.inr ⟨h1, fun t ht hok2 => ?_, h3⟩
          rcases Nat.lt_or_ge t s with z | z
          · exact h2 t z hok2
          · rw [show t = s by omega] at hok2; exact absurd hok2 hok
      · have := congrArg Int32.toInt cc
        rw [nI_toInt (by omega), show (-1 : Int32).toInt = -1 from rfl] at this
        omega
end MF
