/-! the model: the first layer -/
theorem q_beq_ne {k j : Nat} (h : k ≠ j) : Nat.beq k j = false := Bool.eq_false_iff.mpr (fun e => h (Nat.eq_of_beq_eq_true e))
theorem q_ua_ne {A : Nat → Nat → Int32} {j k : Nat} {f : Nat → Int32} (h : k ≠ j) : q_ua A j f k = A k := by
  show cond (Nat.beq k j) f (A k) = A k
  rw [q_beq_ne h]; rfl
theorem q_uf_ne {F : Nat → Int32} {j k : Nat} {v : Int32} (h : k ≠ j) : q_uf F j v k = F k := by
  show cond (Nat.beq k j) v (F k) = F k
  rw [q_beq_ne h]; rfl
def mS (S : sc_S) (m s : Nat) : Prop := mok S m (s / 27) (s % 27)
def lC (S : sc_S) (m s : Nat) : Nat := mc_p S m (s / 27) (s % 27) 3
def lG (S : sc_S) (m s : Nat) : Nat := mg_p S m (s % 27) 3
def mlk (S : sc_S) (m a b : Nat) : Nat := S 6 4 * sc_kd (a / 27) (b / 27) + stpA S m (a % 27) (b % 27)
def mEnt (S : sc_S) (m : Nat) (c g r n : Nat → Nat) (A : Nat → Nat → Int32) (s : Nat) : Prop := (mS S m s → A 10 s = nI (c s) ∧ A 11 s = nI (g s) ∧ A 12 s = nI (r s) ∧ A 13 s = nI (n s)) ∧ (¬ mS S m s → A 10 s = -1)
def mNms (S : sc_S) (m : Nat) (f : Nat → Int32) : Prop := ∀ row p, row < 27 → p < 3 → f (3 * row + p) = mnm S m row p
/-- the fields that find's helpers leave -/
def mFF (F F' : Nat → Int32) : Prop := ∀ j, j ≠ 8 → j ≠ 9 → F' j = F j
theorem mR_of {S : sc_S} {F F' : Nat → Int32} {A A' : Nat → Nat → Int32} (h : mR S F A) (hF : ∀ j, j < 8 → F' j = F j) (hA : ∀ k, k ≤ 6 → A' k = A k) : mR S F' A' := by
  obtain ⟨h1, h2, h3, h4, h5⟩ := h
  refine ⟨by rw [hF 1 (by decide)]; exact h1, by rw [hF 2 (by decide)]; exact h2, fun j hj => by rw [hF (3 + j) (by omega)]; exact h3 j hj, fun i hi => ?_, fun m hm => ?_⟩
  · rw [hA 1 (by decide), hA 2 (by decide), hA 3 (by decide)]; exact h4 i hi
  · rw [hA 4 (by decide), hA 5 (by decide), hA 6 (by decide)]; exact h5 m hm
section MB
variable {cI : ClassId} {tv : Nat} {K : q_K} {G : q_G}
theorem m_begin (ad : Nat → Nat) (F : Nat → Int32) (A : Nat → Nat → Int32) {S : sc_S} (hw : sc_wf S) (hR : mR S F A) (hm : 0 < S 7 1)
    (hK : ∀ (F' : Nat → Int32) (A' : Nat → Nat → Int32), mFF F F' → (∀ k, k ≠ 7 → (k < 10 ∨ 13 < k) → A' k = A k) → mNms S 0 (A' 7) → (∀ s, s < 405 → mEnt S 0 (lC S 0) (lG S 0) (fun s => s) (fun _ => 1) A' s) → K none (wM cI ad F' A')) :
    T_M_begin cI tv [.ref (ad 0)] (wM cI ad F A) K := by
  refine ⟨q_le0 _ _ rfl, fun G hG => ?_⟩
  refine sg_M_begin_0 hG ad F A ?_
  refine m_findNames (m := 0) ad F A hw hR hm (fun f hf => ?_)
  refine sg_M_begin_5 hG ad F _ ?_
  have loop : ∀ (d s : Nat) (F' : Nat → Int32) (A' : Nat → Nat → Int32), s + d = 405 → mFF F F' → (∀ k, k ≠ 7 → (k < 10 ∨ 13 < k) → A' k = A k) → A' 7 = f → (∀ t, t < s → mEnt S 0 (lC S 0) (lG S 0) (fun s => s) (fun _ => 1) A' t) → G 7 [(0, .ref (ad 0)), (1, .int (nI s))] [] (wM cI ad F' A') 0 0 := by
    intro d
    induction d with
    | zero =>
      intro s F' A' hd hF hA h7 hE
      exact sg_M_begin_7 hG ad F' A' (nI s) ⟨fun _ => hK F' A' hF hA (by rw [h7]; exact hf) (fun t ht => hE t (by omega)), fun c => absurd (show nI 405 ≤ nI s from nI_le (by omega) (by omega)) c⟩
    | succ d ih =>
      intro s F' A' hd hF hA h7 hE
      have hs : s < 405 := by omega
      have d27 : nI s / 27 = nI (s / 27) := pk_div (d := 27) (by omega) (by decide) (by decide)
      have r27 : nI s - nI s / 27 * 27 = nI (s % 27) := pk_rem (d := 27) (by omega) (by decide) (by decide)
      have hRi : mR S F' A' := mR_of hR (fun j hj => hF j (by omega) (by omega)) (fun k hk => hA k (by omega) (by omega))
      have hin : vp_in (nI s) 405 := vp_in_nI hs (by decide)
      have hcl : (nI s).toNatClampNeg = s := nI_clamp (by omega)
      refine sg_M_begin_7 hG ad F' A' (nI s) ⟨fun c => absurd (nge (by decide) (by omega) (show nI 405 ≤ nI s from c)) (by omega), fun _ => ?_⟩
      rw [d27, ← d27, r27, d27]
      -- what is written for s
      have fin : ∀ (a b x : Int32), (mS S 0 s → x = nI (lC S 0 s) ∧ b = nI (lG S 0 s)) → (¬ mS S 0 s → x = -1) → G 56 [(0, .ref (ad 0)), (1, .int (nI s))] [] (wM cI ad (q_uf (q_uf F' 8 a) 9 b) (q_ua (q_ua A' 10 (upd (A' 10) (nI s).toNatClampNeg x)) 11 (upd (A' 11) (nI s).toNatClampNeg b))) 0 0 := by
        intro a b x hx hx2
        refine sg_M_begin_56 hG ad _ _ (nI s) ⟨hin, hin, ?_⟩
        refine sg_M_begin_70 hG ad _ _ (nI s) ?_
        rw [hcl, show nI s + 1 = nI (s + 1) from nI_1 s]
        refine ih (s + 1) _ _ (by omega) (fun j h8 h9 => ?_) (fun k hk hk2 => ?_) ?_ (fun t ht => ?_)
        · rw [q_uf_ne h9, q_uf_ne h8]; exact hF j h8 h9
        · rw [q_ua_ne (by omega), q_ua_ne (by omega), q_ua_ne (by omega), q_ua_ne (by omega)]; exact hA k hk hk2
        · exact h7
        · show (mS S 0 t → upd (A' 10) s x t = _ ∧ upd (A' 11) s b t = _ ∧ upd (A' 12) s (nI s) t = _ ∧ upd (A' 13) s 1 t = _) ∧ (¬ mS S 0 t → upd (A' 10) s x t = -1)
          rcases Nat.lt_or_ge t s with z | z
          · rw [pk_un (by omega), pk_un (by omega), pk_un (by omega), pk_un (by omega)]
            exact hE t z
          · have : t = s := by omega
            subst this
            rw [upd_s, upd_s, upd_s, upd_s]
            exact ⟨fun q => ⟨(hx q).1, (hx q).2, rfl, rfl⟩, hx2⟩
      refine m_judge (m := 0) (k := s / 27) (row := s % 27) ad F' A' hw hRi hm (by omega) (by omega) (fun p hp => by rw [h7]; exact hf _ _ (by omega) hp) (fun q => ?_) (fun q a b => ?_)
      · refine sg_M_begin_27 hG ad _ _ (nI s) 1 ⟨fun c => absurd c (by decide), fun _ => ⟨hin, hin, ?_⟩⟩
        exact fin _ _ _ (fun _ => ⟨rfl, rfl⟩) (fun z => absurd q z)
      · refine sg_M_begin_27 hG ad _ _ (nI s) 0 ⟨fun _ => ⟨hin, hin, ?_⟩, fun c => absurd rfl c⟩
        exact fin _ _ _ (fun z => absurd z q) (fun _ => rfl)
  exact loop 405 0 F (q_ua A 7 f) rfl (fun j _ _ => rfl) (fun k hk _ => q_ua_ne hk) rfl (fun t ht => absurd ht (Nat.not_lt_zero t))
end MB
