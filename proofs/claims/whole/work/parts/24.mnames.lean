/-! the model: names of a row -/
theorem nlit (k : Nat) : nI k = Int32.ofNat k := rfl
theorem nge {a b : Nat} (ha : a < 2 ^ 31) (hb : b < 2 ^ 31) (h : nI a ≤ nI b) : a ≤ b := (nI_leI ha hb).mp h
theorem nng {a b : Nat} (ha : a < 2 ^ 31) (hb : b < 2 ^ 31) (h : ¬ nI a ≤ nI b) : b < a := Nat.lt_of_not_le (fun q => h ((nI_leI ha hb).mpr q))
theorem nlt' {a b : Nat} (ha : a < 2 ^ 31) (hb : b < 2 ^ 31) (h : nI a < nI b) : a < b := (nI_ltI ha hb).mp h
theorem nnl {a b : Nat} (ha : a < 2 ^ 31) (hb : b < 2 ^ 31) (h : ¬ nI a < nI b) : b ≤ a := Nat.le_of_not_lt (fun q => h ((nI_ltI ha hb).mpr q))
theorem neq {a b : Nat} (ha : a < 2 ^ 31) (hb : b < 2 ^ 31) (h : nI a = nI b) : a = b := (nI_eq ha hb).mp h
theorem nne {a b : Nat} (ha : a < 2 ^ 31) (hb : b < 2 ^ 31) (h : ¬ nI a = nI b) : a ≠ b := fun q => h (by rw [q])
def mn_loop (lo t : Nat) : Nat → Nat → Nat → Option Nat
  | 0, _, _ => none
  | f + 1, n, k => if n % 12 = lo ∧ (t = 35 ∨ t = n) then (if k = 0 then some n else mn_loop lo t f (n + 1) (k - 1)) else mn_loop lo t f (n + 1) k
def sc_kth (lo t k : Nat) : Option Nat := if t = 35 then (if lo + 12 * k ≤ 34 then some (lo + 12 * k) else none) else (if k = 0 then some t else none)
theorem mn_kth : ∀ lo, lo < 12 → ∀ t, t < 36 → (t = 35 ∨ t % 12 = lo) → ∀ k, k < 3 → mn_loop lo t 35 0 k = sc_kth lo t k := by decide +kernel
def oI (o : Option Nat) : Int32 := match o with
  | some n => nI n
  | none => -1
theorem m_nameIn_loop {cI : ClassId} {tv : Nat} {K : q_K} {G : q_G} (hG : q_Cl (F_M_nameIn cI tv K) G) (ad : Nat → Nat) (F : Nat → Int32) (A : Nat → Nat → Int32) {i p t : Nat} (hi : i < 18) (hp : p < 128) (ht : t < 36) (h1 : A 1 i = nI p) (h3 : A 3 i = nI t) :
    ∀ (f n k : Nat), n + f = 35 → k < 3 → K (some (.int (oI (mn_loop (sc_low p) t f n k)))) (wM cI ad F A) → G 64 [(0, .ref (ad 0)), (4, .int (nI k)), (5, .int (nI i)), (6, .int (nI n))] [] (wM cI ad F A) 0 0 := by
  have hic : (nI i).toNatClampNeg = i := nI_clamp (by omega)
  have hin : vp_in (nI i) 18 := vp_in_nI hi (by decide)
  intro f
  induction f with
  | zero =>
    intro n k hn hk hK
    refine sg_M_nameIn_64 hG ad F A (nI k) (nI i) (nI n) ⟨fun _ => hK, fun c => absurd (show nI 35 ≤ nI n from nI_le (by omega) (by omega)) c⟩
  | succ f ih =>
    intro n k hn hk hK
    have next : (mn_loop (sc_low p) t (f + 1) n k = mn_loop (sc_low p) t f (n + 1) k) → G 121 [(0, .ref (ad 0)), (4, .int (nI k)), (5, .int (nI i)), (6, .int (nI n))] [] (wM cI ad F A) 0 0 := by
      intro e
      refine sg_M_nameIn_121 hG ad F A (nI k) (nI i) (nI n) ?_
      rw [show nI n + 1 = nI (n + 1) from nI_1 n]
      exact ih (n + 1) k (by omega) hk (by rw [e] at hK; exact hK)
    have take : (n % 12 = sc_low p ∧ (t = 35 ∨ t = n)) → G 110 [(0, .ref (ad 0)), (4, .int (nI k)), (5, .int (nI i)), (6, .int (nI n))] [] (wM cI ad F A) 0 0 := by
      intro hc
      have e : mn_loop (sc_low p) t (f + 1) n k = if k = 0 then some n else mn_loop (sc_low p) t f (n + 1) (k - 1) := by
        show (if n % 12 = sc_low p ∧ (t = 35 ∨ t = n) then _ else _) = _
        rw [if_pos hc]
      refine sg_M_nameIn_110 hG ad F A (nI k) (nI i) (nI n) ⟨fun c => ?_, fun c => ?_⟩
      · have hk0 : k ≠ 0 := fun q => c (by rw [q]; rfl)
        rw [if_neg hk0] at e
        refine sg_M_nameIn_121 hG ad F A (nI k + (-1)) (nI i) (nI n) ?_
        obtain ⟨k', rfl⟩ : ∃ k', k = k' + 1 := ⟨k - 1, by omega⟩
        rw [pk_m1, show nI n + 1 = nI (n + 1) from nI_1 n]
        exact ih (n + 1) k' (by omega) (by omega) (by rw [e] at hK; exact hK)
      · have hk0 : k = 0 := neq (by omega) (by decide) (show nI k = nI 0 from c)
        rw [if_pos hk0] at e
        rw [e] at hK
        exact hK
    refine sg_M_nameIn_64 hG ad F A (nI k) (nI i) (nI n) ⟨fun c => absurd (nge (by decide) (by omega) (show nI 35 ≤ nI n from c)) (by omega), fun _ => ⟨hin, ?_⟩⟩
    rw [hic, h1, h3, sm_sounds n (by omega) p hp]
    have skip : ¬ (n % 12 = sc_low p ∧ (t = 35 ∨ t = n)) → mn_loop (sc_low p) t (f + 1) n k = mn_loop (sc_low p) t f (n + 1) k := by
      intro hc
      show (if n % 12 = sc_low p ∧ (t = 35 ∨ t = n) then _ else _) = _
      rw [if_neg hc]
    refine ⟨fun c => ?_, fun c => ⟨hin, fun c2 => ?_, fun c2 => ⟨hin, fun c3 => ?_, fun c3 => ?_⟩⟩⟩
    · refine next (skip (fun q => ?_))
      rw [if_pos q.1] at c
      exact absurd c (by decide)
    · refine take ⟨Decidable.byContradiction (fun q => c (by rw [if_neg q])), Or.inl (neq (by omega) (by decide) (show nI t = nI 35 from c2))⟩
    · refine next (skip (fun q => ?_))
      rcases q.2 with q2 | q2
      · exact c2 (by rw [q2]; rfl)
      · exact c3 (by rw [q2])
    · exact take ⟨Decidable.byContradiction (fun q => c (by rw [if_neg q])), Or.inr (neq (by omega) (by omega) c3)⟩
def mR (S : sc_S) (F : Nat → Int32) (A : Nat → Nat → Int32) : Prop := F 1 = nI (S 7 0) ∧ F 2 = nI (S 7 1) ∧ (∀ j, j < 5 → F (3 + j) = nI (S 6 j)) ∧ (∀ i, i < S 7 0 → A 1 i = nI (S 0 i) ∧ A 2 i = nI (S 2 i) ∧ A 3 i = nI (S 1 i)) ∧ ∀ m, m < S 7 1 → A 4 m = nI (S 3 m) ∧ A 5 m = nI (S 4 m) ∧ A 6 m = nI (S 5 m)
/-- sums of a well formed score -/
theorem wf_M {S : sc_S} (hw : sc_wf S) : S 7 1 ≤ 18 := by
  obtain ⟨h0, h1, h2, h3, -⟩ := hw
  rcases Nat.eq_zero_or_pos (S 7 1) with e | e
  · omega
  · have key : ∀ k, k < S 7 1 → k ≤ S 3 k := by
      intro k
      induction k with
      | zero => intro _; omega
      | succ k ih =>
        intro hk
        have a := h2 k (by omega)
        have := a.2.2.2.2.1 hk
        have := ih (by omega)
        omega
    have a := h2 (S 7 1 - 1) (by omega)
    have b := key (S 7 1 - 1) (by omega)
    omega
def mdig (row place : Nat) : Nat := match place with
  | 0 => row / 9
  | 1 => row / 3 % 3
  | _ => row % 3
theorem mdig_lt {row place : Nat} (h : row < 27) (hp : place < 3) : mdig row place < 3 := by
  match place, hp with
  | 0, _ => show row / 9 < 3; omega
  | 1, _ => show row / 3 % 3 < 3; omega
  | 2, _ => show row % 3 < 3; omega
def mnm (S : sc_S) (m row place : Nat) : Int32 := if place < S 4 m then oI (sc_kth (sc_low (S 0 (S 3 m + place))) (S 1 (S 3 m + place)) (mdig row place)) else if mdig row place = 0 then 100 else -1
theorem sc_low_lt (p : Nat) : sc_low p < 12 := Nat.mod_lt _ (by decide)
theorem m_nameIn_mid {cI : ClassId} {tv : Nat} {K : q_K} {G : q_G} (hG : q_Cl (F_M_nameIn cI tv K) G) (ad : Nat → Nat) (F : Nat → Int32) (A : Nat → Nat → Int32) {S : sc_S} (hw : sc_wf S) (hR : mR S F A) {m row place : Nat} (hm : m < S 7 1) (hr : row < 27) (hp : place < 3) (hK : K (some (.int (mnm S m row place))) (wM cI ad F A)) {kk : Int32} (hkk : kk = nI (mdig row place)) :
    vp_in (nI m) 18 ∧ ((nI place < ((A 5) (nI m).toNatClampNeg) → (vp_in (nI m) 18 ∧ G 64 [(0, .ref (ad 0)), (4, .int kk), (5, .int (((A 4) (nI m).toNatClampNeg) + nI place)), (6, .int 0)] [] (wM cI ad F A) 0 0)) ∧ (¬ nI place < ((A 5) (nI m).toNatClampNeg) → ((¬ kk = 0 → K (some (.int (-1))) (wM cI ad F A)) ∧ (kk = 0 → K (some (.int 100)) (wM cI ad F A))))) := by
  have hM := wf_M hw
  have hmc : (nI m).toNatClampNeg = m := nI_clamp (by omega)
  have hin : vp_in (nI m) 18 := vp_in_nI (by omega) (by decide)
  have hd := mdig_lt hr hp
  obtain ⟨r4, r5, r6⟩ := hR.2.2.2.2 m hm
  have w := hw.2.2.1 m hm
  rw [hmc, r4, r5, hkk]
  refine ⟨hin, fun c => ⟨hin, ?_⟩, fun c => ⟨fun c2 => ?_, fun c2 => ?_⟩⟩
  · have hps : place < S 4 m := nlt' (by omega) (by omega) c
    have hi : S 3 m + place < S 7 0 := by omega
    obtain ⟨a1, a2, a3⟩ := hR.2.2.2.1 _ hi
    obtain ⟨b1, b2, -⟩ := hw.2.2.2.2.1 _ hi
    have hn0 := hw.1
    rw [nI_add]
    refine m_nameIn_loop hG ad F A (i := S 3 m + place) (by omega) b1 (by omega) a1 a3 35 0 (mdig row place) rfl hd ?_
    rw [mn_kth _ (sc_low_lt _) _ (by omega) (by omega) _ hd]
    unfold mnm at hK
    rw [if_pos hps] at hK
    exact hK
  · have hps := nnl (by omega) (by omega) c
    unfold mnm at hK
    rw [if_neg (by omega), if_neg (fun q => c2 (by rw [q]; rfl))] at hK
    exact hK
  · have hps := nnl (by omega) (by omega) c
    unfold mnm at hK
    rw [if_neg (by omega), if_pos (neq (by omega) (by decide) (show nI (mdig row place) = nI 0 from c2))] at hK
    exact hK
theorem m_nameIn {cI : ClassId} {tv : Nat} {K : q_K} (ad : Nat → Nat) (F : Nat → Int32) (A : Nat → Nat → Int32) {S : sc_S} (hw : sc_wf S) (hR : mR S F A) {m row place : Nat} (hm : m < S 7 1) (hr : row < 27) (hp : place < 3) (hK : K (some (.int (mnm S m row place))) (wM cI ad F A)) :
    T_M_nameIn cI tv [.ref (ad 0), .int (nI row), .int (nI m), .int (nI place)] (wM cI ad F A) K := by
  refine ⟨q_le0 _ _ rfl, fun G hG => ?_⟩
  refine sg_M_nameIn_0 hG ad F A (nI row) (nI m) (nI place) ?_
  have d9 : nI row / 9 = nI (row / 9) := pk_div (d := 9) (by omega) (by decide) (by decide)
  have d3 : nI row / 3 = nI (row / 3) := pk_div (d := 3) (by omega) (by decide) (by decide)
  have r3 : nI row - nI row / 3 * 3 = nI (row % 3) := pk_rem (d := 3) (by omega) (by decide) (by decide)
  have r33 : nI row / 3 - nI row / 3 / 3 * 3 = nI (row / 3 % 3) := by rw [d3]; exact pk_rem (d := 3) (by omega) (by decide) (by decide)
  match place, hp with
  | 0, hp => exact ⟨fun c => absurd rfl c, fun c => m_nameIn_mid hG ad F A hw hR hm hr hp hK d9⟩
  | 1, hp => exact ⟨fun c => ⟨fun c2 => absurd rfl c2, fun c2 => m_nameIn_mid hG ad F A hw hR hm hr hp hK r33⟩, fun c => absurd c (by decide)⟩
  | 2, hp => exact ⟨fun c => ⟨fun c2 => m_nameIn_mid hG ad F A hw hR hm hr hp hK r3, fun c2 => absurd c2 (by decide)⟩, fun c => absurd c (by decide)⟩
theorem q_ua_ua (A : Nat → Nat → Int32) (k : Nat) (f g : Nat → Int32) : q_ua (q_ua A k f) k g = q_ua A k g := by
  funext j
  show cond (Nat.beq j k) g (cond (Nat.beq j k) f (A j)) = cond (Nat.beq j k) g (A j)
  cases Nat.beq j k <;> rfl
theorem q_ua_self (A : Nat → Nat → Int32) (k : Nat) : q_ua A k (A k) = A := by
  funext j
  show cond (Nat.beq j k) (A k) (A j) = A j
  cases h : Nat.beq j k with
  | true => rw [Nat.eq_of_beq_eq_true h]; rfl
  | false => rfl
theorem upd_s (f : Nat → Int32) (k : Nat) (x : Int32) : upd f k x k = x := pk_us
theorem m_findNames {cI : ClassId} {tv : Nat} {K : q_K} (ad : Nat → Nat) (F : Nat → Int32) (A : Nat → Nat → Int32) {S : sc_S} (hw : sc_wf S) (hR : mR S F A) {m : Nat} (hm : m < S 7 1) (hK : ∀ f : Nat → Int32, (∀ row p, row < 27 → p < 3 → f (3 * row + p) = mnm S m row p) → K none (wM cI ad F (q_ua A 7 f))) :
    T_M_findNames cI tv [.ref (ad 0), .int (nI m)] (wM cI ad F A) K := by
  refine ⟨q_le0 _ _ rfl, fun G hG => ?_⟩
  have hM := wf_M hw
  have outer : ∀ (d row : Nat) (f : Nat → Int32), row + d = 27 → (∀ r p, r < row → p < 3 → f (3 * r + p) = mnm S m r p) → G 2 [(0, .ref (ad 0)), (1, .int (nI m)), (2, .int (nI row))] [] (wM cI ad F (q_ua A 7 f)) 0 0 := by
    intro d
    induction d with
    | zero =>
      intro row f hd hf
      refine sg_M_findNames_2 hG ad F _ (nI m) (nI row) ⟨fun _ => hK f (fun r p hr hp => hf r p (by omega) hp), fun c => absurd (show nI 27 ≤ nI row from nI_le (by omega) (by omega)) c⟩
    | succ d ih =>
      intro row f hd hf
      have inner : ∀ (e p : Nat) (f : Nat → Int32), p + e = 3 → (∀ r q, r < row → q < 3 → f (3 * r + q) = mnm S m r q) → (∀ q, q < p → f (3 * row + q) = mnm S m row q) → G 10 [(0, .ref (ad 0)), (1, .int (nI m)), (2, .int (nI row)), (3, .int (nI p))] [] (wM cI ad F (q_ua A 7 f)) 0 0 := by
        intro e
        induction e with
        | zero =>
          intro p f he h1 h2
          refine sg_M_findNames_10 hG ad F _ (nI m) (nI row) (nI p) ⟨fun _ => ?_, fun c => absurd (show nI 3 ≤ nI p from nI_le (by omega) (by omega)) c⟩
          rw [show nI row + 1 = nI (row + 1) from nI_1 row]
          refine ih (row + 1) f (by omega) (fun r q hr hq => ?_)
          rcases Nat.lt_or_ge r row with z | z
          · exact h1 r q z hq
          · rw [show r = row by omega]
            exact h2 q (by omega)
        | succ e ihe =>
          intro p f he h1 h2
          refine sg_M_findNames_10 hG ad F _ (nI m) (nI row) (nI p) ⟨fun c => absurd (nge (by decide) (by omega) (show nI 3 ≤ nI p from c)) (by omega), fun _ => ?_⟩
          refine m_nameIn ad F _ hw (show mR S F (q_ua A 7 f) from hR) hm (by omega) (by omega) ?_
          have e3 : 3 * nI row + nI p = nI (3 * row + p) := by
            rw [show (3 : Int32) = nI 3 from rfl, pk_mul, nI_add]
          refine sg_M_findNames_31 hG ad F _ (nI m) (nI row) (nI p) _ _ ⟨?_, ?_⟩
          · rw [e3]; exact vp_in_nI (by omega) (by decide)
          · rw [e3, nI_clamp (by omega), show nI p + 1 = nI (p + 1) from nI_1 p, q_ua_ua]
            refine ihe (p + 1) _ (by omega) (fun r q hr hq => ?_) (fun q hq => ?_)
            · show upd f (3 * row + p) _ (3 * r + q) = _
              rw [pk_un (by omega)]
              exact h1 r q hr hq
            · show upd f (3 * row + p) _ (3 * row + q) = _
              rcases Nat.lt_or_ge q p with z | z
              · rw [pk_un (by omega)]
                exact h2 q z
              · rw [show q = p by omega, upd_s]
      refine sg_M_findNames_2 hG ad F _ (nI m) (nI row) ⟨fun c => absurd (nge (by decide) (by omega) (show nI 27 ≤ nI row from c)) (by omega), fun _ => ?_⟩
      exact inner 3 0 f rfl hf (fun q hq => absurd hq (Nat.not_lt_zero q))
  refine sg_M_findNames_0 hG ad F A (nI m) ?_
  have h := outer 27 0 (A 7) rfl (fun r p hr _ => absurd hr (Nat.not_lt_zero r))
  rw [q_ua_self] at h
  exact h
