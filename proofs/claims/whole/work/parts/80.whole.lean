/-! THE CLAIM OUT OF ONE WALK OF THE LAW'S BODY. Your part is whole_start (and what it stands on); all else here is the same for every law, but numbers. -/
def R_law : String := "SpellPitchLaw"
def lw_P (b : Addr) (xs : List Int32) (args : Array Value) (s : State) : Prop := args = #[.ref b] ∧ s.IntsAt b xs ∧ xs.length ≤ 3072 ∧ (Jvm.Cond.and given_1 narrow_1).before args s = true
def lw_Q (_ : Array Value) (s : State) (o : Outcome) (t : State) : Prop := o = .returned (some (.int 1)) ∧ Framed s o t [] 1071 24035
def lw_Z (below : List Frame) (a : Array Value) (s : State) : State → Prop := fun t => ∃ o, t.status = .running ∧ Ended t below o ∧ lw_Q a s o t
/-- the law's own end, with 1 on the stack, nothing written that was there before, its room as the claim has it -/
theorem lw_ret {p : Program} {l : Launch} {e : Env} {s : State} {m : MethodId} {below : List Frame} {meth : Method} {c : Code} {b : Nat} (hx : p.tables.exec = Jvm.exec) (hb : c.code = code) (hr : meth.sig.returnType = ret) (hlocks : meth.locks = false) {pc : Nat} {H : Heap} {ls : Array Slot} (hdg : decode code pc = .ok (.ireturn, 1)) : W p l e room_1 s m #[Value.ref b] below meth c H [] 1071 24035 (lw_Z below #[Value.ref b] s) (F0 m pc ls [.int 1]) := by
  intro T hT X
  obtain ⟨fs, hret, hrun, hended, hW, hframe⟩ := X.leave (v := some (.int 1)) (hlocks := hlocks) (fun h => by rw [hr] at h; cases h)
  have hmeth' : T.vm.method? m = some meth := X.method'
  refine ⟨T.setFrames fs, ?_, .returned (some (.int 1)), hrun, hended, rfl, ⟨_, rfl⟩, hW, hframe⟩
  jvm_step X.here [X.here.top, hx, hb, hdg, hmeth', hr, ret, narrow_b1]
  (try refine ⟨rfl, ?_⟩); (try refine ⟨rfl, ?_⟩)
  first | (intro acts; rw [hret _ acts rfl rfl rfl]) | rw [hret _ _ rfl rfl rfl]
  exact Steps.refl _
/-- what holds at the law's entry: the machine, the code, the tables' words (any of lw_tbl by 'hts w (by decide +kernel)'), the script of L ints xs at the cell b, what the Statement gives of the start (any of its parts by flat_of_before) -/
def lw_At (p : Program) (s : State) (m : MethodId) (meth : Method) (c : Code) (b L : Nat) (xs : Nat → Int32) : Prop :=
  p.tables.exec = Jvm.exec ∧ c.code = code ∧ meth.sig.returnType = ret ∧ c.maxLocals = 7 ∧ s.vm.findClass R_law = some m.cls ∧ (∀ w ∈ lw_tbl, w.before #[Value.ref b] s = true) ∧ va_X b L xs s s.heap ∧ b < s.heap.size ∧ meth.locks = false ∧ (Jvm.Cond.and given_1 narrow_1).before #[Value.ref b] s = true
theorem lw_T (i : Nat) {w : Cond} (h : tables_1[i]? = some w) {a : Array Value} {s : State} (hts : ∀ w ∈ lw_tbl, w.before a s = true) : w.before a s = true := hts w (List.mem_append_right _ (List.mem_of_getElem? h))
theorem lw_arr {a : Array Value} {s : State} {ty : FieldType} (h : (Cond.arrayClass ty).before a s = true) : ∃ cA : ClassId, ArrOfT s cA ty ∧ s.vm.findClass ("[" ++ ty.toString) = some cA := by
  obtain ⟨cA, kA, comp, h1, h2, h3⟩ := Cond.arrayClass_spec h
  exact ⟨cA, fun n z => ⟨fun k h => (by cases h), kA, h2, comp, h3⟩, h1⟩
theorem lw_nolocs {p : Program} {l : Launch} {e : Env} {R : Room} {s : State} {m : MethodId} {args : Array Value} {below : List Frame} {meth : Method} {c : Code} {H : Heap} {locs : List Loc} {cells slots : Nat} {Q : State → Prop} {g : JFrame} (h : ∀ z ∈ locs, s.heap.size ≤ z.base) (k : W p l e R s m args below meth c H [] cells slots Q g) : W p l e R s m args below meth c H locs cells slots Q g := fun T hT X =>
  k T hT ⟨X.admits, X.cas, X.clock, X.frames, X.room, X.hears, X.method, X.code, X.here, X.tail, X.warmed, X.limits, X.bytes, X.same.weaken (fun z hz hlt => absurd (h z hz) (Nat.not_le.mpr hlt)) (Nat.le_refl _) (Nat.le_refl _)⟩
theorem zOwn_in : zOwn.all (fun w => decide (w ∈ lw_tbl) || decide (w ∈ flatC (Jvm.Cond.and given_1 narrow_1))) = true := by decide +kernel
theorem lw_zAt {a : Array Value} {s : State} {cX : ClassId} (hts : ∀ w ∈ lw_tbl, w.before a s = true) (hs : ∀ w ∈ flatC (Jvm.Cond.and given_1 narrow_1), w.before a s = true) (hX : s.vm.findClass "SpellPitch" = some cX) : zAt s := by
  have h1 : ∀ w ∈ zOwn, w.before a s = true := by
    intro w hw
    have := List.all_eq_true.mp zOwn_in w hw
    rw [Bool.or_eq_true] at this
    rcases this with h | h
    · exact hts w (of_decide_eq_true h)
    · exact hs w (of_decide_eq_true h)
  have hW : s.WarmedH s.vm := State.WarmedH.refl s
  have h2 : (Cond.stringRef "SpellPitch" 149 "n is 0").before a s = true := lw_T 481 (by decide +kernel) hts
  obtain ⟨k, cf, i, sa, -, -, -, -, -, hev⟩ := Cond.stringRef_spec hX h2
  have h3 : (Cond.classLink "SpellPitch" 147 xAE).before a s = true := lw_T 442 (by decide +kernel) hts
  have h4 : (Cond.initialized xAE).before a s = true := lw_T 11 (by decide +kernel) hts
  exact ⟨z_own hW (fun _ _ => rfl) h1, ⟨sa, vk_R.of h2 hev⟩, word_at hW (good_of_word (by rfl)) h3, word_at hW (good_of_word (by rfl)) h4⟩
set_option maxHeartbeats 1000000 in
theorem lw_ctx {a : Array Value} {s : State} (hts : ∀ w ∈ lw_tbl, w.before a s = true) (hgv : (Jvm.Cond.and given_1 narrow_1).before a s = true) : ∃ (D : va_G) (cI cL : ClassId) (tv : Nat), va_K D cls5 [(cI, .int)] s ∧ va_K D cls5 [(cL, .long)] s ∧ qSt tv (fun q => s.heap.size ≤ q) s s.heap ∧ zAt s := by
  have hs := flat_of_before _ hgv
  have hA0 : ∀ q : Nat, q < s.heap.size → ¬ s.heap.size ≤ q := fun q h => Nat.not_le.mpr h
  have hw : ∀ w ∈ aW, w.before a s = true := fun w h => hts w (List.mem_filter.mp h).1
  obtain ⟨c0, i0, k0⟩ := u_known hw tw_S (hw _ kw_27)
  obtain ⟨c1, i1, k1⟩ := u_known hw tw_R (hw _ kw_21)
  obtain ⟨c2, i2, k2⟩ := u_known hw tw_G (lw_T 77 (w := Cond.instantiable "SpellPitch$Weights" 5) (by decide +kernel) hts)
  obtain ⟨c3, i3, k3⟩ := u_known hw tw_X (hw _ kw_13)
  obtain ⟨c4, i4, k4⟩ := u_known hw tw_M (hw _ kw_509)
  obtain ⟨cI, hI1, hI2⟩ := lw_arr (hw _ kw_75)
  obtain ⟨cL, hL1, hL2⟩ := lw_arr (lw_T 788 (w := Cond.arrayClass .long) (by decide +kernel) hts)
  have e0 := va_eqt (hs (.eq (.elem (.static "SpellPitch$Search" "PICKS" "[I") (.int 0)) (.int 1)) (by decide +kernel))
  have e1 := va_eqt (hs (.eq (.elem (.static "SpellPitch$Search" "PICKS" "[I") (.int 1)) (.int 3)) (by decide +kernel))
  have e2 := va_eqt (hs (.eq (.elem (.static "SpellPitch$Search" "PICKS" "[I") (.int 2)) (.int 9)) (by decide +kernel))
  have e3 := va_eqt (hs (.eq (.elem (.static "SpellPitch$Search" "PICKS" "[I") (.int 3)) (.int 27)) (by decide +kernel))
  have el := va_eqt (hs (.eq (.length (.static "SpellPitch$Search" "PICKS" "[I")) (.int 4)) (by decide +kernel))
  obtain ⟨tv, htv, hTv⟩ := va_Tof (tm := .static "SpellPitch$Search" "PICKS" "[I") (ty := .int) (N := 4) (f := fun j => .int (pk4 j)) (A := fun q => s.heap.size ≤ q) (by decide) (hs (.arrayOf (.static "SpellPitch$Search" "PICKS" "[I") .int) (by decide +kernel)) el (fun j hj => match j, hj with
    | 0, _ => e0
    | 1, _ => e1
    | 2, _ => e2
    | 3, _ => e3) hA0
  have hZ := va_Zof (A := fun q => s.heap.size ≤ q) (lw_T 272 (w := Cond.laysStatic "SpellPitch$Search" "PICKS" "[I") (by decide +kernel) hts) (hw _ kw_2) htv hA0
  obtain ⟨D1, D2, hcl⟩ : ∃ (D1 : Nat → ClassId) (D2 : Nat → Nat → Nat), ∀ (c : Nat) (q : vw_C), cls5[c]? = some q → u_Kn s q.1 q.2.1 q.2.2 (D1 c) (D2 c) := by
    refine ⟨fun c => match c with
      | 0 => c0
      | 1 => c1
      | 2 => c2
      | 3 => c3
      | _ => c4, fun c => match c with
      | 0 => i0
      | 1 => i1
      | 2 => i2
      | 3 => i3
      | _ => i4, ?_⟩
    intro c q h
    match c, h with
    | 0, h => cases h; exact k0
    | 1, h => cases h; exact k1
    | 2, h => cases h; exact k2
    | 3, h => cases h; exact k3
    | 4, h => cases h; exact k4
    | c + 5, h => cases h
  refine ⟨(D1, D2), cI, cL, tv, ⟨hcl, fun k q h => ?_⟩, ⟨hcl, fun k q h => ?_⟩, ⟨hZ, hTv, va_Nw.of rfl (lw_T 22 (by decide +kernel) hts), va_Nw.of rfl (lw_T 28 (by decide +kernel) hts), va_Nw.of rfl (lw_T 78 (by decide +kernel) hts), va_Nw.of rfl (lw_T 202 (by decide +kernel) hts), va_Nw.of rfl (lw_T 277 (by decide +kernel) hts), va_Nw.of rfl (lw_T 303 (by decide +kernel) hts), va_Nw.of rfl (lw_T 308 (by decide +kernel) hts)⟩, lw_zAt hts hs k3.2.1⟩
  · match k, h with
    | 0, h => cases h; exact ⟨hI1, hI2⟩
    | k + 1, h => cases h
  · match k, h with
    | 0, h => cases h; exact ⟨hL1, hL2⟩
    | k + 1, h => cases h
set_option maxHeartbeats 1000000 in
/-- from the entry, for every script of at most 3072 ints, the law comes to its end with true -/
theorem whole_start {p : Program} {e : Env} {s : State} {m : MethodId} {below : List Frame} {meth : Method} {c : Code} (l : Launch) (hl : l.stackTraces = false) {b L : Nat} {xs : Nat → Int32} (hL : L ≤ 3072) (C0 : lw_At p s m meth c b L xs) : W p l e room_1 s m #[Value.ref b] below meth c s.heap [] 0 0 (lw_Z below #[Value.ref b] s) (entryFrame m ([Value.ref b] : List Value).toArray 7) := by
  obtain ⟨hx, hb, hr, hml, hown, hts, hX, hbl, hlocks, hgv⟩ := C0
  obtain ⟨D, cI, cL, tv, hK, hKL, hq, hz⟩ := lw_ctx hts hgv
  have hA : ∀ q : Nat, s.heap.size ≤ q → (fun q => s.heap.size ≤ q) q := fun q h => h
  have hw : ∀ w ∈ Cond.initialized "SpellPitch" :: aW, w.before #[Value.ref b] s = true := fun w h => (List.mem_cons.mp h).elim (fun e => by rw [e]; exact hts _ (List.mem_filter.mp kw_1).1) (fun h => hts w (List.mem_filter.mp h).1)
  have hTx : va_T .int b L (fun j => .int (xs j)) (fun q => s.heap.size ≤ q) s s.heap := by
    obtain ⟨scr, h1, h2, h3, h4, h5⟩ := hX
    exact ⟨scr, h1, h2, h3, Nat.le_of_eq h4.symm, congrArg Nat.toInt32 h4, h5, Nat.not_le.mpr hbl⟩
  have hst : stL tv cL D b L xs (fun q => s.heap.size ≤ q) s s.heap := ⟨⟨hq, hKL, s, hz, State.WarmedH.refl s, fun _ _ => rfl, fun _ h => h⟩, hTx⟩
  have hRet : q_Ret p l e room_1 s m #[Value.ref b] below meth c code D cls5 (fun q => s.heap.size ≤ q) (lw_Z below #[Value.ref b] s) (some FieldType.boolean) 1071 24035 (fun r _ => r = some (.int 1)) := by
    refine ⟨fun v ty pc la w nc ns H locs e1 hd h1 h2 h3 h4 hP hD hS => ?_, fun a ty pc la w nc ns H locs e1 e2 hd h2 h3 h4 hP hD hS => ?_, fun pc la w nc ns H locs e1 hd h2 h3 h4 hP hD hS => ?_⟩
    · cases h4
      exact W.widen h2 h3 (lw_nolocs hS.2.2 (lw_ret hx hb hr hlocks hd))
    · cases h4
    · cases e1
  have hG := q_soundL (cL := cL) (c := c) (p := p) (l := l) (e := e) (R := room_1) (s := s) (m := m) (args := #[Value.ref b]) (below := below) (meth := meth) (Q := lw_Z below #[Value.ref b] s) (nL := 7) (D := D) (cl := cls5) (A := fun q => s.heap.size ≤ q) (RC := 1071) (RS := 24035) hx hb ct_L_law hKL hA (Or.inr (lw_T 788 (w := Cond.arrayClass .long) (by decide +kernel) hts)) rfl rfl (q_sound (R := room_1) (ini := false) (cI := cI) (St := stL tv cL D b L xs) (own := "SpellPitchLaw") (Ts := Cond.initialized "SpellPitch" :: aW) ⟨hx, hb, hml, hown, hw, hK, hA, hst⟩ nofun (q_L_ok l hl D cI cL tv b L xs) rfl rfl hRet)
  have hgo := L_start (K := fun r _ => r = some (.int 1)) hG (fun ad am o => L_loop hG hL (fun w => rfl) 512 0 rfl (Nat.zero_le _) ad xF0 qA0 am mF0 qA0 o (fun _ => 0) 46 15837 S0 S0_wf xI0 mI0 (Nat.le_refl _) (Nat.le_refl _))
  rw [lg_entry_eq]
  exact hgo s.heap [] _ (lv_entry ([.ref b] : List Value) (n := 7) (q_le0 _ _ rfl)) (fun k q h => by simp at h) ⟨fun i j p q h => by simp at h, fun k q h => by simp at h⟩ va_S.rf
set_option maxHeartbeats 4000000 in
theorem lw_walk (l : Launch) (hl : l.stackTraces = false) (b : Addr) (xs : List Int32) : MetFree l x (headSpec (Jvm.Cond.code x code maxLocals ret :: tables_1) room_1) (lw_P b xs) (fun _ _ _ _ _ => True) lw_Q := by
  refine MetFree.of_bodyS (code := code) (maxLocals := maxLocals) (ret := ret) (by decide) ?_ ?_
  · intro args s m h hn
    obtain ⟨meth, c, h1, h2, h3, h4, h5, h6, -, -⟩ := Cond.code_spec hn (atoms_spec (ws := Jvm.Cond.code x code maxLocals ret :: tables_1) h _ List.mem_cons_self)
    exact ⟨meth, c, h1, h2, h3, h4, h5, h6⟩
  · intro p e s m args below meth c s₁ B hml0 hP _
    obtain ⟨rfl, hx, hbd, hgv⟩ := hP
    obtain ⟨scr, harrAt, hlist, hof, hsmall⟩ := hx
    obtain ⟨hcb, hkn, -, -⟩ := State.arrayAt?_spec harrAt
    have hown : s.vm.findClass R_law = some m.cls := findClass_of_methodNamed B.named
    have hts0 : ∀ c ∈ (Jvm.Cond.code x code maxLocals ret :: tables_1), c.before #[Value.ref b] s = true := atoms_spec (ws := Jvm.Cond.code x code maxLocals ret :: tables_1) B.pre
    have hts : ∀ w ∈ lw_tbl, w.before #[Value.ref b] s = true := k2_hts_sels lw_privs (fun w hw => hts0 w (List.mem_cons_of_mem _ hw)) lw_privs_ok
    have hml : c.maxLocals = 7 := B.maxLocals_eq (hts0 _ List.mem_cons_self)
    have X₀ : Stand p l e room_1 s m #[Value.ref b] below meth c s₁ [] 0 0 := Stand.of_body B
    have hh0 : s₁.heap = s.heap := by rw [B.state]; rfl
    have hsz : scr.slots.size = xs.length := by rw [← Array.length_toList, hlist, List.length_map]
    have hval : ∀ j : Nat, j < xs.length → scr.slots[j]? = some (.int (xs.getD j 0)) := fun j hj => by
      rw [← Array.getElem?_toList, hlist]
      simp [hj]
    have hbl : b < s.heap.size := (Array.getElem?_eq_some_iff.mp hcb).1
    have hX : va_X b xs.length (fun j => xs.getD j 0) s s.heap := ⟨scr, hcb, hof, hkn, hsz, hval⟩
    have K : W p l e room_1 s m #[Value.ref b] below meth c s₁.heap [] 0 0 (lw_Z below #[Value.ref b] s) (entryFrame m ([Value.ref b] : List Value).toArray 7) := by
      rw [hh0]
      exact whole_start l hl hbd ⟨B.exec, B.bytes, B.returns, hml, hown, hts, hX, hbl, B.notSynchronized, hgv⟩
    obtain ⟨t, a1, o, b1, b2, b3⟩ := K s₁ rfl X₀
    exact ⟨t, o, a1, b1, b2, b3⟩
theorem lw_pre_spec {args : Array Value} {s : State} (h : (Jvm.Cond.and given_1 narrow_1).before args s = true) (hr : rest_1_c.before args s = true) : ∃ (b : Addr) (xs : List Int32), lw_P b xs args s := by
  have hs := flat_of_before _ h
  have hq := flat_of_before _ hr
  have hc : (Cond.count 1).before args s = true := hs _ (by decide +kernel)
  have harr : (Cond.arrayOf (.arg 0) .int).before args s = true := hs _ (by decide +kernel)
  have hle : (Cond.le (.length (.arg 0)) (.int 3072)).before args s = true := hs _ (by decide +kernel)
  have hlen : (Cond.isInt (.length (.arg 0))).before args s = true := hq _ (by decide +kernel)
  have hall : (Cond.all (.arg 0) (.isInt (.elem (.arg 0) (.index 0)))).before args s = true := hq _ (by decide +kernel)
  obtain ⟨b, xs, hb, hx⟩ := State.ints_of_pre rfl harr hlen hall
  have hsm : xs.length < 2 ^ 31 := hx.choose_spec.2.2.2
  have hev : (Term.length (.arg 0)).eval args s none [] s = some (.int xs.length.toInt32) := hx.length_eval hb
  have hv := Cond.le_ints hev (show (Term.int 3072).eval args s none [] s = some (.int 3072) from rfl)
  have hd : xs.length.toInt32 ≤ 3072 := by
    simpa [Cond.before, Cond.holds, hv] using hle
  have hN : xs.length ≤ 3072 := (Int32.ofNat_le_ofNat hsm (by decide)).mp (show Int32.ofNat xs.length ≤ Int32.ofNat 3072 from hd)
  exact ⟨b, xs, Cond.one_arg hc (show args[0]? = some (.ref b) from hb), hx, hN, h⟩
theorem lw_comes (l : Launch) (hl : l.stackTraces = false) : Comes l x (Jvm.Cond.code x code maxLocals ret :: tables_1) room_1 (fun tb e args s => Calls_1 tb e args s ∧ rest_1 tb e args s ∧ Pre_1 tb e args s)
    (fun _ _ args s o t => lw_Q args s o t) := by
  intro p e ha hc hk s m args below hf hfit hheap happ hpre
  obtain ⟨b, xs, hP⟩ := lw_pre_spec hpre.2.2 hpre.2.1
  obtain ⟨k, o, h1, h2, h3, hQ⟩ := lw_walk l hl b xs p e ha hc hk s m args below hf ((Spec.applies_iff_loose hf).mp happ).1 hP trivial
  exact ⟨k, o, h1, h2, h3, hQ⟩
theorem lw_frame {s t : State} {o : Outcome} {args : Array Value} (h : Framed s o t [] 1071 24035) :
    Framed s o t (fieldLocs frame_1_writes args s ++ arrayLocs frame_1_arrays args s ++ staticLocs frame_1_statics s) 1071 24035 := h
theorem lw_limb (L : Cond) (hL : ∀ (args : Array Value) (s t : State), L.after args s (.returned (some (.int 1))) t = true) :
    ArmFor flags0 classFile x code maxLocals ret World_1 tables_1 room_1 Calls_1 rest_1 Pre_1
      (fun tb e a s o t => postC L tb e a s o t ∧ Framed s o t (fieldLocs frame_1_writes a s ++ arrayLocs frame_1_arrays a s ++ staticLocs frame_1_statics s) 1071 24035) := by
  intro l hfl _ _ p e ha hc hk s m args below hf hfit hheap happ hpre
  have hl : l.stackTraces = false := by unfold Launch.stackTraces; rw [hfl]; decide
  obtain ⟨k, o, h1, h2, h3, rfl, hF⟩ := lw_comes l hl p e ha hc hk s m args below hf hfit hheap happ hpre
  exact ⟨k, _, h1, h2, h3, hL args s _, lw_frame hF⟩
theorem i_vc : Claimed_1_1 ∧ Claimed_1_2 := ⟨lw_limb limb_1_1 (fun args s t => by simp [limb_1_1, Cond.after, Cond.holds, Cond.value]), lw_limb limb_1_2 (fun args s t => Cond.after_iff.mpr (by
  first | (rw [show limb_1_2 = Cond.eq .result (.int 1) from rfl, Cond.eq_ints (x := 1) (y := 1) rfl rfl]; simp; done) | (simp [limb_1_2, Cond.value, Term.eval]; done)))⟩
