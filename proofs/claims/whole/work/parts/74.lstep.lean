/-! the law's own step: it calls the class's step and catches what that throws -/
def y_L_step : MethodName := ⟨"SpellPitchLaw", "step", "(LSpellPitch;II[J)I"⟩
abbrev hhS : List (Nat × Nat × Nat × Nat) := [(0, 10, 13, 13)]
theorem kw_434 : Cond.methodLink "SpellPitchLaw" 92 y_L_step ∈ aW := aW_T 434 (by decide +kernel) (by decide +kernel)
theorem kw_435 : Cond.static y_L_step ∈ aW := aW_T 435 (by decide +kernel) (by decide +kernel)
theorem kw_436 : Cond.codeWith y_L_step method_3_code 5 (some FieldType.int) hhS ∈ aW := aW_T 436 (by decide +kernel) (by decide +kernel)
theorem kw_437 : Cond.classLink "SpellPitchLaw" 13 xAE ∈ aW := aW_T 437 (by decide +kernel) (by decide +kernel)
theorem kw_438 : Cond.methodLink "SpellPitchLaw" 7 y_X_step ∈ aW := aW_T 438 (by decide +kernel) (by decide +kernel)
theorem kw_439 : Cond.instanceMethod y_X_step ∈ aW := aW_T 439 (by decide +kernel) (by decide +kernel)
theorem kw_440 : Cond.selects "SpellPitch" y_X_step y_X_step ∈ aW := aW_T 440 (by decide +kernel) (by decide +kernel)
theorem kw_441 : Cond.code y_X_step prog_1_method_19_code 3 (some FieldType.int) ∈ aW := aW_T 441 (by decide +kernel) (by decide +kernel)
theorem kw_0 : Cond.initialized "SpellPitchLaw" ∈ aW := aW_T 0 (by decide +kernel) (by decide +kernel)
abbrev wsS9 : List Cond := Cond.codeWith y_L_step method_3_code 5 (some FieldType.int) hhS :: aW
def zSt : q_St := fun A U H => ∃ s0 : State, zAt s0 ∧ s0.WarmedH U.vm ∧ (∀ q : Nat, q < s0.heap.size → H[q]? = s0.heap[q]?) ∧ ∀ q : Nat, A q → s0.heap.size ≤ q
def stS (tv : Nat) (cL : ClassId) (D : va_G) : q_St := fun A U H => qSt tv A U H ∧ va_K D cls5 [(cL, .long)] U ∧ zSt A U H
theorem zSt_kept {A : Nat → Prop} {U : State} {H H1 : Heap} (h : zSt A U H) (hk : ∀ a : Nat, a < H.size → ¬ A a → H1[a]? = H[a]?) : zSt A U H1 := by
  obtain ⟨s0, h1, h2, h3, h4⟩ := h
  refine ⟨s0, h1, h2, fun q hq => ?_, h4⟩
  have e := h3 q hq
  have hlt : q < H.size := by
    rw [Array.getElem?_eq_getElem hq] at e
    exact (Array.getElem?_eq_some_iff.mp e).1
  rw [hk q hlt (fun z => absurd hq (Nat.not_lt.mpr (h4 q z)))]
  exact e
theorem stSOK (tv : Nat) (cL : ClassId) (D : va_G) : q_StOK (stS tv cL D) := by
  refine ⟨?_, ?_, ?_, ?_⟩
  · intro A s U H hW h
    obtain ⟨h1, h2, s0, h3, h4, h5⟩ := h
    exact ⟨(qStOK tv).1 A s U H hW h1, va_K.moved hW.alike h2, s0, h3, State.WarmedH.trans h4 hW, h5⟩
  · intro A U H H1 h hk
    exact ⟨(qStOK tv).2.1 A U H H1 h.1 hk, h.2.1, zSt_kept h.2.2 hk⟩
  · intro A B U H hAB h
    obtain ⟨h1, h2, s0, h3, h4, h5, h6⟩ := h
    exact ⟨(qStOK tv).2.2.1 A B U H hAB h1, h2, s0, h3, h4, h5, fun q hq => h6 q (hAB q hq)⟩
  · intro A U g mk a H h
    obtain ⟨h1, h2, s0, h3, h4, h5⟩ := h
    exact ⟨(qStOK tv).2.2.2 A U g mk a H h1, va_K.moved (u := U) (U := U.calling g mk a) (Vm.Alike.refl U.vm) h2, s0, h3, h4, h5⟩
def c_L_step : q_C := [(13, [(0, .aload_n 3), (1, .iconst 0), (2, .aload_n 0), (3, .iload_n 1), (4, .iload_n 2), (5, .invokevirtual 7), (8, .i2l), (9, .lastore), (10, .goto 7)]), (22, [(13, .astore 4), (15, .iconst 1), (16, .ireturn), (17, .iconst 0), (18, .ireturn)])]
theorem ct_L_step : c_L_step.all (fun x => x.2.all (q_dec method_3_code)) = true := by decide +kernel
theorem z_L5 : decode method_3_code 5 = .ok (.invokevirtual 7, 3) := by decide +kernel
def rm_L_step : Room := { frames := 7, cells := 1, slots := 6, locals := 130 }
def kV_L_step (cI : ClassId) (tv : Nat) : List (Nat × (Nat × Nat × Nat × q_T)) := [(7, 3, 0, 0, q_Sub isX [24] (q_V 3 (T_X_step cI tv)))]
def F_L_step (cI cL : ClassId) (tv : Nat) : q_K → q_G → q_G := fun K => q_FL (q_F c_L_step (q_as []) (q_as []) (q_as []) (q_cal (kV_L_step cI tv) [] []) (q_as []) cI (fun _ _ _ => False) 5 1 6 (some FieldType.int) K) c_L_step cL 1 6
def T_L_step (cI cL : ClassId) (tv : Nat) : q_T := fun as w K => ∃ (b o : Nat) (x n : Int32) (q0 : Nat) (fs : List Value), as = [.ref b, .int x, .int n, .ref o] ∧ w[q0]? = some (b, .inr (3, fs)) ∧ (¬ n = 0 → q_wp (F_L_step cI cL tv) as w K) ∧ (n = 0 → K (some (.int 1)) w)
set_option maxHeartbeats 1000000 in
theorem M_L_step (l : Launch) (hl : l.stackTraces = false) (D : va_G) (cI cL : ClassId) (tv : Nat) : q_Met l y_L_step wsS9 rm_L_step D cls5 [(cI, .int)] (stS tv cL D) (T_L_step cI cL tv) := by
  intro sz as w K hT
  obtain ⟨b, o, x, n, q0, fs, rfl, hq0, hT1, hT2⟩ := hT
  refine va_MetW (hh := hhS) (cc := method_3_code) (maxL := 5) (ret := some FieldType.int) (by decide +kernel) rfl ?_
  intro p e s m args below meth c s₁ B hml hv
  obtain ⟨rfl, hsz, hP, hK, hD0, hs⟩ := hv
  have hts := atoms_spec (ws := wsS9) B.pre
  have hown : s.vm.findClass "SpellPitchLaw" = some m.cls := findClass_of_methodNamed B.named
  subst hsz
  have hD := hD0.self (sz := s.heap.size)
  have hA : ∀ q : Nat, s.heap.size ≤ q → va_A w s.heap.size q := fun q h => Or.inr h
  have hl9 := lv_entry ([.ref b, .int x, .int n, .ref o] : List Value) (n := 5) (q_le0 _ _ rfl)
  have hC : q_Ctx p s m ([.ref b, .int x, .int n, .ref o] : List Value).toArray c method_3_code 5 "SpellPitchLaw" wsS9 D cls5 cI (va_A w s.heap.size) (qSt tv) := ⟨B.exec, B.bytes, hml, hown, hts, hK, hA, hs.1⟩
  have hG : q_Cl (F_L_step cI cL tv K) (q_M p l e rm_L_step s m ([.ref b, .int x, .int n, .ref o] : List Value).toArray below meth c (MQ below (q_Qc K D cls5 [(cI, .int)] (va_A w s.heap.size)) ([.ref b, .int x, .int n, .ref o] : List Value).toArray s 1 6 (va_A w s.heap.size)) 5 D cls5 (va_A w s.heap.size)) :=
    q_soundL B.exec B.bytes ct_L_step hs.2.1 hA (Or.inl (by decide +kernel)) rfl rfl (q_sound (R := rm_L_step) (ini := false) hC nofun ⟨ct_L_step, (fun n ci k ty wr h => by cases h), (fun n v h => by cases h), (fun n v h => by cases h), (fun a n f h => h.elim), q_cal_ok (q_cons (q_subV isX [24] (by decide) (by decide) (by decide) (k := 2) (T' := tt_X) (qStOK tv) (M_X_step l D cI tv) (gV kw_438 kw_439 kw_440 kw_1 kw_441) rfl (by decide +kernel) ⟨by decide, by decide⟩ rfl) q_nil) q_nil q_nil, (fun n ci N fs h => by cases h), Or.inl (by decide +kernel)⟩ rfl rfl (q_ret_MQ B.exec B.bytes hK B.returns B.notSynchronized))
  rw [lg_entry_eq]
  by_cases hn : n = 0
  · subst hn
    have g5 : q_M p l e rm_L_step s m ([.ref b, .int x, .int 0, .ref o] : List Value).toArray below meth c (MQ below (q_Qc K D cls5 [(cI, .int)] (va_A w s.heap.size)) ([.ref b, .int x, .int 0, .ref o] : List Value).toArray s 1 6 (va_A w s.heap.size)) 5 D cls5 (va_A w s.heap.size) 5 [(0, .ref b), (1, .int x), (2, .int 0), (3, .ref o)] [.int 0, .int x, .ref b, .int 0, .ref o] w 0 0 := by
      intro H locs la hla hPH hDH hS T hT X
      have hts' : ∀ w ∈ aW, w.before ([.ref b, .int x, .int 0, .ref o] : List Value).toArray s = true := fun w hw => hts w (List.mem_cons_of_mem _ hw)
      obtain ⟨cellB, hcB, hoB, hclB⟩ := va_recv (q := ("SpellPitch", tt_X, 4)) hK hPH rfl hq0
      obtain ⟨s0, z0, zW, zH, zA⟩ := hs.2.2
      have hzT : ∀ vm₁, s.WarmedH vm₁ → zAt (T.setVm vm₁) := by
        intro vm₁ hW₁
        refine zAt_warm (s := s0) (U := T.setVm vm₁) (State.WarmedH.trans zW hW₁) (fun q hq => ?_) z0
        have e := zH q hq
        have hlt : q < s.heap.size := by
          rw [Array.getElem?_eq_getElem hq] at e
          exact (Array.getElem?_eq_some_iff.mp e).1
        show T.heap[q]? = s0.heap[q]?
        rw [hT, hS.2.1 q hlt (fun z => absurd hq (Nat.not_lt.mpr (zA q z)))]
        exact e
      obtain ⟨v, BU, ce, X', p4, p5, p6, p7, hcE, hst⟩ := z_call X B.exec hl (own := "SpellPitchLaw") (index := 7) hown (hts' _ kw_438) (hts' _ kw_439) (hts' _ kw_440) (hts' _ kw_1) (fun w hw a' U hW => (List.mem_cons.mp hw).elim (fun e => by rw [e]; exact word_at hW (aW_ok kw_441) (hts' _ kw_441)) (fun h => word_at hW (aW_ok h) (hts' _ h))) hzT (by rw [hT]; exact hcB) hoB hclB (g := F0 m 5 la [.int 0, .int x, .ref b, .int 0, .ref o]) rfl (hla.1.trans hml.symm) (rest := [.int 0, .ref o]) rfl (by show 2 * 0 + 2 ≤ 8; decide) (by rw [B.bytes]; exact z_L5) (by decide) (by decide) (Nat.le_refl _) (Nat.le_refl _)
      obtain ⟨cE, tE, k1, k2, k3⟩ := Cond.castable_spec (z0.1 (.castable xAE xAE) (by decide +kernel))
      have k1' : s.vm.findClass xAE = some cE := by rw [zW.alike.findClass]; exact k1
      have k2' : s.vm.findClass xAE = some tE := by rw [zW.alike.findClass]; exact k2
      cases hcE.symm.trans k1'
      have k3' : s.vm.assignable ce.cls tE = true := by rw [zW.alike.assignable]; exact k3
      have htab : c.exceptionTable.toList = ({ startPc := 0, endPc := 10, handlerPc := 13, catchType := 13 } : ExceptionTableEntry) :: [] := by
        obtain ⟨m9, meth9, c9, hn9, h1, h2, -, -, h6, -⟩ := Cond.codeWith_spec (hts _ List.mem_cons_self)
        cases Option.some.inj (hn9.symm.trans B.named)
        cases Option.some.inj (h1.symm.trans B.method)
        cases Option.some.inj (h2.symm.trans X.code)
        rw [← table_eq c.exceptionTable.toList, h6]
        rfl
      obtain ⟨vm', XV, st2⟩ := z_catch X' (g := { F0 m 5 la [.int 0, .int x, .ref b, .int 0, .ref o] with stack := [.int 0, .ref o] }) rfl hown htab rfl (by decide) (hts' _ kw_437) p6 p7 k2' k3' hst
      have hk13 := hG.1 13 [(0, .ref b), (1, .int x), (2, .int 0), (3, .ref o)] [.ref v] w 1 6 (Or.inl (hG.1 15 [(0, .ref b), (1, .int x), (2, .int 0), (3, .ref o), (4, .ref v)] [] w 1 6 (Or.inl (hG.1 16 [(0, .ref b), (1, .int x), (2, .int 0), (3, .ref o), (4, .ref v)] [.int 1] w 1 6 (Or.inl ⟨rfl, Nat.le_refl _, Nat.le_refl _, hT2 rfl⟩)))))
      have hsz9 : H.size ≤ BU.heap.size := by rw [← hT]; exact p4
      have hold : ∀ q : Nat, q < H.size → BU.heap[q]? = H[q]? := fun q hq => by
        rw [p5 q (by rw [hT]; exact hq), hT]
      have hP9 : va_P D cls5 w BU.heap := hPH.kept (fun k y hy => hold y.1 ((hPH k y hy).lt))
      have hS9 : va_S (va_A w s.heap.size) s.heap BU.heap locs := ⟨Nat.le_trans hS.1 hsz9, fun q h1 h2 => (hold q (Nat.lt_of_lt_of_le h1 hS.1)).trans (hS.2.1 q h1 h2), hS.2.2⟩
      obtain ⟨t, a1, b1⟩ := hk13 BU.heap locs la hla hP9 hDH hS9 (BU.setVm vm') rfl XV
      exact ⟨t, st2.trans a1, b1⟩
    have g0 := hG.1 0 [(0, .ref b), (1, .int x), (2, .int 0), (3, .ref o)] [] w 0 0 (Or.inl (hG.1 1 [(0, .ref b), (1, .int x), (2, .int 0), (3, .ref o)] [.ref o] w 0 0 (Or.inl (hG.1 2 [(0, .ref b), (1, .int x), (2, .int 0), (3, .ref o)] [.int 0, .ref o] w 0 0 (Or.inl (hG.1 3 [(0, .ref b), (1, .int x), (2, .int 0), (3, .ref o)] [.ref b, .int 0, .ref o] w 0 0 (Or.inl (hG.1 4 [(0, .ref b), (1, .int x), (2, .int 0), (3, .ref o)] [.int x, .ref b, .int 0, .ref o] w 0 0 (Or.inl g5)))))))))
    exact g0 s.heap [] _ hl9 hP hD va_S.rf
  · exact hT1 hn _ hG s.heap [] _ hl9 hP hD va_S.rf
