/-! a callee that throws, and a handler whose class may not be resolved yet -/
section ZC
variable {tb : Tables} {p : Program} {l : Launch} {e : Env} {R : Room} {s : State} {m : MethodId} {args : Array Value} {below : List Frame} {meth : Method} {c : Code} {T target : State} {locs : List Loc} {cells slots : Nat} {g : JFrame} {a : Addr}
/-- the search ends at this handler, and leaves the tables vm' -/
def zFinds (e : Env) (s : State) (f : JFrame) (a : Addr) (pc : Nat) (vm' : Vm) : Prop := ∀ (Q : Handler → Pre) (E : CtlPost) (d : Bool) (acts : List Action), wp (findHandler f a) Q E e d acts s ↔ Q (.found pc) d acts (s.setVm vm')
theorem z_row {f : JFrame} {x : ExceptionTableEntry} {t : List ExceptionTableEntry} {cT : ClassId} {cell : Cell} (hx : covers x f.pc = true) (h0 : x.catchType ≠ 0) (hl : s.vm.ClassLinks e.platform f.method.cls x.catchType cT) (hcell : s.heap[a]? = some cell) (hobj : ∀ k, cell.vm ≠ .statics k) (hk : ∃ k, s.vm.classes[cell.cls]? = some k) (hc : ∃ k, s.vm.classes[cT]? = some k) (hfit : s.vm.assignable cell.cls cT = true) {Q : Handler → Pre} {E : CtlPost} {d : Bool} {acts : List Action} :
    wp (findHandler.go f a (x :: t)) Q E e d acts s ↔ Q (.found x.handlerPc) d acts (s.setVm (s.vm.noted f.method.cls x.catchType (.cls cT))) := by
  simp only [covers] at hx
  obtain ⟨r1, r2⟩ := (resolveClass_links e.toSetting hl).op (op := VmOp.resolveClass f.method.cls x.catchType) rfl
  have hal : s.vm.Alike (s.vm.noted f.method.cls x.catchType (.cls cT)) := (Vm.Alike.refl s.vm).noted _ _ _
  obtain ⟨ka, ha⟩ := hk
  obtain ⟨kb, hb⟩ := hc
  obtain ⟨ka', ha', -⟩ := hal.2.2 _ _ ha
  obtain ⟨kb', hb', -⟩ := hal.2.2 _ _ hb
  have hf : (s.vm.noted f.method.cls x.catchType (.cls cT)).assignable cell.cls cT = true := by rw [hal.assignable]; exact hfit
  simp [findHandler.go, hx, h0, r1, r2, hcell, hobj, ha', hb', hf, VmOp.dirties, VmOp.acts]
theorem z_into {f : JFrame} {r : List Frame} {pc : Nat} {vm' : Vm} (hf : zFinds e s f a pc vm') : (stepThrowing e s a (.java f :: r)).Is ((s.setVm vm').setFrames (.java { f with pc := pc, stack := [.ref a] } :: r)) [] := by
  simp only [stepThrowing, searchFrame, vmDo]
  generalize hr : Sem.go _ e false [] s = res
  obtain ⟨as, rfl, ha⟩ := Sem.eq_ok_of hr (a := Handler.found pc) (s' := s.setVm vm') (acts' := []) (by simp [hf _ _ _ _])
  exact ⟨rfl, ha⟩
theorem z_caught (h : At s g.method c below) {pc : Nat} {vm' : Vm} (hf : zFinds e ((s.setTop g).pushFrame (.throwing a)) g a pc vm') (hrest : Steps tb e below ((s.setVm vm').setTop { g with pc := pc, stack := [.ref a] }) target) : Steps tb e below ((s.setTop g).pushFrame (.throwing a)) target := by
  obtain ⟨hgo, hw⟩ := h.throwing a
  refine Steps.head hgo hw ?_
  rw [stepThread_throwing (frames_entered h.top _), (z_into (s := (s.setTop g).pushFrame (.throwing a)) hf).1]
  obtain ⟨g₀, hg⟩ := Option.isSome_iff_exists.mp h.top
  obtain ⟨r, hr⟩ := State.topJava?_eq_some.mp hg
  have hr' : (s.setVm vm').frames = .java g₀ :: r := hr
  have e1 : (((s.setTop g).pushFrame (.throwing a)).setVm vm').setFrames (.java { g with pc := pc, stack := [.ref a] } :: s.frames.tail) = (s.setVm vm').setTop { g with pc := pc, stack := [.ref a] } := by
    rw [State.setTop_of_frames _ hr', State.pushFrame, State.setTop_of_frames _ hr, State.setFrames_setFrames, hr]
    show (((s.setFrames _).setVm vm').setFrames _) = ((s.setVm vm').setFrames _)
    rw [show (s.setFrames (.throwing a :: (s.setFrames (.java g :: r)).frames)).setVm vm' = (s.setVm vm').setFrames (.throwing a :: (s.setFrames (.java g :: r)).frames) from rfl, State.setFrames_setFrames]
    rfl
  rw [e1]
  exact hrest
/-- the first row of the table covers the call and takes what was thrown -/
theorem z_catch (X : Stand p l e R s m args below meth c T locs cells slots) (hg : g.method = m) {own name : String} (hown : s.vm.findClass own = some m.cls) {x : ExceptionTableEntry} {rest : List ExceptionTableEntry} (htab : c.exceptionTable.toList = x :: rest) (hx : covers x g.pc = true) (h0 : x.catchType ≠ 0) (hlink : (Cond.classLink own x.catchType name).before args s = true) {cell : Cell} (hcell : T.heap[a]? = some cell) (hv : cell.vm = .none) {cT : ClassId} (hcT : s.vm.findClass name = some cT) (hfit : s.vm.assignable cell.cls cT = true) {s₀ : State} (hcome : Steps p.tables e below s₀ ((T.setTop g).pushFrame (.throwing a))) :
    ∃ vm' : Vm, Stand p l e R s m args below meth c (T.setVm vm') locs cells slots ∧ Steps p.tables e below s₀ ((T.setVm vm').setTop { g with pc := x.handlerPc, stack := [.ref a] }) := by
  subst hg
  have hpl : e.platform.magicAccessors = ({} : Platform).magicAccessors := by rw [X.admits.platform]
  obtain ⟨c', hc', hcl⟩ := Cond.classLink_spec hown hlink e.platform hpl
  cases hcT.symm.trans hc'
  obtain ⟨dk, _, _, kt, hd, _, _, _, _, hkt, _, hopen⟩ := hcl.here
  have hal := X.warmed.alike
  obtain ⟨kt', hkt', -⟩ := hal.2.2 _ _ hkt
  have hfit' : T.vm.assignable cell.cls cT = true := by rw [hal.assignable]; exact hfit
  have hf : zFinds e ((T.setTop g).pushFrame (.throwing a)) g a x.handlerPc (T.vm.noted g.method.cls x.catchType (.cls cT)) := by
    intro Q E d acts
    rw [W.findHandler_eq (s := (T.setTop g).pushFrame (.throwing a)) (meth := meth) (code := c) X.method' X.code, htab]
    exact z_row (s := (T.setTop g).pushFrame (.throwing a)) hx h0 (X.warmed.classLinks hcl) hcell (fun k h => by rw [hv] at h; cases h) (Vm.classAt_of_assignable hfit' ⟨kt', hkt'⟩) ⟨kt', hkt'⟩ hfit'
  exact ⟨_, X.noted (X.warmed.noted hd hopen (State.rightAt_cls hcl)), hcome.trans (z_caught X.here hf (Steps.refl _))⟩
/-- the call of the class's step with n = 0: it comes back throwing, and nothing that was there has changed -/
theorem z_call (X : Stand p l e R s m args below meth c T locs cells slots) (hexec : p.tables.exec = Jvm.exec) (hl : l.stackTraces = false) {own : String} {index : Nat} (hown : s.vm.findClass own = some m.cls) (hlink : (Cond.methodLink own index y_X_step).before args s = true) (hinst : (Cond.instanceMethod y_X_step).before args s = true) (hsel : (Cond.selects "SpellPitch" y_X_step y_X_step).before args s = true) (hini : (Cond.initialized "SpellPitch").before args s = true) (hws : ∀ w ∈ zWs, ∀ (a' : Array Value) (U : State), s.WarmedH U.vm → w.before a' U = true)
    (hz : ∀ vm₁, s.WarmedH vm₁ → zAt (T.setVm vm₁)) {b : Addr} {cellB : Cell} (hcB : T.heap[b]? = some cellB) (hoB : cellB.vm.isStatics = false) (hclB : s.vm.findClass "SpellPitch" = some cellB.cls) (hg : g.method = m) (hsize : g.locals.size = c.maxLocals) {x : Int32} {rest : List Value} (hstack : g.stack = .int 0 :: .int x :: .ref b :: rest) (hW8 : 2 * g.monitorRoom + (rest.map fun v => v.category).sum ≤ 8) (hdg : decode c.code g.pc = .ok (.invokevirtual index, 3))
    (hRf : 7 ≤ R.frames) (hRl : 122 ≤ R.locals) (hRc : cells + 1 ≤ R.cells) (hRs : slots + 6 ≤ R.slots) :
    ∃ (v : Nat) (T' : State) (ce : Cell), Stand p l e R s m args below meth c T' locs (cells + 1) (slots + 6) ∧ T.heap.size ≤ T'.heap.size ∧ (∀ q : Nat, q < T.heap.size → T'.heap[q]? = T.heap[q]?) ∧ T'.heap[v]? = some ce ∧ ce.vm = .none ∧ s.vm.findClass xAE = some ce.cls ∧ Steps p.tables e below (T.setTop g) ((T'.setTop { g with stack := rest }).pushFrame (.throwing v)) := by
  subst hg
  obtain ⟨mk, methM, hnamed, hmethM, hstM, habM⟩ := Cond.instanceMethod_spec hinst
  obtain ⟨methM', cM, hmethM', hcodeM, -, hlocM, -, -, -, hsigM⟩ := Cond.code_spec hnamed (hws _ List.mem_cons_self args s (State.WarmedH.refl s))
  cases hmethM.symm.trans hmethM'
  obtain ⟨c2, r2, m2, w1, w2, w3, w4, kP, hkP, hkPi⟩ := Cond.selects_spec hsel
  cases w1.symm.trans hclB
  cases (State.methodFound?_of_named hnamed (by decide +kernel)).symm.trans w2
  cases hnamed.symm.trans w3
  have hsel' : selectMethod e.platform s.vm cellB.cls mk = .method mk := by rw [Launch.admits_selectMethod X.admits]; exact w4
  have hinitP : kP.init = .initialized := Cond.initialized_spec (findClass_of_methodNamed hnamed) hkP hini
  have hlen : ([.int x, .int 0] : List Value).length = methM.sig.parameters.length := by
    have h2 : (parseMethodDescriptor y_X_step.desc).map (fun d => d.parameters.length) = some 2 := by decide +kernel
    rw [hsigM] at h2
    exact (Option.some.inj h2).symm
  obtain ⟨vm₁, X₁, hstep⟩ := X.invokevirtual hexec hown hlink hnamed hmethM hstM hkP hkPi (by decide +kernel) (a := b) (cell := cellB) hcB (VmData.ne_statics_of hoB) hsel' hmethM habM hkP hkPi (g := g) rfl (argsL := [.int x, .int 0]) (rest := rest) hlen hstack hdg
  have hW₁ := X₁.warmed
  have hal : s.vm.Alike vm₁ := hW₁.alike
  obtain ⟨kP', hkP', heP⟩ := hal.2.2 _ _ hkP
  have hat : At (T.setVm vm₁) ({ g with stack := rest } : JFrame).method c below := X₁.here
  have happ : (headSpec zWs z_rm).appliesLoose y_X_step e.platform ((T.setVm vm₁).calling { g with stack := rest } mk #[.ref b, .int x, .int 0]) = true :=
    Spec.appliesLoose_calling (g := { g with stack := rest }) hat hdg (X₁.named hnamed) hkP' (by rw [heP]; exact hinitP)
      (X₁.room_calling (g := { g with stack := rest }) (R' := z_rm) hsize (show vm₁.method? mk = some methM by rw [hal.method?]; exact hmethM) hcodeM (show 6 + 1 ≤ R.frames from hRf) (by rw [hlocM]; show 2 * g.monitorRoom + (rest.map fun v => v.category).sum + (3 + 11) + 100 ≤ R.locals; omega) hRc hRs)
      (atoms_intro fun w hw => hws w hw _ _ hW₁)
  obtain ⟨mid, hmid⟩ := hat.above
  have hfr : ((T.setVm vm₁).setTop { g with stack := rest }).frames = (.java { g with stack := rest } :: mid) ++ below := by rw [State.frames_setTop' _ hat.top, hmid]; rfl
  have hzc : zAt ((T.setVm vm₁).calling { g with stack := rest } mk #[.ref b, .int x, .int 0]) := zAt_warm (s := T.setVm vm₁) (State.WarmedH.refl _) (fun _ _ => rfl) (hz vm₁ hW₁)
  obtain ⟨o, s₂, hsteps, -, hend, hq⟩ := Steps.callFree (z_met l hl) p X₁.admits X₁.cas X₁.clock (acts := []) hfr happ ⟨⟨b, x, rfl⟩, hzc⟩ trivial
  obtain ⟨v, ce, rfl, hce, hcv, hccl, hW₂, hsm⟩ : z_Q #[.ref b, .int x, .int 0] ((T.setVm vm₁).calling { g with stack := rest } mk #[.ref b, .int x, .int 0]) o s₂ := hq
  rw [State.frames_setTop' _ hat.top] at hend
  have hf₂ : s₂.frames = .throwing v :: .java { g with stack := rest } :: (T.setVm vm₁).frames.tail := hend
  have hW' : (T.setVm vm₁).WarmedH s₂.vm := hW₂
  obtain ⟨q1, q2, q3, q4, q5, q6⟩ := id hsm
  obtain ⟨g₀, hg0⟩ := Option.isSome_iff_exists.mp hat.top
  obtain ⟨r, hr⟩ := State.topJava?_eq_some.mp hg0
  have e3 : s₂ = ({ ((T.setVm vm₁).calling { g with stack := rest } mk #[.ref b, .int x, .int 0]).setFrames s₂.frames with heap := s₂.heap, slotsUsed := s₂.slotsUsed } : State).setVm s₂.vm := by
    have h9 : s₂ = ({ s₂ with vm := ((T.setVm vm₁).calling { g with stack := rest } mk #[.ref b, .int x, .int 0]).vm } : State).setVm s₂.vm := rfl
    rw [q1] at h9
    exact h9
  have hs₂ : s₂ = ((({ T.setVm vm₁ with heap := s₂.heap, slotsUsed := s₂.slotsUsed } : State).setVm s₂.vm).setTop { g with stack := rest }).pushFrame (.throwing v) := by
    have hr' : (({ T.setVm vm₁ with heap := s₂.heap, slotsUsed := s₂.slotsUsed } : State).setVm s₂.vm).frames = .java g₀ :: r := hr
    refine e3.trans ?_
    rw [hf₂, State.calling_eq hat.top, State.setFrames_setFrames, State.pushFrame, State.frames_setTop _ hr', State.setTop_of_frames _ hr', State.setFrames_setFrames, hr]
    rfl
  have hsame : (T.setVm vm₁).sameButNew ({ T.setVm vm₁ with heap := s₂.heap, slotsUsed := s₂.slotsUsed } : State) [] 1 6 := by
    refine ⟨?_, q2, q3, q4, q5, q6⟩
    obtain ⟨t, ht, -⟩ := State.frames_cons hr
    show ({ T.setVm vm₁ with heap := s₂.heap, slotsUsed := s₂.slotsUsed } : State) = { (T.setVm vm₁).setFrames (T.setVm vm₁).frames with heap := s₂.heap, slotsUsed := s₂.slotsUsed }
    rw [State.setFrames_self ht]
  have hXs := X₁.same.trans (hsame.setVm s.vm)
  rw [List.append_nil] at hXs
  refine ⟨v, ({ T.setVm vm₁ with heap := s₂.heap, slotsUsed := s₂.slotsUsed } : State).setVm s₂.vm, ce, ⟨X₁.admits, X₁.cas, X₁.clock, X₁.frames, X₁.room, X₁.hears, X₁.method, X₁.code, (X₁.here.setHeapUsed s₂.heap s₂.slotsUsed).setVm hW'.alike, X₁.tail, State.WarmedH.trans hW₁ hW', X₁.limits, X₁.bytes, hXs⟩, q2, fun q hq => ?_, hce, hcv, ?_, ?_⟩
  · have hc9 : T.heap[q]? = some T.heap[q] := Array.getElem?_eq_getElem hq
    exact (State.sameButNew.kept_nil hsame (a := q) (c := T.heap[q]) hc9).trans hc9.symm
  · rw [← hal.findClass]; exact hccl
  · refine hstep _ fun acts => ?_
    rw [doInvoke_state, ← hs₂]
    exact hsteps
end ZC
