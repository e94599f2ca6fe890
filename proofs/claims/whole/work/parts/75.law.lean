/-! the law: its world and its walker -/
section QW
variable {p : Program} {l : Launch} {e : Env} {R : Room} {s : State} {m : MethodId} {args : Array Value} {below : List Frame} {meth : Method} {c : Code} {Q : State → Prop} {cc : ByteArray} {nL : Nat} {D : va_G} {cl : List vw_C} {A : Nat → Prop} {own : String} {Ts : List Cond} {cI : ClassId}
variable {St : q_St} {y : MethodName} {ws ws' : List Cond} {rm : Room} {T : q_T} {n k maxL : Nat} {bytes : ByteArray} {ret : Option FieldType} {hh : List (Nat × Nat × Nat × Nat)}
theorem q_subSW (isC isR : List Nat) (hn : va_nd isR = true) (hnC : va_nd isC = true) (hdis : isR.all (fun i => !(isC.contains i)) = true) (hSt : q_StOK St) (hM : q_Met l y ws rm D cl [(cI, .int)] St T) (hT : GoodIn Ts (va_wsS own n y ws)) (hw : ws = Cond.codeWith y bytes maxL ret hh :: ws') (hd : y.cls ≠ "java/lang/invoke/MethodHandle" ∧ y.cls ≠ "java/lang/invoke/VarHandle" ∧ (parseMethodDescriptor y.desc).map (fun d => d.parameters.length) = some k) (hR : rm.frames + 1 ≤ R.frames ∧ 8 + (maxL + 11) + rm.locals ≤ R.locals) :
    q_CalOK l R cc nL own Ts D cl cI St (.invokestatic n) k rm.cells rm.slots (q_Sub isC isR T) := by
  refine q_subS isC isR hn hnC hdis (fun p e s m args below meth c A hC pc la as rest w K' H locs nc ns hdc hla hlen hcat h1 h2 hTT hP hD hS => ?_)
  obtain ⟨hx, hb, hml, hown, hts, hK, hA, hs⟩ := id hC
  have hG : GoodIn Ts ws := fun w h => hT w (List.mem_append_right _ h)
  have hcm : Cond.codeWith y bytes maxL ret hh ∈ ws := by rw [hw]; exact List.mem_cons_self
  have m1 : Cond.methodLink own n y ∈ va_wsS own n y ws := List.mem_append_left _ List.mem_cons_self
  have m2 : Cond.static y ∈ va_wsS own n y ws := List.mem_append_left _ (List.mem_cons_of_mem _ List.mem_cons_self)
  have m3 : Cond.initialized y.cls ∈ va_wsS own n y ws := List.mem_append_left _ (List.mem_cons_of_mem _ (List.mem_cons_of_mem _ List.mem_cons_self))
  have hKB := va_backW (p := p) (e := e) (below := below) (sargs := args) (len := 3) (W := 8) (R := R) (s := s) (hh := hh) (bytes := bytes) (maxL := maxL) (ret := ret) (hM H.size as w K' hTT) (q_blind hSt) rfl rfl hR.1 hR.2 (pay_in hts hG) hcm (fun a' U hW => word_at hW (hT _ m3).2 (hts _ (hT _ m3).1))
  intro T0 hT0 X
  obtain ⟨mk, methM, cM, hnamed, hmethM, -, -, -, -, -, -, hsigM⟩ := Cond.codeWith_spec (hts _ (hG _ hcm).1)
  have hstatic : methM.isStatic = true := Cond.static_spec hnamed hmethM (hts _ (hT _ m2).1)
  obtain ⟨kP, hkP, -⟩ := className_of_methodNamed hnamed
  have hinitP : kP.init = .initialized := Cond.initialized_spec (findClass_of_methodNamed hnamed) hkP (hts _ (hT _ m3).1)
  have hln : as.length = methM.sig.parameters.length := by
    have h9 := hd.2.2
    rw [hsigM] at h9
    exact hlen.trans (Option.some.inj h9).symm
  obtain ⟨vm₁, X₁, hstep₁⟩ := X.invokestatic hx hown (hts _ (hT _ m1).1) hnamed hmethM hstatic hkP hinitP ⟨hd.1, hd.2.1⟩ (g := F0 m pc la (as.reverse ++ rest)) rfl (argsL := as) (rest := rest) hln rfl (by rw [hb]; exact hdc)
  obtain ⟨v, ⟨U', l2, c2, s2⟩, X', ⟨g', mk', t, L, e1, e2, hq, l1, hL, l3, l4⟩, hsteps⟩ := hKB m meth c ⟨T0.setVm vm₁, locs, nc, ns⟩ { F0 m pc la (as.reverse ++ rest) with stack := rest } (.invokestatic n) mk as.toArray X₁ rfl (hla.trans hml.symm) (by rw [hb]; exact hdc) (lv_room hcat) (X₁.named hnamed) ⟨h1, h2, q_pre hSt hC hP hD hS _ hT0 X₁.warmed⟩
  dsimp only [Pt.U, Pt.locs, Pt.cells, Pt.slots] at X' e1 e2 l1 l3 l4 hsteps
  subst l1; subst l3; subst l4
  exact ⟨v, (T0.setVm vm₁).calling g' mk' as.toArray, t, U', L, hT0, X', hL, e1, e2, hq, fun target h => hstep₁ _ fun acts => by rw [doInvoke_state]; exact hsteps.trans h⟩
end QW
def oC (cL : ClassId) (o : Nat) (f : Nat → Int64) : Nat × va_E := (o, .inl (cL, 1, .inr (.inl f)))
def wL (cI cL : ClassId) (ad : Nat → Nat) (F : Nat → Int32) (A : Nat → Nat → Int32) (am : Nat → Nat) (Fm : Nat → Int32) (Am : Nat → Nat → Int32) (o : Nat) (f : Nat → Int64) : va_W := wX cI ad F A ++ (wM cI am Fm Am ++ [oC cL o f])
def tbL (b L : Nat) (xs : Nat → Int32) : Nat → Nat → (Nat → Int32) → Prop := fun a n f => a = b ∧ n = L ∧ f = xs
def stL (tv : Nat) (cL : ClassId) (D : va_G) (b L : Nat) (xs : Nat → Int32) : q_St := fun A U H => stS tv cL D A U H ∧ va_T .int b L (fun j => .int (xs j)) A U H
def kS_L_law (cI cL : ClassId) (tv : Nat) : List (Nat × (Nat × Nat × Nat × q_T)) := [(92, 4, 1, 6, q_Sub isXo isM (T_L_step cI cL tv))]
def F_L_law (cI cL : ClassId) (tv b L : Nat) (xs : Nat → Int32) : q_K → q_G → q_G := fun K => q_FL (q_F c_L_law (q_as []) (q_as []) (q_as []) (q_cal (kV_L_law cI tv) (kI_L_law cI tv) (kS_L_law cI cL tv)) (q_as nw_L) cI (tbL b L xs) 7 1071 24035 (some FieldType.boolean) K) c_L_law cL 1071 24035
theorem q_CalMap2 {l : Launch} {R : Room} {cc : ByteArray} {nL : Nat} {own : String} {Ts : List Cond} {D : va_G} {cl : List vw_C} {cI : ClassId} {St St' : q_St} (h : ∀ (A : Nat → Prop) (U : State) (H : Heap), St' A U H → St A U H) {L : List (Nat × (Nat × Nat × Nat × q_T))} {i : Nat → Instr} (hc : ∀ q ∈ L, q_CalOK l R cc nL own Ts D cl cI St (i q.1) q.2.1 q.2.2.1 q.2.2.2.1 q.2.2.2.2) : ∀ q ∈ L, q_CalOK l R cc nL own Ts D cl cI St' (i q.1) q.2.1 q.2.2.1 q.2.2.2.1 q.2.2.2.2 := fun q hq => q_CalMap h (hc q hq)
theorem q_L_ok (l : Launch) (hl : l.stackTraces = false) (D : va_G) (cI cL : ClassId) (tv b L : Nat) (xs : Nat → Int32) {c : Cond} : q_OK c_L_law (q_as []) (q_as []) (q_as []) (q_cal (kV_L_law cI tv) (kI_L_law cI tv) (kS_L_law cI cL tv)) (q_as nw_L) (tbL b L xs) l room_1 code 7 "SpellPitchLaw" (c :: aW) D cls5 cI (stL tv cL D b L xs) false :=
  ⟨ct_L_law, (fun n ci k ty wr h => by cases h), (fun n v h => by cases h), (fun n v h => by cases h), (fun a n f h A U H hs => by obtain ⟨rfl, rfl, rfl⟩ := h; exact hs.2),
    q_cal_ok (kV_L_ok (fun A U H h => h.1.1)) (kI_L_ok (fun A U H h => h.1.1)) (q_cons (q_CalMap (fun A U H h => h.1) (q_subSW isXo isM (by decide) (by decide) (by decide) (k := 4) (stSOK tv cL D) (M_L_step l hl D cI cL tv) (gS kw_434 kw_435 kw_0 kw_436) rfl (by decide +kernel) ⟨by decide, by decide⟩)) q_nil), nw_L_ok, Or.inl (by decide +kernel)⟩
