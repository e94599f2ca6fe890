/-! calls on a part of the world -/
section QS
variable {p : Program} {l : Launch} {e : Env} {R : Room} {s : State} {m : MethodId} {args : Array Value} {below : List Frame} {meth : Method} {c : Code} {Q : State → Prop} {cc : ByteArray} {nL : Nat} {D : va_G} {cl : List vw_C} {A : Nat → Prop} {own : String} {Ts : List Cond} {cI : ClassId}
variable {St : q_St} {y : MethodName} {ws ws' : List Cond} {rm : Room} {T : q_T} {C : String} {T' : u_T} {N' ci n k maxL : Nat} {bytes : ByteArray} {ret : Option FieldType} {host : String}
theorem q_subV (isC isR : List Nat) (hn : va_nd isR = true) (hnC : va_nd isC = true) (hdis : isR.all (fun i => !(isC.contains i)) = true) (hSt : q_StOK St) (hM : q_Met l y ws rm D cl [(cI, .int)] St T) (hT : GoodIn Ts (wsV own n C y ws)) (hw : ws = Cond.code y bytes maxL ret :: ws') (hd : y.cls = C ∧ y.cls ≠ "java/lang/invoke/MethodHandle" ∧ y.cls ≠ "java/lang/invoke/VarHandle" ∧ (parseMethodDescriptor y.desc).map (fun d => d.parameters.length) = some k) (hR : rm.frames + 1 ≤ R.frames ∧ 8 + (maxL + 11) + rm.locals ≤ R.locals) (hc : cl[ci]? = some (C, T', N')) :
    q_CalOK l R cc nL own Ts D cl cI St (.invokevirtual n) (k + 1) rm.cells rm.slots (q_Sub isC isR (q_V ci T)) := by
  refine q_subS isC isR hn hnC hdis (fun p e s m args below meth c A hC pc la as rest w K' H locs nc ns hdc hla hlen hcat h1 h2 hTT hP hD hS => ?_)
  obtain ⟨b, As, fs, q0, rfl, hq0, hTT⟩ := hTT
  obtain ⟨hx, hb, hml, hown, hts, hK, hA, hs⟩ := id hC
  refine va_runV (As := As) (rest := rest) ⟨hx, hb, hml, hown, hts⟩ (hM H.size (.ref b :: As) w K' hTT) (cwV k hts hT hw rfl rfl hd hR) ⟨q_blind hSt, va_recv hK hP hc hq0, fun U hU hW => q_pre hSt hC hP hD hS U hU hW⟩ rfl (Nat.succ.inj hlen) hla ?_ (lv_room hcat) hdc ⟨h1, h2⟩
  show (Value.ref b :: As).reverse ++ rest = _
  rw [List.reverse_cons, List.append_assoc]
  rfl
theorem q_subI (isC isR : List Nat) (hn : va_nd isR = true) (hnC : va_nd isC = true) (hdis : isR.all (fun i => !(isC.contains i)) = true) (hSt : q_StOK St) (hM : q_Met l y ws rm D cl [(cI, .int)] St T) (hG : GoodIn Ts ws) (hw : ws = Cond.code y bytes maxL none :: ws') (hini : Cond.initialized y.cls ∈ Ts) (hl : Cond.methodLink own n y ∈ Ts) (hin : Cond.instanceMethod y ∈ Ts) (hy1 : y.name = "<init>") (hd : y.cls ≠ "java/lang/invoke/MethodHandle" ∧ y.cls ≠ "java/lang/invoke/VarHandle" ∧ (parseMethodDescriptor y.desc).map (fun d => d.parameters.length) = some k) (hR : rm.frames + 1 ≤ R.frames ∧ 8 + (maxL + 11) + rm.locals ≤ R.locals) :
    q_CalOK l R cc nL own Ts D cl cI St (.invokespecial n) (k + 1) rm.cells rm.slots (q_Sub isC isR (q_V ci T)) := by
  refine q_subS isC isR hn hnC hdis (fun p e s m args below meth c A hC pc la as rest w K' H locs nc ns hdc hla hlen hcat h1 h2 hTT hP hD hS => ?_)
  obtain ⟨b, As, fs, q0, rfl, hq0, hTT⟩ := hTT
  obtain ⟨hx, hb, hml, hown, hts, hK, hA, hs⟩ := id hC
  refine va_runI (As := As) (rest := rest) ⟨hx, hb, hml, hown, hts⟩ (hM H.size (.ref b :: As) w K' hTT) (cwI k hts hG hw rfl rfl (hts _ hini) (hts _ hl) (hts _ hin) hy1 hd hR) ⟨q_blind hSt, fun U hU hW => q_pre hSt hC hP hD hS U hU hW⟩ rfl (Nat.succ.inj hlen) hla ?_ (lv_room hcat) hdc ⟨h1, h2⟩
  show (Value.ref b :: As).reverse ++ rest = _
  rw [List.reverse_cons, List.append_assoc]
  rfl
end QS
