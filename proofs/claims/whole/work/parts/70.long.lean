/-! the walker, with an array of longs -/
def q_FL (F : q_G → q_G) (S : q_C) (cL : ClassId) (RC RS : Nat) (G : q_G) : q_G := fun pc ls st w nc ns => F G pc ls st w nc ns ∨ (match q_tab S pc with
  | some .i2l => (match st with
    | .int x :: r => G (pc + 1) ls (.long x.toInt64 :: r) w nc ns
    | _ => False)
  | some .lcmp => (match st with
    | .long y :: .long x :: r => x = y ∧ G (pc + 1) ls (.int 0 :: r) w nc ns
    | _ => False)
  | some .laload => (match st with
    | .int j :: .ref a :: r => ∃ (q0 n : Nat) (f : Nat → Int64), w[q0]? = some (a, .inl (cL, n, .inr (.inl f))) ∧ vp_in j n ∧ G (pc + 1) ls (.long (f j.toNatClampNeg) :: r) w nc ns
    | _ => False)
  | some .lastore => (match st with
    | .long x :: .int j :: .ref a :: r => ∃ (q0 n : Nat) (f : Nat → Int64), w[q0]? = some (a, .inl (cL, n, .inr (.inl f))) ∧ vp_in j n ∧ G (pc + 1) ls r (w.set q0 (a, .inl (cL, n, .inr (.inl (vp_updL f j.toNatClampNeg x))))) nc ns
    | _ => False)
  | some (.newarray .long) => (match st with
    | .int n :: r => ¬ n < 0 ∧ n.toNatClampNeg * 8 ≤ 536870912 ∧ nc + 1 ≤ RC ∧ ns + n.toNatClampNeg ≤ RS ∧ ∀ q : Nat, G (pc + 2) ls (.ref q :: r) (w ++ [(q, .inl (cL, n.toNatClampNeg, .inr (.inl (fun _ => 0))))]) (nc + 1) (ns + n.toNatClampNeg)
    | _ => False)
  | _ => False)
section QL
variable {p : Program} {l : Launch} {e : Env} {R : Room} {s : State} {m : MethodId} {args : Array Value} {below : List Frame} {meth : Method} {c : Code} {Q : State → Prop} {cc : ByteArray} {nL : Nat} {D : va_G} {cl : List vw_C} {A : Nat → Prop} {cL : ClassId} {H : Heap} {locs : List Loc} {cells slots pc : Nat} {ls : Array Slot} {rest : List Value}
theorem q_lcmp (hexec : p.tables.exec = Jvm.exec) (hb : c.code = cc) {x : Int64} (hdg : decode cc pc = .ok (.lcmp, 1)) (k : W p l e R s m args below meth c H locs cells slots Q (F0 m (pc + 1) ls (.int 0 :: rest))) : W p l e R s m args below meth c H locs cells slots Q (F0 m pc ls (.long x :: .long x :: rest)) := by
  intro T hT X
  obtain ⟨t, a, b⟩ := k T hT X
  refine ⟨t, ?_, b⟩
  jvm_step X.here [X.here.top, hexec, hb, hdg]
  exact a
theorem q_cL {cA : ClassId} (hK : va_K D cl [(cL, .long)] s) (h : va_K D cl ([(cL, FieldType.long)] ++ [(cA, .long)]) s) : cA = cL := by
  have h1 : s.vm.findClass ("[" ++ FieldType.long.toString) = some cL := (hK.2 0 _ rfl).2
  have h2 : s.vm.findClass ("[" ++ FieldType.long.toString) = some cA := (h.2 1 _ rfl).2
  exact Option.some.inj (h2.symm.trans h1)
theorem q_soundL {F : q_G → q_G} {S : q_C} {RC RS : Nat} (hx : p.tables.exec = Jvm.exec) (hb : c.code = cc) (htab : S.all (fun x => x.2.all (q_dec cc)) = true) (hK : va_K D cl [(cL, .long)] s) (hA : ∀ q : Nat, s.heap.size ≤ q → A q) (harr : S.all (fun x => x.2.all (fun y => !(decide (y.2 = .newarray .long)))) = true ∨ (Cond.arrayClass .long).before args s = true)
    (hRC : RC = R.cells) (hRS : RS = R.slots) (hF : q_Cl F (q_M p l e R s m args below meth c Q nL D cl A)) : q_Cl (q_FL F S cL RC RS) (q_M p l e R s m args below meth c Q nL D cl A) := by
  refine ⟨fun pc ls st w nc ns h => ?_, hF.2.1, hF.2.2⟩
  rcases h with h | h
  · exact hF.1 pc ls st w nc ns h
  intro H locs la hl hP hD hS
  cases ht : q_tab S pc with
  | none => rw [ht] at h; exact h.elim
  | some i =>
    rw [ht] at h
    obtain ⟨n0, hd, hn0⟩ := q_tab_ok htab ht
    cases i with
    | i2l =>
      cases hn0.resolve_left (Nat.succ_ne_zero _)
      dsimp only at h
      split at h
      · exact lv_i2l hx hb hd rfl (h H locs la hl hP hD hS)
      · exact h.elim
    | lcmp =>
      cases hn0.resolve_left (Nat.succ_ne_zero _)
      dsimp only at h
      split at h
      · obtain ⟨e1, h⟩ := h
        subst e1
        exact q_lcmp hx hb hd (h H locs la hl hP hD hS)
      · exact h.elim
    | laload =>
      cases hn0.resolve_left (Nat.succ_ne_zero _)
      dsimp only at h
      split at h
      · obtain ⟨q0, n, f, h1, h2, h3⟩ := h
        exact va_lald hx hb hK hP q0 0 h1 rfl h2 hd (h3 H locs la hl hP hD hS)
      · exact h.elim
    | lastore =>
      cases hn0.resolve_left (Nat.succ_ne_zero _)
      dsimp only at h
      split at h
      · obtain ⟨q0, n, f, h1, h2, h3⟩ := h
        exact va_last hx hb hK hP hD hS q0 0 h1 rfl h2 hd (fun H1 locs1 hP1 hD1 hS1 => h3 H1 locs1 la hl hP1 hD1 hS1)
      · exact h.elim
    | newarray ty =>
      cases hn0.resolve_left (Nat.succ_ne_zero _)
      cases ty with
      | long =>
        dsimp only at h
        split at h
        · rename_i n r
          obtain ⟨h1, h2, h3, h4, h5⟩ := h
          have ha2 : (Cond.arrayClass .long).before args s = true := by
            rcases harr with g | g
            · exact absurd (q_tab_all g ht) (by simp)
            · exact g
          refine va_newa (ty := .long) (a0 := (n.toNatClampNeg, .inr (.inl (fun _ => 0)))) hx hb (atype := .long) ha2 rfl hK hP hD hS hA (fun cA => rfl) h1 rfl h2 (by rw [← hRC]; exact h3) (by rw [← hRS]; exact h4) hd (fun q cA H1 hK1 hP1 hD1 hS1 => ?_)
          have hcA := q_cL hK hK1
          subst hcA
          exact h5 q H1 locs la hl hP1 hD1 hS1
        · exact h.elim
      | _ => exact h.elim
    | _ => exact h.elim
end QL
theorem q_CalMap {l : Launch} {R : Room} {cc : ByteArray} {nL : Nat} {own : String} {Ts : List Cond} {D : va_G} {cl : List vw_C} {cI : ClassId} {St St' : q_St} {i : Instr} {na mc ms : Nat} {T : q_T} (h : ∀ (A : Nat → Prop) (U : State) (H : Heap), St' A U H → St A U H) (hc : q_CalOK l R cc nL own Ts D cl cI St i na mc ms T) : q_CalOK l R cc nL own Ts D cl cI St' i na mc ms T :=
  fun p e s m args below meth c A hC => hc p e s m args below meth c A ⟨hC.1, hC.2.1, hC.2.2.1, hC.2.2.2.1, hC.2.2.2.2.1, hC.2.2.2.2.2.1, hC.2.2.2.2.2.2.1, h _ _ _ hC.2.2.2.2.2.2.2⟩
