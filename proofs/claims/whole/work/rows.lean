section
/-! the walker: bytecode as a predicate transformer over worlds (lists of cells), sound for the machine -/
abbrev q_L : Type := List (Nat × Value)
abbrev q_G : Type := Nat → q_L → List Value → va_W → Nat → Nat → Prop
abbrev q_K : Type := Option Value → va_W → Prop
abbrev q_T : Type := List Value → va_W → q_K → Prop
def q_look : q_L → Nat → Option Value
  | [], _ => none
  | q :: r, i => cond (Nat.beq q.1 i) (some q.2) (q_look r i)
theorem q_look_in : ∀ {ls : q_L} {i : Nat} {v : Value}, q_look ls i = some v → (i, v) ∈ ls
  | [], _, _, h => by cases h
  | q :: r, i, v, h => by
    unfold q_look at h
    cases hb : Nat.beq q.1 i with
    | true =>
      rw [hb] at h
      have e1 : q.1 = i := Nat.eq_of_beq_eq_true hb
      have e2 : q.2 = v := Option.some.inj h
      rw [← e1, ← e2]
      exact List.mem_cons_self
    | false =>
      rw [hb] at h
      exact List.mem_cons_of_mem _ (q_look_in h)
def q_keep (i : Nat) (q : Nat × Value) : Bool := !(q.1 == i) && !(q.1 + 1 == i && q.2.category == 2)
def q_put : q_L → Nat → Value → q_L
  | [], i, v => [(i, v)]
  | q :: r, i, v => cond (Nat.beq q.1 i) ((i, v) :: r.filter (q_keep i)) (cond (q_keep i q) (q :: q_put r i v) (q_put r i v))
theorem q_put_in : ∀ {ls : q_L} {i : Nat} {v : Value}, ∀ x ∈ q_put ls i v, x ∈ (i, v) :: ls.filter (q_keep i)
  | [], i, v, x, h => h
  | q :: r, i, v, x, h => by
    unfold q_put at h
    have sub : ∀ y, y ∈ (i, v) :: r.filter (q_keep i) → y ∈ (i, v) :: (q :: r).filter (q_keep i) := by
      intro y hy
      rcases List.mem_cons.mp hy with h1 | h1
      · rw [h1]; exact List.mem_cons_self
      · refine List.mem_cons_of_mem _ ?_
        rw [List.mem_filter] at h1 ⊢
        exact ⟨List.mem_cons_of_mem _ h1.1, h1.2⟩
    cases hb : Nat.beq q.1 i with
    | true =>
      rw [hb] at h
      exact sub x h
    | false =>
      rw [hb] at h
      cases hk : q_keep i q with
      | true =>
        rw [hk] at h
        rcases List.mem_cons.mp h with h1 | h1
        · rw [h1]
          refine List.mem_cons_of_mem _ ?_
          rw [List.mem_filter]
          exact ⟨List.mem_cons_self, hk⟩
        · exact sub x (q_put_in x h1)
      | false =>
        rw [hk] at h
        exact sub x (q_put_in x h)
theorem q_put_has {la : Array Slot} {nL i : Nat} {v : Value} {ls : q_L} (h : lv_has la nL ((i, v) :: ls.filter (fun q => !(q.1 == i) && !(q.1 + 1 == i && q.2.category == 2)))) : lv_has la nL (q_put ls i v) := ⟨h.1, h.2.1, fun q hq => h.2.2 q (q_put_in q hq)⟩
def q_jmp (pc : Nat) (off : Int) (k : Nat → Prop) : Prop := match (pc : Int) + off with
  | .ofNat t => k t
  | .negSucc _ => False
theorem q_jmp_to {pc : Nat} {off : Int} {k : Nat → Prop} (h : q_jmp pc off k) : ∃ t : Nat, (pc : Int) + off = (t : Int) ∧ k t := by
  unfold q_jmp at h
  cases e : (pc : Int) + off with
  | ofNat t => rw [e] at h; exact ⟨t, rfl, h⟩
  | negSucc t => rw [e] at h; exact h.elim
def q_find : List (Nat × Instr) → Nat → Option Instr
  | [], _ => none
  | q :: r, pc => cond (Nat.beq q.1 pc) (some q.2) (q_find r pc)
theorem q_find_in : ∀ {L : List (Nat × Instr)} {pc : Nat} {i : Instr}, q_find L pc = some i → (pc, i) ∈ L
  | [], _, _, h => by cases h
  | q :: r, pc, i, h => by
    unfold q_find at h
    cases hb : Nat.beq q.1 pc with
    | true =>
      rw [hb] at h
      have e1 : q.1 = pc := Nat.eq_of_beq_eq_true hb
      have e2 : q.2 = i := Option.some.inj h
      rw [← e1, ← e2]
      exact List.mem_cons_self
    | false =>
      rw [hb] at h
      exact List.mem_cons_of_mem _ (q_find_in h)
/-- a method's instructions, in runs: each with the first pc behind it -/
abbrev q_C : Type := List (Nat × List (Nat × Instr))
def q_tab : q_C → Nat → Option Instr
  | [], _ => none
  | s :: r, pc => cond (Nat.blt pc s.1) (q_find s.2 pc) (q_tab r pc)
def q_len : Instr → Nat
  | .aload _ => 2
  | .astore _ => 2
  | .iload _ => 2
  | .istore _ => 2
  | .lload _ => 2
  | .lstore _ => 2
  | .bipush _ => 2
  | .ldc _ => 2
  | .newarray _ => 2
  | .sipush _ => 3
  | .iinc _ _ => 3
  | .getfield _ => 3
  | .putfield _ => 3
  | .getstatic _ => 3
  | .goto _ => 3
  | .ifCond _ _ => 3
  | .if_icmp _ _ => 3
  | .if_acmp _ _ => 3
  | .ifnull _ => 3
  | .ifnonnull _ => 3
  | .invokevirtual _ => 3
  | .invokespecial _ => 3
  | .invokestatic _ => 3
  | .new _ => 3
  | .anewarray _ => 3
  | .ldc2_w _ => 3
  | .tableswitch _ _ _ _ => 0
  | .lookupswitch _ _ => 0
  | _ => 1
def q_dec (cc : ByteArray) (q : Nat × Instr) : Bool := match decode cc q.1 with
  | .ok (i, n) => decide (i = q.2) && (Nat.beq (q_len q.2) 0 || Nat.beq n (q_len q.2))
  | _ => false
theorem q_tab_ok {cc : ByteArray} : ∀ {S : q_C} (hS : S.all (fun s => s.2.all (q_dec cc)) = true) {pc : Nat} {i : Instr}, q_tab S pc = some i → ∃ n, decode cc pc = .ok (i, n) ∧ (q_len i = 0 ∨ n = q_len i)
  | [], _, _, _, h => by cases h
  | s :: r, hS, pc, i, h => by
    rw [List.all_cons, Bool.and_eq_true] at hS
    unfold q_tab at h
    cases hb : Nat.blt pc s.1 with
    | true =>
      rw [hb] at h
      have hd := List.all_eq_true.mp hS.1 _ (q_find_in h)
      unfold q_dec at hd
      dsimp only at hd
      cases e : decode cc pc with
      | error x => rw [e] at hd; cases hd
      | ok y =>
        obtain ⟨j, n⟩ := y
        rw [e] at hd
        simp only [Bool.and_eq_true, decide_eq_true_eq, Bool.or_eq_true] at hd
        obtain ⟨rfl, h2⟩ := hd
        refine ⟨n, rfl, ?_⟩
        rcases h2 with h2 | h2
        · exact Or.inl (Nat.eq_of_beq_eq_true h2)
        · exact Or.inr (Nat.eq_of_beq_eq_true h2)
    | false =>
      rw [hb] at h
      exact q_tab_ok hS.2 h
theorem q_tab_all {P : Nat × Instr → Bool} : ∀ {S : q_C} (hS : S.all (fun s => s.2.all P) = true) {pc : Nat} {i : Instr}, q_tab S pc = some i → P (pc, i) = true
  | [], _, _, _, h => by cases h
  | s :: r, hS, pc, i, h => by
    rw [List.all_cons, Bool.and_eq_true] at hS
    unfold q_tab at h
    cases hb : Nat.blt pc s.1 with
    | true =>
      rw [hb] at h
      exact List.all_eq_true.mp hS.1 _ (q_find_in h)
    | false =>
      rw [hb] at h
      exact q_tab_all hS.2 h
def q_if (c : Jvm.ClassFile.Cond) (x y : Int32) (a b : Prop) : Prop := match c with
  | .eq => (x = y → a) ∧ (¬ x = y → b)
  | .ne => (¬ x = y → a) ∧ (x = y → b)
  | .lt => (x < y → a) ∧ (¬ x < y → b)
  | .ge => (y ≤ x → a) ∧ (¬ y ≤ x → b)
  | .gt => (y < x → a) ∧ (¬ y < x → b)
  | .le => (x ≤ y → a) ∧ (¬ x ≤ y → b)
def q_c1 (v : Value) : Bool := Nat.beq v.category 1
/-- one step, backwards: what must hold at (pc, locals, stack, world, cells, slots) so that G holds behind it, or K at the end -/
def q_F (S : q_C) (fld : Nat → Option (Nat × Nat × FieldType × Bool)) (sta : Nat → Option Value) (ldc : Nat → Option Int32) (cal : Nat → Nat → Option (Nat × Nat × Nat × q_T)) (nw : Nat → Option (Nat × Nat × List Value)) (cI : ClassId) (tb : Nat → Nat → (Nat → Int32) → Prop) (nL RC RS : Nat) (ret : Option FieldType) (K : q_K) (G : q_G) (pc : Nat) (ls : q_L) (st : List Value) (w : va_W) (nc ns : Nat) : Prop :=
  match q_tab S pc with
  | none => False
  | some i => match i with
    | .aconst_null => G (pc + 1) ls (.null :: st) w nc ns
    | .iconst z => G (pc + 1) ls (.int (Int32.ofInt z) :: st) w nc ns
    | .bipush z => G (pc + 2) ls (.int (Int8.ofInt z).toInt32 :: st) w nc ns
    | .sipush z => G (pc + 3) ls (.int (Int16.ofInt z).toInt32 :: st) w nc ns
    | .ldc n => match ldc n with
      | some v => G (pc + 2) ls (.int v :: st) w nc ns
      | none => False
    | .iload n => match q_look ls n with
      | some (.int x) => G (pc + 2) ls (.int x :: st) w nc ns
      | _ => False
    | .iload_n n => match q_look ls n.val with
      | some (.int x) => G (pc + 1) ls (.int x :: st) w nc ns
      | _ => False
    | .aload n => match q_look ls n with
      | some (.ref x) => G (pc + 2) ls (.ref x :: st) w nc ns
      | _ => False
    | .aload_n n => match q_look ls n.val with
      | some (.ref x) => G (pc + 1) ls (.ref x :: st) w nc ns
      | _ => False
    | .istore n => match st with
      | .int x :: r => cond (Nat.blt n nL) (G (pc + 2) (q_put ls n (.int x)) r w nc ns) False
      | _ => False
    | .istore_n n => match st with
      | .int x :: r => cond (Nat.blt n.val nL) (G (pc + 1) (q_put ls n.val (.int x)) r w nc ns) False
      | _ => False
    | .astore n => match st with
      | .ref x :: r => cond (Nat.blt n nL) (G (pc + 2) (q_put ls n (.ref x)) r w nc ns) False
      | _ => False
    | .astore_n n => match st with
      | .ref x :: r => cond (Nat.blt n.val nL) (G (pc + 1) (q_put ls n.val (.ref x)) r w nc ns) False
      | _ => False
    | .iinc n z => match q_look ls n with
      | some (.int x) => cond (Nat.blt n nL) (G (pc + 3) (q_put ls n (.int (x + Int32.ofInt z))) st w nc ns) False
      | _ => False
    | .iadd => match st with
      | .int y :: .int x :: r => G (pc + 1) ls (.int (x + y) :: r) w nc ns
      | _ => False
    | .isub => match st with
      | .int y :: .int x :: r => G (pc + 1) ls (.int (x - y) :: r) w nc ns
      | _ => False
    | .imul => match st with
      | .int y :: .int x :: r => G (pc + 1) ls (.int (x * y) :: r) w nc ns
      | _ => False
    | .idiv => match st with
      | .int y :: .int x :: r => ¬ y = 0 ∧ G (pc + 1) ls (.int (x / y) :: r) w nc ns
      | _ => False
    | .irem => match st with
      | .int y :: .int x :: r => ¬ y = 0 ∧ G (pc + 1) ls (.int (x - x / y * y) :: r) w nc ns
      | _ => False
    | .iand => match st with
      | .int y :: .int x :: r => G (pc + 1) ls (.int (x &&& y) :: r) w nc ns
      | _ => False
    | .ixor => match st with
      | .int y :: .int x :: r => G (pc + 1) ls (.int (x ^^^ y) :: r) w nc ns
      | _ => False
    | .ineg => match st with
      | .int x :: r => G (pc + 1) ls (.int (-x) :: r) w nc ns
      | _ => False
    | .dup => match st with
      | v :: r => cond (q_c1 v) (G (pc + 1) ls (v :: v :: r) w nc ns) False
      | _ => False
    | .pop => match st with
      | v :: r => cond (q_c1 v) (G (pc + 1) ls r w nc ns) False
      | _ => False
    | .dup_x1 => match st with
      | v :: u :: r => cond (q_c1 v && q_c1 u) (G (pc + 1) ls (v :: u :: v :: r) w nc ns) False
      | _ => False
    | .dup2 => match st with
      | v :: u :: r => cond (q_c1 v && q_c1 u) (G (pc + 1) ls (v :: u :: v :: u :: r) w nc ns) False
      | _ => False
    | .getfield n => match st with
      | .ref a :: r => match fld n with
        | some (ci, k, _, _) => ∃ (q0 : Nat) (fs : List Value) (v : Value), w[q0]? = some (a, .inr (ci, fs)) ∧ fs[k]? = some v ∧ G (pc + 3) ls (v :: r) w nc ns
        | none => False
      | _ => False
    | .putfield n => match st with
      | v :: .ref a :: r => match fld n with
        | some (ci, k, ty, true) => ∃ (q0 : Nat) (fs : List Value), w[q0]? = some (a, .inr (ci, fs)) ∧ k < fs.length ∧ narrow ty v = v ∧ fits ty v = true ∧ G (pc + 3) ls r (w.set q0 (a, .inr (ci, fs.set k v))) nc ns
        | _ => False
      | _ => False
    | .getstatic n => match sta n with
      | some v => G (pc + 3) ls (v :: st) w nc ns
      | none => False
    | .iaload => match st with
      | .int j :: .ref a :: r => (∃ (q0 n : Nat) (f : Nat → Int32), w[q0]? = some (a, .inl (cI, n, .inl f)) ∧ vp_in j n ∧ G (pc + 1) ls (.int (f j.toNatClampNeg) :: r) w nc ns) ∨ (∃ (n : Nat) (f : Nat → Int32), tb a n f ∧ vp_in j n ∧ G (pc + 1) ls (.int (f j.toNatClampNeg) :: r) w nc ns)
      | _ => False
    | .iastore => match st with
      | .int x :: .int j :: .ref a :: r => ∃ (q0 n : Nat) (f : Nat → Int32), w[q0]? = some (a, .inl (cI, n, .inl f)) ∧ vp_in j n ∧ G (pc + 1) ls r (w.set q0 (a, .inl (cI, n, .inl (upd f j.toNatClampNeg x)))) nc ns
      | _ => False
    | .arraylength => match st with
      | .ref a :: r => ∃ (q0 n : Nat) (f : Nat → Int32), w[q0]? = some (a, .inl (cI, n, .inl f)) ∧ G (pc + 1) ls (.int (Int32.ofNat n) :: r) w nc ns
      | _ => False
    | .goto off => q_jmp pc off (fun t => G t ls st w nc ns)
    | .ifCond c off => match st with
      | .int x :: r => q_jmp pc off (fun t => q_if c x 0 (G t ls r w nc ns) (G (pc + 3) ls r w nc ns))
      | _ => False
    | .if_icmp c off => match st with
      | .int y :: .int x :: r => q_jmp pc off (fun t => q_if c x y (G t ls r w nc ns) (G (pc + 3) ls r w nc ns))
      | _ => False
    | .tableswitch d lo hi offs => match st with
      | .int x :: r => ((x.toInt < lo ∨ hi < x.toInt) → q_jmp pc d (fun t => G t ls r w nc ns)) ∧ ∀ k : Nat, x.toInt = lo + k → x.toInt ≤ hi → match offs.toList[k]? with
        | some off => q_jmp pc off (fun t => G t ls r w nc ns)
        | none => False
      | _ => False
    | .lookupswitch d ps => match st with
      | .int x :: r => (ps.toList.zip (ps.toList.drop 1)).all (fun (a, next) => a.1 < next.1) = true ∧ ∀ off : Int, Op.lookupswitch.offset ps.toList d x.toInt = off → q_jmp pc off (fun t => G t ls r w nc ns)
      | _ => False
    | .invokevirtual n => match cal 0 n with
      | some (na, mc, ms, T) => na ≤ st.length ∧ nc + mc ≤ RC ∧ ns + ms ≤ RS ∧ ((st.drop na).map fun v => v.category).sum ≤ 8 ∧ T (st.take na).reverse w (fun r w' => G (pc + 3) ls (r.toList ++ st.drop na) w' (nc + mc) (ns + ms))
      | none => False
    | .invokespecial n => match cal 1 n with
      | some (na, mc, ms, T) => na ≤ st.length ∧ nc + mc ≤ RC ∧ ns + ms ≤ RS ∧ ((st.drop na).map fun v => v.category).sum ≤ 8 ∧ T (st.take na).reverse w (fun r w' => G (pc + 3) ls (r.toList ++ st.drop na) w' (nc + mc) (ns + ms))
      | none => False
    | .invokestatic n => match cal 2 n with
      | some (na, mc, ms, T) => na ≤ st.length ∧ nc + mc ≤ RC ∧ ns + ms ≤ RS ∧ ((st.drop na).map fun v => v.category).sum ≤ 8 ∧ T (st.take na).reverse w (fun r w' => G (pc + 3) ls (r.toList ++ st.drop na) w' (nc + mc) (ns + ms))
      | none => False
    | .new n => match nw n with
      | some (ci, N, fs) => nc + 1 ≤ RC ∧ ns + N ≤ RS ∧ ∀ q : Nat, G (pc + 3) ls (.ref q :: st) (w ++ [(q, .inr (ci, fs))]) (nc + 1) (ns + N)
      | none => False
    | .newarray .int => match st with
      | .int n :: r => ¬ n < 0 ∧ n.toNatClampNeg * 4 ≤ 536870912 ∧ nc + 1 ≤ RC ∧ ns + n.toNatClampNeg ≤ RS ∧ ∀ q : Nat, G (pc + 2) ls (.ref q :: r) (w ++ [(q, .inl (cI, n.toNatClampNeg, .inl (fun _ => 0)))]) (nc + 1) (ns + n.toNatClampNeg)
      | _ => False
    | .ireturn => match st with
      | [.int v] => match ret with
        | some ty => narrow ty (.int v) = .int v ∧ nc ≤ RC ∧ ns ≤ RS ∧ K (some (.int v)) w
        | none => False
      | _ => False
    | .areturn => match st with
      | [.ref a] => match ret with
        | some (.object _) => nc ≤ RC ∧ ns ≤ RS ∧ K (some (.ref a)) w
        | some (.array _) => nc ≤ RC ∧ ns ≤ RS ∧ K (some (.ref a)) w
        | _ => False
      | _ => False
    | .return_ => match st with
      | [] => match ret with
        | none => nc ≤ RC ∧ ns ≤ RS ∧ K none w
        | some _ => False
      | _ => False
    | _ => False
def q_Cl (F : q_G → q_G) (G : q_G) : Prop := (∀ (pc : Nat) (ls : q_L) (st : List Value) (w : va_W) (nc ns : Nat), F G pc ls st w nc ns → G pc ls st w nc ns) ∧ (∀ (pc : Nat) (ls ls' : q_L) (st : List Value) (w : va_W) (nc ns : Nat), (∀ q ∈ ls, q ∈ ls') → G pc ls st w nc ns → G pc ls' st w nc ns)
theorem q_lsub {ls ls' : q_L} (ks : List Nat) (h : lv_pick ls' ks = ls) : ∀ q ∈ ls, q ∈ ls' := by
  intro q hq
  rw [← h] at hq
  obtain ⟨k, -, hk⟩ := List.mem_filterMap.mp hq
  exact List.mem_of_getElem? hk
def q_Fn (F : q_G → q_G) : Nat → q_G → q_G
  | 0, G => G
  | n + 1, G => F (q_Fn F n G)
/-- what a method does: K holds behind it, by whatever walk its code allows -/
def q_wp (F : q_K → q_G → q_G) : q_T := fun as w K => ∀ G : q_G, q_Cl (F K) G → G 0 (lv_args 0 as) [] w 0 0
/-- the contract of a method by what it does -/
def q_Qc (K : q_K) (D : va_G) (cl : List vw_C) (tys : List (ClassId × FieldType)) (A : Nat → Prop) : Array Value → State → Outcome → State → Prop := fun _ st oc t => (∃ (r : Option Value) (w' : va_W), oc = .returned r ∧ K r w' ∧ va_P D cl w' t.heap ∧ va_K D cl tys t ∧ va_D A w') ∧ va_F A st t
abbrev q_St : Type := (Nat → Prop) → State → Heap → Prop
def q_StOK (St : q_St) : Prop := (∀ (A : Nat → Prop) (s U : State) (H : Heap), s.WarmedH U.vm → St A s H → St A U H) ∧ (∀ (A : Nat → Prop) (U : State) (H H1 : Heap), St A U H → (∀ a : Nat, a < H.size → ¬ A a → H1[a]? = H[a]?) → St A U H1) ∧ (∀ (A B : Nat → Prop) (U : State) (H : Heap), (∀ q, B q → A q) → St A U H → St B U H) ∧ (∀ (A : Nat → Prop) (U : State) (g : JFrame) (mk : MethodId) (a : Array Value) (H : Heap), St A U H → St A (U.calling g mk a) H)
def q_Met (l : Launch) (y : MethodName) (ws : List Cond) (rm : Room) (D : va_G) (cl : List vw_C) (tys : List (ClassId × FieldType)) (St : q_St) (T : q_T) : Prop := ∀ (sz : Nat) (as : List Value) (w : va_W) (K : q_K), T as w K → Met l y ws rm (va_Pc as (fun U => U.heap.size = sz ∧ va_P D cl w U.heap ∧ va_K D cl tys U ∧ va_D (fun _ => True) w ∧ St (va_A w sz) U U.heap)) (q_Qc K D cl tys (va_A w sz)) rm.cells rm.slots (va_A w sz)
def q_as {α : Type} : List (Nat × α) → Nat → Option α
  | [], _ => none
  | q :: r, n => cond (Nat.beq q.1 n) (some q.2) (q_as r n)
theorem q_as_in {α : Type} : ∀ {L : List (Nat × α)} {n : Nat} {x : α}, q_as L n = some x → (n, x) ∈ L
  | [], _, _, h => by cases h
  | q :: r, n, x, h => by
    unfold q_as at h
    cases hb : Nat.beq q.1 n with
    | true =>
      rw [hb] at h
      have e1 : q.1 = n := Nat.eq_of_beq_eq_true hb
      have e2 : q.2 = x := Option.some.inj h
      rw [← e1, ← e2]
      exact List.mem_cons_self
    | false =>
      rw [hb] at h
      exact List.mem_cons_of_mem _ (q_as_in h)
def q_cal (V I S : List (Nat × (Nat × Nat × Nat × q_T))) : Nat → Nat → Option (Nat × Nat × Nat × q_T) := fun k n => match k with
  | 0 => q_as V n
  | 1 => q_as I n
  | _ => q_as S n
section QM
variable {p : Program} {l : Launch} {e : Env} {R : Room} {s : State} {m : MethodId} {args : Array Value} {below : List Frame} {meth : Method} {c : Code} {Q : State → Prop} {cc : ByteArray} {nL : Nat} {D : va_G} {cl : List vw_C} {A : Nat → Prop} {own : String} {Ts : List Cond} {cI : ClassId}
def q_M (p : Program) (l : Launch) (e : Env) (R : Room) (s : State) (m : MethodId) (args : Array Value) (below : List Frame) (meth : Method) (c : Code) (Q : State → Prop) (nL : Nat) (D : va_G) (cl : List vw_C) (A : Nat → Prop) : q_G := fun pc ls st w nc ns => ∀ (H : Heap) (locs : List Loc) (la : Array Slot), lv_has la nL ls → va_P D cl w H → va_D A w → va_S A s.heap H locs → W p l e R s m args below meth c H locs nc ns Q (F0 m pc la st)
def q_inv (k n : Nat) : Instr := match k with
  | 0 => .invokevirtual n
  | 1 => .invokespecial n
  | _ => .invokestatic n
def q_CallOK (p : Program) (l : Launch) (e : Env) (R : Room) (s : State) (m : MethodId) (args : Array Value) (below : List Frame) (meth : Method) (c : Code) (cc : ByteArray) (nL : Nat) (D : va_G) (cl : List vw_C) (A : Nat → Prop) (i : Instr) (na mc ms : Nat) (T : q_T) : Prop := ∀ (Q : State → Prop) (pc : Nat) (la : Array Slot) (as rest : List Value) (w : va_W) (K' : q_K) (H : Heap) (locs : List Loc) (nc ns : Nat), decode cc pc = .ok (i, 3) → la.size = nL → as.length = na → (rest.map fun v => v.category).sum ≤ 8 → nc + mc ≤ R.cells → ns + ms ≤ R.slots → T as w K' → va_P D cl w H → va_D A w → va_S A s.heap H locs → (∀ (r : Option Value) (w' : va_W) (H1 : Heap) (locs1 : List Loc), K' r w' → va_P D cl w' H1 → va_D A w' → va_S A s.heap H1 locs1 → W p l e R s m args below meth c H1 locs1 (nc + mc) (ns + ms) Q (F0 m (pc + 3) la (r.toList ++ rest))) → W p l e R s m args below meth c H locs nc ns Q (F0 m pc la (as.reverse ++ rest))
def q_FldOK (ini : Bool) (own : String) (Ts : List Cond) (cl : List vw_C) (n ci k : Nat) (ty : FieldType) (wr : Bool) : Prop := ∃ (C : String) (T : u_T) (N : Nat) (ref : String) (ty0 : Nat → FieldType), cl[ci]? = some (C, T, N) ∧ (∀ w ∈ u_ws C T N, w ∈ Ts) ∧ k < N ∧ Cond.fieldLink own n ref (T k).2.1 (T k).2.2.1 ∈ Ts ∧ (T k).1 = ref ∧ parseFieldDescriptor (T k).2.2.1 = some ty ∧ (∀ k, k < N → parseFieldDescriptor (T k).2.2.1 = some (ty0 k)) ∧ (∀ a, a < N → ∀ b, b < N → a ≠ b → (T a).2.1 ≠ (T b).2.1) ∧ (wr = true → ((T k).2.2.2 = false ∨ ((T k).2.2.2 = true ∧ ini = true ∧ (T k).1 = own)))
def q_NwOK (own : String) (Ts : List Cond) (cl : List vw_C) (n ci N : Nat) (fs : List Value) : Prop := ∃ (C : String) (T : u_T) (ty0 : Nat → FieldType), cl[ci]? = some (C, T, N) ∧ (∀ w ∈ u_ws C T N, w ∈ Ts) ∧ (∀ k, k < N → parseFieldDescriptor (T k).2.2.1 = some (ty0 k)) ∧ Cond.classLink own n C ∈ Ts ∧ Cond.instantiable C N ∈ Ts ∧ Cond.initialized C ∈ Ts ∧ ∀ j, j < N → defaultValue (ty0 j) = vp_V fs j
theorem q_cI {cA : ClassId} (hK : va_K D cl [(cI, .int)] s) (h : va_K D cl ([(cI, FieldType.int)] ++ [(cA, .int)]) s) : cA = cI := by
  have h1 : s.vm.findClass ("[" ++ FieldType.int.toString) = some cI := (hK.2 0 _ rfl).2
  have h2 : s.vm.findClass ("[" ++ FieldType.int.toString) = some cA := (h.2 1 _ rfl).2
  exact Option.some.inj (h2.symm.trans h1)
def q_Ctx (p : Program) (s : State) (m : MethodId) (args : Array Value) (c : Code) (cc : ByteArray) (nL : Nat) (own : String) (Ts : List Cond) (D : va_G) (cl : List vw_C) (cI : ClassId) (A : Nat → Prop) (St : q_St) : Prop := p.tables.exec = Jvm.exec ∧ c.code = cc ∧ c.maxLocals = nL ∧ s.vm.findClass own = some m.cls ∧ (∀ w ∈ Ts, w.before args s = true) ∧ va_K D cl [(cI, .int)] s ∧ (∀ q : Nat, s.heap.size ≤ q → A q) ∧ St A s s.heap
def q_CalOK (l : Launch) (R : Room) (cc : ByteArray) (nL : Nat) (own : String) (Ts : List Cond) (D : va_G) (cl : List vw_C) (cI : ClassId) (St : q_St) (i : Instr) (na mc ms : Nat) (T : q_T) : Prop := ∀ (p : Program) (e : Env) (s : State) (m : MethodId) (args : Array Value) (below : List Frame) (meth : Method) (c : Code) (A : Nat → Prop), q_Ctx p s m args c cc nL own Ts D cl cI A St → q_CallOK p l e R s m args below meth c cc nL D cl A i na mc ms T
/-- the words of a method's code are there -/
def q_OK (S : q_C) (fld : Nat → Option (Nat × Nat × FieldType × Bool)) (sta : Nat → Option Value) (ldc : Nat → Option Int32) (cal : Nat → Nat → Option (Nat × Nat × Nat × q_T)) (nw : Nat → Option (Nat × Nat × List Value)) (tb : Nat → Nat → (Nat → Int32) → Prop) (l : Launch) (R : Room) (cc : ByteArray) (nL : Nat) (own : String) (Ts : List Cond) (D : va_G) (cl : List vw_C) (cI : ClassId) (St : q_St) (ini : Bool) : Prop :=
  S.all (fun x => x.2.all (q_dec cc)) = true ∧ (∀ n ci k ty wr, fld n = some (ci, k, ty, wr) → q_FldOK ini own Ts cl n ci k ty wr) ∧
  (∀ n v, sta n = some v → ∃ C nm d, (∀ (A : Nat → Prop) (U : State) (H : Heap), St A U H → va_Z C nm d v A U H) ∧ Cond.fieldLink own n C nm d ∈ Ts) ∧
  (∀ n v, ldc n = some v → Jvm.Cond.constant own n v ∈ Ts) ∧ (∀ a n f, tb a n f → ∀ (A : Nat → Prop) (U : State) (H : Heap), St A U H → va_T .int a n (fun j => .int (f j)) A U H) ∧
  (∀ k n na mc ms T, cal k n = some (na, mc, ms, T) → q_CalOK l R cc nL own Ts D cl cI St (q_inv k n) na mc ms T) ∧
  (∀ n ci N fs, nw n = some (ci, N, fs) → q_NwOK own Ts cl n ci N fs) ∧ (S.all (fun x => x.2.all (fun y => !(decide (y.2 = .newarray .int)))) = true ∨ Cond.arrayClass .int ∈ Ts)
set_option maxHeartbeats 4000000 in
theorem q_sound {St : q_St} {S : q_C} {fld : Nat → Option (Nat × Nat × FieldType × Bool)} {sta : Nat → Option Value} {ldc : Nat → Option Int32} {cal : Nat → Nat → Option (Nat × Nat × Nat × q_T)} {nw : Nat → Option (Nat × Nat × List Value)} {tb : Nat → Nat → (Nat → Int32) → Prop} {RC RS : Nat} {ret : Option FieldType} {K : q_K} {ini : Bool}
    (hC : q_Ctx p s m args c cc nL own Ts D cl cI A St) (hr : meth.sig.returnType = ret) (hlocks : meth.locks = false) (hin : ini = true → meth.name = "<init>") (hO : q_OK S fld sta ldc cal nw tb l R cc nL own Ts D cl cI St ini)
    (hRC : RC = R.cells) (hRS : RS = R.slots) (hQ : Q = MQ below (q_Qc K D cl [(cI, .int)] A) args s RC RS A) :
    q_Cl (q_F S fld sta ldc cal nw cI tb nL RC RS ret K) (q_M p l e R s m args below meth c Q nL D cl A) := by
  obtain ⟨htab, hfld, hsta, hldc, htb, hcal, hnw, harr⟩ := hO
  obtain ⟨hx, hb, hml, hown, hts, hK, hA, hSt⟩ := id hC
  refine ⟨?_, fun pc ls ls' st w nc ns hsub h H locs la hl hP hD hS => h H locs la ⟨hl.1, hl.2.1, fun q hq => hl.2.2 q (hsub q hq)⟩ hP hD hS⟩
  intro pc ls st w nc ns h H locs la hl hP hD hS
  unfold q_F at h
  cases ht : q_tab S pc with
  | none => rw [ht] at h; exact h.elim
  | some i =>
    rw [ht] at h
    obtain ⟨n0, hd, hn0⟩ := q_tab_ok htab ht
    have call : ∀ (k n : Nat), i = q_inv k n → (match cal k n with
      | some (na, mc, ms, T) => na ≤ st.length ∧ nc + mc ≤ RC ∧ ns + ms ≤ RS ∧ ((st.drop na).map fun v => v.category).sum ≤ 8 ∧ T (st.take na).reverse w (fun r w' => q_M p l e R s m args below meth c Q nL D cl A (pc + 3) ls (r.toList ++ st.drop na) w' (nc + mc) (ns + ms))
      | none => False) → W p l e R s m args below meth c H locs nc ns Q (F0 m pc la st) := by
      intro k n hi h
      cases hc : cal k n with
      | none => rw [hc] at h; exact h.elim
      | some x =>
        obtain ⟨na, mc, ms, T⟩ := x
        rw [hc] at h
        obtain ⟨h1, h2, h3, h4, h5⟩ := h
        have hn3 : n0 = 3 := by
          rcases hn0 with h | h
          · rw [hi] at h; unfold q_inv at h; split at h <;> cases h
          · rw [hi] at h; unfold q_inv at h; split at h <;> exact h
        subst hn3
        have e1 : st = (st.take na).reverse.reverse ++ st.drop na := by rw [List.reverse_reverse, List.take_append_drop]
        have e2 : F0 m pc la st = F0 m pc la ((st.take na).reverse.reverse ++ st.drop na) := by rw [← e1]
        rw [e2]
        refine hcal k n na mc ms T hc p e s m args below meth c A hC Q pc la (st.take na).reverse (st.drop na) w _ H locs nc ns (by rw [← hi]; exact hd) hl.1 (by rw [List.length_reverse, List.length_take]; omega) h4 (by rw [← hRC]; exact h2) (by rw [← hRS]; exact h3) h5 hP hD hS ?_
        intro r w' H1 locs1 hk hP1 hD1 hS1
        exact hk H1 locs1 la hl hP1 hD1 hS1
    cases i with
    | aconst_null =>
      cases hn0.resolve_left (Nat.succ_ne_zero _)
      exact lv_null hx hb hd (h H locs la hl hP hD hS)
    | iconst z =>
      cases hn0.resolve_left (Nat.succ_ne_zero _)
      exact lv_iconst hx hb hd rfl (h H locs la hl hP hD hS)
    | bipush z =>
      cases hn0.resolve_left (Nat.succ_ne_zero _)
      exact lv_bipush hx hb hd rfl (h H locs la hl hP hD hS)
    | sipush z =>
      cases hn0.resolve_left (Nat.succ_ne_zero _)
      exact lv_sipush hx hb hd rfl (h H locs la hl hP hD hS)
    | ldc n =>
      cases hn0.resolve_left (Nat.succ_ne_zero _)
      dsimp only at h
      cases hc : ldc n with
      | none => rw [hc] at h; exact h.elim
      | some v => rw [hc] at h; exact lv_ldc hx hb hown (hts _ (hldc n v hc)) hd (h H locs la hl hP hD hS)
    | iload n =>
      cases hn0.resolve_left (Nat.succ_ne_zero _)
      dsimp only at h
      split at h
      · rename_i x hq; exact lv_iload hx hb hd (hl.2.2 _ (q_look_in hq)) (h H locs la hl hP hD hS)
      · exact h.elim
    | iload_n n =>
      cases hn0.resolve_left (Nat.succ_ne_zero _)
      dsimp only at h
      split at h
      · rename_i x hq; exact lv_iload_n hx hb hd rfl (hl.2.2 _ (q_look_in hq)) (h H locs la hl hP hD hS)
      · exact h.elim
    | aload n =>
      cases hn0.resolve_left (Nat.succ_ne_zero _)
      dsimp only at h
      split at h
      · rename_i x hq; exact lv_aload hx hb hd (hl.2.2 _ (q_look_in hq)) (h H locs la hl hP hD hS)
      · exact h.elim
    | aload_n n =>
      cases hn0.resolve_left (Nat.succ_ne_zero _)
      dsimp only at h
      split at h
      · rename_i x hq; exact lv_aload_n hx hb hd rfl (hl.2.2 _ (q_look_in hq)) (h H locs la hl hP hD hS)
      · exact h.elim
    | istore n =>
      cases hn0.resolve_left (Nat.succ_ne_zero _)
      dsimp only at h
      split at h
      · cases hq : Nat.blt n nL with
        | false => rw [hq] at h; exact h.elim
        | true => rw [hq] at h; exact lv_istore hx hb hd hl (Nat.le_of_ble_eq_true hq) rfl (fun la' hl' => h H locs la' (q_put_has hl') hP hD hS)
      · exact h.elim
    | istore_n n =>
      cases hn0.resolve_left (Nat.succ_ne_zero _)
      dsimp only at h
      split at h
      · cases hq : Nat.blt n.val nL with
        | false => rw [hq] at h; exact h.elim
        | true => rw [hq] at h; exact lv_istore_n hx hb hd rfl hl (Nat.le_of_ble_eq_true hq) rfl (fun la' hl' => h H locs la' (q_put_has hl') hP hD hS)
      · exact h.elim
    | astore n =>
      cases hn0.resolve_left (Nat.succ_ne_zero _)
      dsimp only at h
      split at h
      · cases hq : Nat.blt n nL with
        | false => rw [hq] at h; exact h.elim
        | true => rw [hq] at h; exact lv_astore hx hb hd hl (Nat.le_of_ble_eq_true hq) rfl (fun la' hl' => h H locs la' (q_put_has hl') hP hD hS)
      · exact h.elim
    | astore_n n =>
      cases hn0.resolve_left (Nat.succ_ne_zero _)
      dsimp only at h
      split at h
      · cases hq : Nat.blt n.val nL with
        | false => rw [hq] at h; exact h.elim
        | true => rw [hq] at h; exact lv_astore_n hx hb hd rfl hl (Nat.le_of_ble_eq_true hq) rfl (fun la' hl' => h H locs la' (q_put_has hl') hP hD hS)
      · exact h.elim
    | iinc n z =>
      cases hn0.resolve_left (Nat.succ_ne_zero _)
      dsimp only at h
      split at h
      · rename_i x hq0
        cases hq : Nat.blt n nL with
        | false => rw [hq] at h; exact h.elim
        | true =>
          rw [hq] at h
          obtain ⟨k, hk⟩ := List.getElem?_of_mem (q_look_in hq0)
          exact lv_iinc hx hb hd hl hk rfl (Nat.le_of_ble_eq_true hq) rfl (fun la' hl' => h H locs la' (q_put_has hl') hP hD hS)
      · exact h.elim
    | iadd =>
      cases hn0.resolve_left (Nat.succ_ne_zero _)
      dsimp only at h
      split at h
      · exact lv_iadd hx hb hd (h H locs la hl hP hD hS)
      · exact h.elim
    | isub =>
      cases hn0.resolve_left (Nat.succ_ne_zero _)
      dsimp only at h
      split at h
      · exact lv_isub hx hb hd (h H locs la hl hP hD hS)
      · exact h.elim
    | imul =>
      cases hn0.resolve_left (Nat.succ_ne_zero _)
      dsimp only at h
      split at h
      · exact lv_imul hx hb hd (h H locs la hl hP hD hS)
      · exact h.elim
    | idiv =>
      cases hn0.resolve_left (Nat.succ_ne_zero _)
      dsimp only at h
      split at h
      · exact lv_idiv hx hb hd h.1 (h.2 H locs la hl hP hD hS)
      · exact h.elim
    | irem =>
      cases hn0.resolve_left (Nat.succ_ne_zero _)
      dsimp only at h
      split at h
      · exact lv_irem hx hb hd h.1 (h.2 H locs la hl hP hD hS)
      · exact h.elim
    | iand =>
      cases hn0.resolve_left (Nat.succ_ne_zero _)
      dsimp only at h
      split at h
      · exact lv_iand hx hb hd (h H locs la hl hP hD hS)
      · exact h.elim
    | ixor =>
      cases hn0.resolve_left (Nat.succ_ne_zero _)
      dsimp only at h
      split at h
      · exact lv_ixor hx hb hd (h H locs la hl hP hD hS)
      · exact h.elim
    | ineg =>
      cases hn0.resolve_left (Nat.succ_ne_zero _)
      dsimp only at h
      split at h
      · exact lv_ineg hx hb hd (h H locs la hl hP hD hS)
      · exact h.elim
    | dup =>
      cases hn0.resolve_left (Nat.succ_ne_zero _)
      dsimp only at h
      split at h
      · rename_i v r
        cases hq : q_c1 v with
        | false => rw [hq] at h; exact h.elim
        | true => rw [hq] at h; exact lv_dup hx hb hd (Nat.eq_of_beq_eq_true hq) (h H locs la hl hP hD hS)
      · exact h.elim
    | pop =>
      cases hn0.resolve_left (Nat.succ_ne_zero _)
      dsimp only at h
      split at h
      · rename_i v r
        cases hq : q_c1 v with
        | false => rw [hq] at h; exact h.elim
        | true => rw [hq] at h; exact lv_pop hx hb hd (Nat.eq_of_beq_eq_true hq) (h H locs la hl hP hD hS)
      · exact h.elim
    | dup_x1 =>
      cases hn0.resolve_left (Nat.succ_ne_zero _)
      dsimp only at h
      split at h
      · rename_i v u r
        cases hq : (q_c1 v && q_c1 u) with
        | false => rw [hq] at h; exact h.elim
        | true =>
          rw [hq] at h
          rw [Bool.and_eq_true] at hq
          exact lv_dup_x1 hx hb hd (Nat.eq_of_beq_eq_true hq.1) (Nat.eq_of_beq_eq_true hq.2) (h H locs la hl hP hD hS)
      · exact h.elim
    | dup2 =>
      cases hn0.resolve_left (Nat.succ_ne_zero _)
      dsimp only at h
      split at h
      · rename_i v u r
        cases hq : (q_c1 v && q_c1 u) with
        | false => rw [hq] at h; exact h.elim
        | true =>
          rw [hq] at h
          rw [Bool.and_eq_true] at hq
          exact lv_dup2_11 hx hb hd (Nat.eq_of_beq_eq_true hq.1) (Nat.eq_of_beq_eq_true hq.2) (h H locs la hl hP hD hS)
      · exact h.elim
    | getfield n =>
      cases hn0.resolve_left (Nat.succ_ne_zero _)
      dsimp only at h
      split at h
      · cases hc : fld n with
        | none => rw [hc] at h; exact h.elim
        | some x =>
          obtain ⟨ci, k, ty, wr⟩ := x
          rw [hc] at h
          obtain ⟨q0, fs, v, h1, h2, h3⟩ := h
          obtain ⟨C, T, N, ref, ty0, g1, g2, g3, g4, g5, g6, g7, g8, g9⟩ := hfld n ci k ty wr hc
          exact va_get hx hb hts g2 hown hK hP q0 h1 g1 k g3 (hts _ g4) (fun x hx => by rw [← g5]; exact hx) h2 hd (h3 H locs la hl hP hD hS)
      · exact h.elim
    | putfield n =>
      cases hn0.resolve_left (Nat.succ_ne_zero _)
      dsimp only at h
      split at h
      · cases hc : fld n with
        | none => rw [hc] at h; exact h.elim
        | some x =>
          obtain ⟨ci, k, ty, wr⟩ := x
          rw [hc] at h
          cases wr with
          | false => exact h.elim
          | true =>
            obtain ⟨q0, fs, h1, h2, h3, h4, h5⟩ := h
            obtain ⟨C, T, N, ref, ty0, g1, g2, g3, g4, g5, g6, g7, g8, g9⟩ := hfld n ci k ty true hc
            rcases g9 rfl with g9 | ⟨g9, g10, g11⟩
            · exact va_put hx hb hts g2 ty0 g7 g8 hown hK hP hD hS q0 h1 g1 k g3 (hts _ g4) (fun x hx => by rw [← g5]; exact hx) g9 g6 h3 h4 h2 hd (fun H1 locs1 hP1 hD1 hS1 => h5 H1 locs1 la hl hP1 hD1 hS1)
            · exact va_putF hx hb hts g2 ty0 g7 g8 hown hK hP hD hS q0 h1 g1 k g3 (hts _ g4) (fun x hx => by rw [← g5]; exact hx) g9 (hin g10) g11 g6 h3 h4 h2 hd (fun H1 locs1 hP1 hD1 hS1 => h5 H1 locs1 la hl hP1 hD1 hS1)
      · exact h.elim
    | getstatic n =>
      cases hn0.resolve_left (Nat.succ_ne_zero _)
      dsimp only at h
      cases hc : sta n with
      | none => rw [hc] at h; exact h.elim
      | some v =>
        rw [hc] at h
        obtain ⟨C, nm, d, g1, g2⟩ := hsta n v hc
        exact va_gets hx hb (g1 _ _ _ hSt) hS hown (hts _ g2) (fun x hx => hx) hd (h H locs la hl hP hD hS)
    | iaload =>
      cases hn0.resolve_left (Nat.succ_ne_zero _)
      dsimp only at h
      split at h
      · rcases h with ⟨q0, n, f, h1, h2, h3⟩ | ⟨n, f, h1, h2, h3⟩
        · exact va_iald hx hb hK hP q0 0 h1 rfl h2 hd (h3 H locs la hl hP hD hS)
        · exact va_ti hx hb (htb _ _ _ h1 _ _ _ hSt) hS h2 rfl hd (h3 H locs la hl hP hD hS)
      · exact h.elim
    | iastore =>
      cases hn0.resolve_left (Nat.succ_ne_zero _)
      dsimp only at h
      split at h
      · obtain ⟨q0, n, f, h1, h2, h3⟩ := h
        exact va_iast hx hb hK hP hD hS q0 0 h1 rfl h2 hd (fun H1 locs1 hP1 hD1 hS1 => h3 H1 locs1 la hl hP1 hD1 hS1)
      · exact h.elim
    | arraylength =>
      cases hn0.resolve_left (Nat.succ_ne_zero _)
      dsimp only at h
      split at h
      · obtain ⟨q0, n, f, h1, h3⟩ := h
        exact va_alen hx hb hK hP q0 0 h1 rfl rfl hd (h3 H locs la hl hP hD hS)
      · exact h.elim
    | goto off =>
      cases hn0.resolve_left (Nat.succ_ne_zero _)
      obtain ⟨t, e1, h1⟩ := q_jmp_to h
      exact lv_goto hx hb hd e1 (h1 H locs la hl hP hD hS)
    | ifCond cn off =>
      cases hn0.resolve_left (Nat.succ_ne_zero _)
      dsimp only at h
      split at h
      · obtain ⟨t, e1, h1⟩ := q_jmp_to h
        cases cn with
        | eq => exact lv_if_eq hx hb hd e1 (fun g => h1.1 g H locs la hl hP hD hS) (fun g => h1.2 g H locs la hl hP hD hS)
        | ne => exact lv_if_ne hx hb hd e1 (fun g => h1.1 g H locs la hl hP hD hS) (fun g => h1.2 g H locs la hl hP hD hS)
        | lt => exact lv_if_lt hx hb hd e1 (fun g => h1.1 g H locs la hl hP hD hS) (fun g => h1.2 g H locs la hl hP hD hS)
        | ge => exact lv_if_ge hx hb hd e1 (fun g => h1.1 g H locs la hl hP hD hS) (fun g => h1.2 g H locs la hl hP hD hS)
        | gt => exact lv_if_gt hx hb hd e1 (fun g => h1.1 g H locs la hl hP hD hS) (fun g => h1.2 g H locs la hl hP hD hS)
        | le => exact lv_if_le hx hb hd e1 (fun g => h1.1 g H locs la hl hP hD hS) (fun g => h1.2 g H locs la hl hP hD hS)
      · exact h.elim
    | if_icmp cn off =>
      cases hn0.resolve_left (Nat.succ_ne_zero _)
      dsimp only at h
      split at h
      · obtain ⟨t, e1, h1⟩ := q_jmp_to h
        cases cn with
        | eq => exact lv_icmp_eq hx hb hd e1 (fun g => h1.1 g H locs la hl hP hD hS) (fun g => h1.2 g H locs la hl hP hD hS)
        | ne => exact lv_icmp_ne hx hb hd e1 (fun g => h1.1 g H locs la hl hP hD hS) (fun g => h1.2 g H locs la hl hP hD hS)
        | lt => exact lv_icmp_lt hx hb hd e1 (fun g => h1.1 g H locs la hl hP hD hS) (fun g => h1.2 g H locs la hl hP hD hS)
        | ge => exact lv_icmp_ge hx hb hd e1 (fun g => h1.1 g H locs la hl hP hD hS) (fun g => h1.2 g H locs la hl hP hD hS)
        | gt => exact lv_icmp_gt hx hb hd e1 (fun g => h1.1 g H locs la hl hP hD hS) (fun g => h1.2 g H locs la hl hP hD hS)
        | le => exact lv_icmp_le hx hb hd e1 (fun g => h1.1 g H locs la hl hP hD hS) (fun g => h1.2 g H locs la hl hP hD hS)
      · exact h.elim
    | tableswitch d lo hi offs =>
      dsimp only at h
      split at h
      · rename_i x r
        by_cases hc : x.toInt < lo ∨ hi < x.toInt
        · obtain ⟨t, e1, h1⟩ := q_jmp_to (h.1 hc)
          exact lv_tableOut hx hb hd hc e1 (h1 H locs la hl hP hD hS)
        · have g1 : ¬ x.toInt < lo := fun q => hc (Or.inl q)
          have g2 : ¬ hi < x.toInt := fun q => hc (Or.inr q)
          have h2 := h.2 (x.toInt - lo).toNat (by omega) (by omega)
          cases ho : offs.toList[(x.toInt - lo).toNat]? with
          | none => rw [ho] at h2; exact h2.elim
          | some off =>
            rw [ho] at h2
            obtain ⟨t, e1, h1⟩ := q_jmp_to h2
            exact lv_tableIn hx hb hd g1 g2 (by rw [← Array.getElem?_toList]; exact ho) e1 (h1 H locs la hl hP hD hS)
      · exact h.elim
    | lookupswitch d ps =>
      dsimp only at h
      split at h
      · rename_i x r
        obtain ⟨t, e1, h1⟩ := q_jmp_to (h.2 _ rfl)
        exact lv_lookup hx hb hd h.1 rfl e1 (h1 H locs la hl hP hD hS)
      · exact h.elim
    | invokevirtual n => exact call 0 n rfl h
    | invokespecial n => exact call 1 n rfl h
    | invokestatic n => exact call 2 n rfl h
    | new n =>
      cases hn0.resolve_left (Nat.succ_ne_zero _)
      dsimp only at h
      cases hc : nw n with
      | none => rw [hc] at h; exact h.elim
      | some x =>
        obtain ⟨ci, N, fs⟩ := x
        rw [hc] at h
        obtain ⟨h1, h2, h3⟩ := h
        obtain ⟨C, T, ty0, g1, g2, g3, g4, g5, g6, g7⟩ := hnw n ci N fs hc
        exact va_new hx hb hts g2 ty0 g3 hown (hts _ g4) (hts _ g5) (hts _ g6) hK hP hD hS hA g1 g7 (by rw [← hRC]; exact h1) (by rw [← hRS]; exact h2) hd (fun q H1 hP1 hD1 hS1 => h3 q H1 locs la hl hP1 hD1 hS1)
    | newarray ty =>
      cases hn0.resolve_left (Nat.succ_ne_zero _)
      cases ty with
      | int =>
        dsimp only at h
        split at h
        · rename_i n r
          obtain ⟨h1, h2, h3, h4, h5⟩ := h
          have ha2 : (Cond.arrayClass .int).before args s = true := by
            rcases harr with g | g
            · exact absurd (q_tab_all g ht) (by simp)
            · exact hts _ g
          refine va_newa (ty := .int) (a0 := (n.toNatClampNeg, .inl (fun _ => 0))) hx hb (atype := .int) ha2 rfl hK hP hD hS hA (fun cA => rfl) h1 rfl h2 (by rw [← hRC]; exact h3) (by rw [← hRS]; exact h4) hd (fun q cA H1 hK1 hP1 hD1 hS1 => ?_)
          have hcA := q_cI hK hK1
          subst hcA
          exact h5 q H1 locs la hl hP1 hD1 hS1
        · exact h.elim
      | _ => exact h.elim
    | ireturn =>
      cases hn0.resolve_left (Nat.succ_ne_zero _)
      dsimp only at h
      split at h
      · rename_i v
        cases ret with
        | none => exact h.elim
        | some ty =>
          obtain ⟨h1, h2, h3, h4⟩ := h
          refine W.widen h2 h3 ?_
          rw [hQ]
          exact W.zret hx hb hr h1 (fun t ht hW => ⟨⟨_, w, rfl, h4, by rw [ht]; exact hP, va_K.moved hW.alike hK, hD⟩, hS.F ht⟩) hS.2.2 hd hlocks
      · exact h.elim
    | areturn =>
      cases hn0.resolve_left (Nat.succ_ne_zero _)
      dsimp only at h
      split at h
      · rename_i a
        split at h
        · obtain ⟨h2, h3, h4⟩ := h
          refine W.widen h2 h3 ?_
          rw [hQ]
          exact W.aret hx hb hr (Or.inl ⟨_, rfl⟩) (Or.inr ⟨_, rfl⟩) (fun t ht hW => ⟨⟨_, w, rfl, h4, by rw [ht]; exact hP, va_K.moved hW.alike hK, hD⟩, hS.F ht⟩) hS.2.2 hd hlocks
        · obtain ⟨h2, h3, h4⟩ := h
          refine W.widen h2 h3 ?_
          rw [hQ]
          exact W.aret hx hb hr (Or.inr ⟨_, rfl⟩) (Or.inr ⟨_, rfl⟩) (fun t ht hW => ⟨⟨_, w, rfl, h4, by rw [ht]; exact hP, va_K.moved hW.alike hK, hD⟩, hS.F ht⟩) hS.2.2 hd hlocks
        · exact h.elim
      · exact h.elim
    | return_ =>
      cases hn0.resolve_left (Nat.succ_ne_zero _)
      dsimp only at h
      split at h
      · cases ret with
        | some ty => exact h.elim
        | none =>
          obtain ⟨h2, h3, h4⟩ := h
          refine W.widen h2 h3 ?_
          rw [hQ]
          exact W.vret hx hb hr (fun t ht hW => ⟨⟨_, w, rfl, h4, by rw [ht]; exact hP, va_K.moved hW.alike hK, hD⟩, hS.F ht⟩) hS.2.2 hd hlocks
      · exact h.elim
    | _ => exact h.elim
theorem q_free {w : va_W} {H : Heap} {locs : List Loc} (hD : va_D A w) (hS : va_S A s.heap H locs) (hA : ∀ q : Nat, s.heap.size ≤ q → A q) : ∀ q, va_A w H.size q → A q := by
  intro q h
  rcases h with ⟨k, x, h⟩ | h
  · exact hD.2 k _ h
  · exact hA q (Nat.le_trans hS.1 h)
theorem q_go {tys : List (ClassId × FieldType)} {H : Heap} {locs : List Loc} {nc ns mc ms pc : Nat} {la : Array Slot} {st0 rest : List Value} {w : va_W} {K' : q_K} {a : Array Value} (hr : va_Run p l e R s m args below meth c H locs nc ns mc ms (F0 m pc la st0) rest (q_Qc K' D cl tys (va_A w H.size) a) (va_A w H.size)) (hS : va_S A s.heap H locs) (hF : ∀ q, va_A w H.size q → A q)
    (kk : ∀ (r : Option Value) (w' : va_W) (H1 : Heap) (locs1 : List Loc), K' r w' → va_P D cl w' H1 → va_D A w' → va_S A s.heap H1 locs1 → W p l e R s m args below meth c H1 locs1 (nc + mc) (ns + ms) Q (F0 m (pc + 3) la (r.toList ++ rest))) : W p l e R s m args below meth c H locs nc ns Q (F0 m pc la st0) := by
  intro T hT X
  obtain ⟨v, st₀, t, T', L, h0, X', hL, e1, e2, ⟨⟨r, w', hv, hk, hP1, hK1, hD1⟩, hz, hkp⟩, st⟩ := hr T hT X
  cases hv
  rw [h0] at hz hkp
  obtain ⟨t2, a1, b1⟩ := kk v w' T'.heap (locs ++ L) hk (by rw [e1]; exact hP1) (hD1.weaken (fun k q _ h => hF q.1 h))
    ⟨Nat.le_trans hS.1 (by rw [e1]; exact hz), fun q h1 h2 => by rw [e1, hkp q (Nat.lt_of_lt_of_le h1 hS.1) (fun z => h2 (hF q z))]; exact hS.2.1 q h1 h2, fun q hq => by
      rcases List.mem_append.mp hq with h | h
      · exact hS.2.2 q h
      · exact hF _ (hL q h)⟩ T' rfl X'
  exact ⟨t2, st t2 a1, b1⟩
/-- a call on a receiver: it is an object of the class -/
def q_V (ci : Nat) (T : q_T) : q_T := fun as w K => ∃ (b : Nat) (As : List Value) (fs : List Value) (q0 : Nat), as = .ref b :: As ∧ w[q0]? = some (b, .inr (ci, fs)) ∧ T as w K
theorem q_blind {St : q_St} {tys : List (ClassId × FieldType)} {sz : Nat} {as : List Value} {w : va_W} (hSt : q_StOK St) : FrameBlind (va_Pc as (fun U => U.heap.size = sz ∧ va_P D cl w U.heap ∧ va_K D cl tys U ∧ va_D (fun _ => True) w ∧ St (va_A w sz) U U.heap)) := by
  intro a U g mk q
  obtain ⟨q0, q1, qP, qK, qD, qS⟩ := q
  exact ⟨q0, q1, qP, va_K.moved (u := U) (U := U.calling g mk a) (Vm.Alike.refl U.vm) qK, qD, hSt.2.2.2 _ _ _ _ _ _ qS⟩
theorem q_pre {St : q_St} {w : va_W} {H : Heap} {locs : List Loc} {as : List Value} (hSt : q_StOK St) (hC : q_Ctx p s m args c cc nL own Ts D cl cI A St) (hP : va_P D cl w H) (hD : va_D A w) (hS : va_S A s.heap H locs) (U : State) (hU : U.heap = H) (hW : s.WarmedH U.vm) : va_Pc as (fun U => U.heap.size = H.size ∧ va_P D cl w U.heap ∧ va_K D cl [(cI, .int)] U ∧ va_D (fun _ => True) w ∧ St (va_A w H.size) U U.heap) as.toArray U := by
  obtain ⟨hx, hb, hml, hown, hts, hK, hA, hs⟩ := id hC
  refine ⟨rfl, by rw [hU], by rw [hU]; exact hP, va_K.moved hW.alike hK, hD.weaken (fun _ _ _ _ => trivial), ?_⟩
  rw [hU]
  exact hSt.1 _ s U H hW (hSt.2.2.1 A _ s H (q_free hD hS hA) (hSt.2.1 A s s.heap H hs hS.2.1))
section QC
variable {St : q_St} {y : MethodName} {ws ws' : List Cond} {rm : Room} {T : q_T} {C : String} {T' : u_T} {N' ci n k maxL : Nat} {bytes : ByteArray} {ret : Option FieldType} {host : String}
theorem q_callV (hSt : q_StOK St) (hM : q_Met l y ws rm D cl [(cI, .int)] St T) (hT : GoodIn Ts (wsV own n C y ws)) (hw : ws = Cond.code y bytes maxL ret :: ws') (hd : y.cls = C ∧ y.cls ≠ "java/lang/invoke/MethodHandle" ∧ y.cls ≠ "java/lang/invoke/VarHandle" ∧ (parseMethodDescriptor y.desc).map (fun d => d.parameters.length) = some k) (hR : rm.frames + 1 ≤ R.frames ∧ 8 + (maxL + 11) + rm.locals ≤ R.locals) (hc : cl[ci]? = some (C, T', N')) :
    q_CalOK l R cc nL own Ts D cl cI St (.invokevirtual n) (k + 1) rm.cells rm.slots (q_V ci T) := by
  intro p e s m args below meth c A hC Q pc la as rest w K' H locs nc ns hdc hla hlen hcat h1 h2 hTT hP hD hS kk
  obtain ⟨b, As, fs, q0, rfl, hq0, hTT⟩ := hTT
  obtain ⟨hx, hb, hml, hown, hts, hK, hA, hs⟩ := id hC
  refine q_go (va_runV (As := As) (rest := rest) ⟨hx, hb, hml, hown, hts⟩ (hM H.size (.ref b :: As) w K' hTT) (cwV k hts hT hw rfl rfl hd hR) ⟨q_blind hSt, va_recv hK hP hc hq0, fun U hU hW => q_pre hSt hC hP hD hS U hU hW⟩ rfl (Nat.succ.inj hlen) hla ?_ (lv_room hcat) hdc ⟨h1, h2⟩) hS (q_free hD hS hA) kk
  show (Value.ref b :: As).reverse ++ rest = _
  rw [List.reverse_cons, List.append_assoc]
  rfl
theorem q_callS (hSt : q_StOK St) (hM : q_Met l y ws rm D cl [(cI, .int)] St T) (hT : GoodIn Ts (va_wsS own n y ws)) (hw : ws = Cond.code y bytes maxL ret :: ws') (hd : y.cls ≠ "java/lang/invoke/MethodHandle" ∧ y.cls ≠ "java/lang/invoke/VarHandle" ∧ (parseMethodDescriptor y.desc).map (fun d => d.parameters.length) = some k) (hR : rm.frames + 1 ≤ R.frames ∧ 8 + (maxL + 11) + rm.locals ≤ R.locals) :
    q_CalOK l R cc nL own Ts D cl cI St (.invokestatic n) k rm.cells rm.slots T := by
  intro p e s m args below meth c A hC Q pc la as rest w K' H locs nc ns hdc hla hlen hcat h1 h2 hTT hP hD hS kk
  obtain ⟨hx, hb, hml, hown, hts, hK, hA, hs⟩ := id hC
  exact q_go (va_runS (As := as) (rest := rest) ⟨hx, hb, hml, hown, hts⟩ (hM H.size as w K' hTT) (va_cwS k hts hT hw rfl rfl hd hR) ⟨q_blind hSt, fun U hU hW => q_pre hSt hC hP hD hS U hU hW⟩ rfl hlen hla rfl (lv_room hcat) hdc ⟨h1, h2⟩) hS (q_free hD hS hA) kk
theorem q_callI (hSt : q_StOK St) (hM : q_Met l y ws rm D cl [(cI, .int)] St T) (hG : GoodIn Ts ws) (hw : ws = Cond.code y bytes maxL none :: ws') (hini : Cond.initialized y.cls ∈ Ts) (hl : Cond.methodLink own n y ∈ Ts) (hin : Cond.instanceMethod y ∈ Ts) (hy1 : y.name = "<init>") (hd : y.cls ≠ "java/lang/invoke/MethodHandle" ∧ y.cls ≠ "java/lang/invoke/VarHandle" ∧ (parseMethodDescriptor y.desc).map (fun d => d.parameters.length) = some k) (hR : rm.frames + 1 ≤ R.frames ∧ 8 + (maxL + 11) + rm.locals ≤ R.locals) :
    q_CalOK l R cc nL own Ts D cl cI St (.invokespecial n) (k + 1) rm.cells rm.slots (q_V ci T) := by
  intro p e s m args below meth c A hC Q pc la as rest w K' H locs nc ns hdc hla hlen hcat h1 h2 hTT hP hD hS kk
  obtain ⟨b, As, fs, q0, rfl, hq0, hTT⟩ := hTT
  obtain ⟨hx, hb, hml, hown, hts, hK, hA, hs⟩ := id hC
  refine q_go (va_runI (As := As) (rest := rest) ⟨hx, hb, hml, hown, hts⟩ (hM H.size (.ref b :: As) w K' hTT) (cwI k hts hG hw rfl rfl (hts _ hini) (hts _ hl) (hts _ hin) hy1 hd hR) ⟨q_blind hSt, fun U hU hW => q_pre hSt hC hP hD hS U hU hW⟩ rfl (Nat.succ.inj hlen) hla ?_ (lv_room hcat) hdc ⟨h1, h2⟩) hS (q_free hD hS hA) kk
  show (Value.ref b :: As).reverse ++ rest = _
  rw [List.reverse_cons, List.append_assoc]
  rfl
theorem q_callSN (hSt : q_StOK St) (hM : q_Met l y ws rm D cl [(cI, .int)] St T) (hG : GoodIn Ts ws) (hw : ws = Cond.code y bytes maxL ret :: ws') (hN : ∀ (A : Nat → Prop) (U : State) (H : Heap), St A U H → va_Nw (.methodLinkNest own n y host) U) (hini : Cond.initialized y.cls ∈ Ts) (hst : Cond.static y ∈ Ts) (hd : y.cls ≠ "java/lang/invoke/MethodHandle" ∧ y.cls ≠ "java/lang/invoke/VarHandle" ∧ (parseMethodDescriptor y.desc).map (fun d => d.parameters.length) = some k) (hR : rm.frames + 1 ≤ R.frames ∧ 8 + (maxL + 11) + rm.locals ≤ R.locals) :
    q_CalOK l R cc nL own Ts D cl cI St (.invokestatic n) k rm.cells rm.slots T := by
  intro p e s m args below meth c A hC Q pc la as rest w K' H locs nc ns hdc hla hlen hcat h1 h2 hTT hP hD hS kk
  obtain ⟨hx, hb, hml, hown, hts, hK, hA, hs⟩ := id hC
  exact q_go (va_runSN (As := as) (rest := rest) ⟨hx, hb, hml, hown, hts⟩ (hM H.size as w K' hTT) ⟨va_cnB k hts hG hw rfl rfl (hN _ _ _ hs) (hts _ hini) hd hR, hts _ hst, trivial⟩ ⟨q_blind hSt, fun U hU hW => q_pre hSt hC hP hD hS U hU hW⟩ rfl hlen hla rfl (lv_room hcat) hdc ⟨h1, h2⟩) hS (q_free hD hS hA) kk
theorem q_callIN (hSt : q_StOK St) (hM : q_Met l y ws rm D cl [(cI, .int)] St T) (hG : GoodIn Ts ws) (hw : ws = Cond.code y bytes maxL none :: ws') (hN : ∀ (A : Nat → Prop) (U : State) (H : Heap), St A U H → va_Nw (.methodLinkNest own n y host) U) (hini : Cond.initialized y.cls ∈ Ts) (hin : Cond.instanceMethod y ∈ Ts) (hy1 : y.name = "<init>") (hd : y.cls ≠ "java/lang/invoke/MethodHandle" ∧ y.cls ≠ "java/lang/invoke/VarHandle" ∧ (parseMethodDescriptor y.desc).map (fun d => d.parameters.length) = some k) (hR : rm.frames + 1 ≤ R.frames ∧ 8 + (maxL + 11) + rm.locals ≤ R.locals) :
    q_CalOK l R cc nL own Ts D cl cI St (.invokespecial n) (k + 1) rm.cells rm.slots (q_V ci T) := by
  intro p e s m args below meth c A hC Q pc la as rest w K' H locs nc ns hdc hla hlen hcat h1 h2 hTT hP hD hS kk
  obtain ⟨b, As, fs, q0, rfl, hq0, hTT⟩ := hTT
  obtain ⟨hx, hb, hml, hown, hts, hK, hA, hs⟩ := id hC
  refine q_go (va_runIN (As := As) (rest := rest) ⟨hx, hb, hml, hown, hts⟩ (hM H.size (.ref b :: As) w K' hTT) ⟨va_cnB k hts hG hw rfl rfl (hN _ _ _ hs) (hts _ hini) hd hR, hy1, hts _ hin⟩ ⟨q_blind hSt, fun U hU hW => q_pre hSt hC hP hD hS U hU hW⟩ rfl (Nat.succ.inj hlen) hla ?_ (lv_room hcat) hdc ⟨h1, h2⟩) hS (q_free hD hS hA) kk
  show (Value.ref b :: As).reverse ++ rest = _
  rw [List.reverse_cons, List.append_assoc]
  rfl
def q_obj : q_T := fun as w K => ∃ b : Nat, as = [.ref b] ∧ K none w
theorem q_callO (hl : Cond.methodLink own n Lib.objectInit ∈ Ts) (hin : Cond.instanceMethod Lib.objectInit ∈ Ts) (hco : Cond.code Lib.objectInit ⟨#[0xb1]⟩ 1 none ∈ Ts) (hR : 1 ≤ R.frames ∧ 20 ≤ R.locals) : q_CalOK l R cc nL own Ts D cl cI St (.invokespecial n) 1 0 0 q_obj := by
  intro p e s m args below meth c A hC Q pc la as rest w K' H locs nc ns hdc hla hlen hcat h1 h2 hTT hP hD hS kk
  obtain ⟨b, rfl, hk⟩ := hTT
  obtain ⟨hx, hb, hml, hown, hts, hK, hA, hs⟩ := id hC
  exact W.objInit hx hb hown (hts _ hl) (hts _ hin) (hts _ hco) rfl (by rw [hml]; exact hla) rfl hdc hR.1 (by show 2 * 0 + (rest.map fun v => v.category).sum + 12 ≤ R.locals; have := hR.2; omega) (kk none w H locs hk hP hD hS)
def q_copy (cI : ClassId) : q_T := fun as w K => ∃ (a0 a : Nat) (sp dp n : Int32) (q0 q1 n0 n1 : Nat) (f g : Nat → Int32), as = [.ref a0, .int sp, .ref a, .int dp, .int n] ∧ w[q0]? = some (a0, .inl (cI, n0, .inl f)) ∧ w[q1]? = some (a, .inl (cI, n1, .inl g)) ∧ ¬ sp < 0 ∧ ¬ dp < 0 ∧ ¬ n < 0 ∧ sp.toNatClampNeg + n.toNatClampNeg ≤ n0 ∧ dp.toNatClampNeg + n.toNatClampNeg ≤ n1 ∧ K none (w.set q1 (a, .inl (cI, n1, .inl (va_cpy f g sp.toNatClampNeg dp.toNatClampNeg n.toNatClampNeg))))
theorem q_callC (hl : Cond.methodLink own n arraycopyName ∈ Ts) (hna : Cond.native arraycopyName ∈ Ts) (hst : Cond.static arraycopyName ∈ Ts) (hini : Cond.initialized "java/lang/System" ∈ Ts) (hR : 1 ≤ R.frames ∧ 8 + (nativeFrameWords "java/lang/System" "arraycopy" 5 + 11) ≤ R.locals) : q_CalOK l R cc nL own Ts D cl cI St (.invokestatic n) 5 0 0 (q_copy cI) := by
  intro p e s m args below meth c A hC Q pc la as rest w K' H locs nc ns hdc hla hlen hcat h1 h2 hTT hP hD hS kk
  obtain ⟨a0, a, sp, dp, n', q0, q1, n0, n1, f, g, rfl, g1, g2, g3, g4, g5, g6, g7, hk⟩ := hTT
  obtain ⟨hx, hb, hml, hown, hts, hK, hA, hs⟩ := id hC
  exact va_copyi (ty := .int) hx hb (by rw [hml]; exact hla.symm) hown (hts _ hl) (hts _ hna) (hts _ hst) (hts _ hini) hK hP hD hS q0 q1 0 0 g1 g2 rfl rfl rfl g3 g4 g5 g6 g7 (fun _ _ => rfl) hR.1 (by show (rest.map fun v => v.category).sum + _ ≤ R.locals; have := hR.2; omega) hdc (fun H1 locs1 hP1 hD1 hS1 => kk none _ H1 locs1 hk hP1 hD1 hS1)
end QC
theorem q_ofW {y : MethodName} {ws ws' : List Cond} {rm : Room} {Pc : Array Value → State → Prop} {Qc : Array Value → State → Outcome → State → Prop} {mc ms : Nat} {free : Addr → Prop} {cc : ByteArray} {maxL : Nat} {ret : Option FieldType}
    (hy : plainFor y = true) (hw : ws = Cond.code y cc maxL ret :: ws')
    (body : ∀ p e s m args below meth c s₁, BodyLoose p l y (headSpec ws rm) cc maxL ret e s m args below meth c s₁ → c.maxLocals = maxL → Pc args s →
      W p l e (headSpec ws rm).room s m args below meth c s.heap [] 0 0 (MQ below Qc args s mc ms free) (entryFrame m args maxL)) : Met l y ws rm Pc Qc mc ms free := by
  refine MetFree.of_bodySF (code := cc) (maxLocals := maxL) (ret := ret) hy ?_ ?_
  · intro args s m h hn
    obtain ⟨meth, c, h1, h2, h3, h4, h5, h6, -, -⟩ := Cond.code_spec hn (atoms_spec (ws := ws) h _ (by rw [hw]; exact List.mem_cons_self))
    exact ⟨meth, c, h1, h2, h3, h4, h5, h6⟩
  · intro p e s m args below meth c s₁ B hml hP _
    have hh0 : s₁.heap = s.heap := by rw [B.state]; rfl
    obtain ⟨t, a1, o, b1, b2, b3⟩ := body p e s m args below meth c s₁ B hml hP s₁ hh0 (Stand.of_body B)
    exact ⟨t, o, a1, b1, b2, ⟨b3.1, b3.2⟩⟩
/-- a method's contract, out of its code alone -/
theorem q_contract {St : q_St} {S : q_C} {fld : Nat → Option (Nat × Nat × FieldType × Bool)} {sta : Nat → Option Value} {ldc : Nat → Option Int32} {cal : Nat → Nat → Option (Nat × Nat × Nat × q_T)} {nw : Nat → Option (Nat × Nat × List Value)} {tb : Nat → Nat → (Nat → Int32) → Prop} {ret : Option FieldType} {y : MethodName} {ws ws' : List Cond} {rm : Room} {ini : Bool}
    (hy : plainFor y = true) (hw : ws = Cond.code y cc nL ret :: ws') (hyc : y.cls = own) (hyi : ini = true → y.name = "<init>") (hO : q_OK S fld sta ldc cal nw tb l rm cc nL own ws D cl cI St ini) :
    q_Met l y ws rm D cl [(cI, .int)] St (fun as w K => (lg_sl as).length ≤ nL ∧ q_wp (q_F S fld sta ldc cal nw cI tb nL rm.cells rm.slots ret) as w K) := by
  intro sz as w K hT
  obtain ⟨hlen, hT⟩ := hT
  refine q_ofW (cc := cc) (maxL := nL) (ret := ret) hy hw ?_
  intro p e s m args below meth c s₁ B hml hv
  obtain ⟨rfl, hsz, hP, hK, hD0, hs⟩ := hv
  have hts := atoms_spec (ws := ws) B.pre
  have hown : s.vm.findClass own = some m.cls := by rw [← hyc]; exact findClass_of_methodNamed B.named
  have hin : ini = true → meth.name = "<init>" := fun h => by rw [(name_of_methodNamed B.named B.method).1]; exact hyi h
  subst hsz
  have hD := hD0.self (sz := s.heap.size)
  have hA : ∀ q : Nat, s.heap.size ≤ q → va_A w s.heap.size q := fun q h => Or.inr h
  have hl := lv_entry as (n := nL) hlen
  rw [lg_entry_eq]
  exact hT _ (q_sound (R := rm) ⟨B.exec, B.bytes, hml, hown, hts, hK, hA, hs⟩ B.returns B.notSynchronized hin hO rfl rfl rfl) s.heap [] _ hl hP hD va_S.rf
theorem q_cal_ok {St : q_St} {V I S : List (Nat × (Nat × Nat × Nat × q_T))} (hV : ∀ q ∈ V, q_CalOK l R cc nL own Ts D cl cI St (.invokevirtual q.1) q.2.1 q.2.2.1 q.2.2.2.1 q.2.2.2.2) (hI : ∀ q ∈ I, q_CalOK l R cc nL own Ts D cl cI St (.invokespecial q.1) q.2.1 q.2.2.1 q.2.2.2.1 q.2.2.2.2) (hS : ∀ q ∈ S, q_CalOK l R cc nL own Ts D cl cI St (.invokestatic q.1) q.2.1 q.2.2.1 q.2.2.2.1 q.2.2.2.2) :
    ∀ k n na mc ms T, q_cal V I S k n = some (na, mc, ms, T) → q_CalOK l R cc nL own Ts D cl cI St (q_inv k n) na mc ms T := by
  intro k n na mc ms T h
  match k, h with
  | 0, h => exact hV _ (q_as_in h)
  | 1, h => exact hI _ (q_as_in h)
  | k + 2, h => exact hS _ (q_as_in h)
end QM
theorem q_nil {α : Type} {P : α → Prop} : ∀ q ∈ ([] : List α), P q := fun _ h => absurd h List.not_mem_nil
theorem q_cons {α : Type} {P : α → Prop} {a : α} {l : List α} (h : P a) (r : ∀ q ∈ l, P q) : ∀ q ∈ a :: l, P q := List.forall_mem_cons.mpr ⟨h, r⟩
end
section
/-! numbers: an Int32 by the Int that it is -/
def iI (z : Int) : Int32 := Int32.ofInt z
def i_in (z : Int) : Prop := -2147483648 ≤ z ∧ z < 2147483648
theorem iI_add (a b : Int) : iI a + iI b = iI (a + b) := (Int32.ofInt_add a b).symm
theorem iI_sub (a b : Int) : iI a - iI b = iI (a - b) := (Int32.ofInt_sub a b).symm
theorem iI_mul (a b : Int) : iI a * iI b = iI (a * b) := (Int32.ofInt_mul a b).symm
theorem iI_neg (a : Int) : -iI a = iI (-a) := (Int32.ofInt_neg a).symm
theorem iI_nat (n : Nat) : nI n = iI (n : Int) := (Int32.ofInt_eq_ofNat (n := n)).symm
theorem iI_toInt {z : Int} (h1 : -2147483648 ≤ z) (h2 : z < 2147483648) : (iI z).toInt = z := Int32.toInt_ofInt_of_le (by omega) (by omega)
theorem iI_of (x : Int32) : x = iI x.toInt := (Int32.ofInt_toInt x).symm
theorem iI_ge (x : Int32) : -2147483648 ≤ x.toInt := by have := Int32.le_toInt x; omega
theorem iI_le (x : Int32) : x.toInt < 2147483648 := by have := Int32.toInt_lt x; omega
theorem iI_ltI {a b : Int} (a1 : -2147483648 ≤ a) (a2 : a < 2147483648) (b1 : -2147483648 ≤ b) (b2 : b < 2147483648) : iI a < iI b ↔ a < b := by rw [Int32.lt_iff_toInt_lt, iI_toInt a1 a2, iI_toInt b1 b2]
theorem iI_leI {a b : Int} (a1 : -2147483648 ≤ a) (a2 : a < 2147483648) (b1 : -2147483648 ≤ b) (b2 : b < 2147483648) : iI a ≤ iI b ↔ a ≤ b := by rw [Int32.le_iff_toInt_le, iI_toInt a1 a2, iI_toInt b1 b2]
theorem iI_eqI {a b : Int} (a1 : -2147483648 ≤ a) (a2 : a < 2147483648) (b1 : -2147483648 ≤ b) (b2 : b < 2147483648) : iI a = iI b ↔ a = b := by rw [← Int32.toInt_inj, iI_toInt a1 a2, iI_toInt b1 b2]
theorem iI_clamp {z : Int} (h1 : -2147483648 ≤ z) (h2 : z < 2147483648) : (iI z).toNatClampNeg = z.toNat := by rw [← Int32.toNat_toInt, iI_toInt h1 h2]
theorem iI_div {a b : Int} (a1 : -2147483648 ≤ a) (a2 : a < 2147483648) (b1 : -2147483648 ≤ b) (b2 : b < 2147483648) (h : b ≠ -1) : iI a / iI b = iI (a.tdiv b) := by
  refine Int32.toInt_inj.mp ?_
  have hb : iI b ≠ -1 := fun e => h (by
    have e2 := congrArg Int32.toInt e
    rw [iI_toInt b1 b2] at e2
    exact e2)
  have h1 : (a.tdiv b).natAbs ≤ a.natAbs := by rw [Int.natAbs_tdiv]; exact Nat.div_le_self _ _
  have h2 : (iI a / iI b).toInt = a.tdiv b := by rw [Int32.toInt_div_of_ne_right _ _ hb, iI_toInt a1 a2, iI_toInt b1 b2]
  by_cases hm : a.tdiv b = 2147483648
  · have := Int32.toInt_lt (iI a / iI b)
    omega
  · rw [h2, iI_toInt (by omega) (by omega)]
theorem iI_in {z : Int} {n : Nat} (h1 : 0 ≤ z) (h2 : z < n) (hn : n < 2 ^ 31) : vp_in (iI z) n := vp_in_iff.mpr (by rw [iI_toInt (by omega) (by omega)]; exact ⟨h1, h2⟩)
end
section
-- ===== PART A: goes FIRST, ahead of the names: the tables' words, and 'selects' of the private methods out of them =====
/-- a private method of a class that the tables say can be made, by its rows of tables_1 -/
def lw_okq (q : MethodName × Nat) : Prop := (q.1.cls ≠ "java/lang/invoke/MethodHandle" ∧ q.1.cls ≠ "java/lang/invoke/VarHandle") ∧ Cond.instantiable q.1.cls q.2 ∈ tables_1 ∧ Cond.privateMethod q.1 ∈ tables_1 ∧ Cond.instanceMethod q.1 ∈ tables_1
theorem lw_p0 : lw_okq (⟨"SpellPitch$Score", "listOptions", "(I)V"⟩, 10) := ⟨⟨by decide +kernel, by decide +kernel⟩, List.mem_of_getElem? (i := 27) (by decide +kernel), List.mem_of_getElem? (i := 196) (by decide +kernel), List.mem_of_getElem? (i := 197) (by decide +kernel)⟩
theorem lw_p1 : lw_okq (⟨"SpellPitch", "meant", "()LSpellPitch$Search;"⟩, 4) := ⟨⟨by decide +kernel, by decide +kernel⟩, List.mem_of_getElem? (i := 13) (by decide +kernel), List.mem_of_getElem? (i := 256) (by decide +kernel), List.mem_of_getElem? (i := 257) (by decide +kernel)⟩
theorem lw_p2 : lw_okq (⟨"SpellPitch$Search", "layOutStates", "()V"⟩, 18) := ⟨⟨by decide +kernel, by decide +kernel⟩, List.mem_of_getElem? (i := 21) (by decide +kernel), List.mem_of_getElem? (i := 264) (by decide +kernel), List.mem_of_getElem? (i := 265) (by decide +kernel)⟩
theorem lw_p3 : lw_okq (⟨"SpellPitch$Search", "picksAt", "(I)I"⟩, 18) := ⟨⟨by decide +kernel, by decide +kernel⟩, List.mem_of_getElem? (i := 21) (by decide +kernel), List.mem_of_getElem? (i := 268) (by decide +kernel), List.mem_of_getElem? (i := 269) (by decide +kernel)⟩
theorem lw_p4 : lw_okq (⟨"SpellPitch$Search", "linkKeys", "()V"⟩, 18) := ⟨⟨by decide +kernel, by decide +kernel⟩, List.mem_of_getElem? (i := 21) (by decide +kernel), List.mem_of_getElem? (i := 274) (by decide +kernel), List.mem_of_getElem? (i := 275) (by decide +kernel)⟩
theorem lw_p5 : lw_okq (⟨"SpellPitch$Search", "lookAtTheEnd", "()V"⟩, 18) := ⟨⟨by decide +kernel, by decide +kernel⟩, List.mem_of_getElem? (i := 21) (by decide +kernel), List.mem_of_getElem? (i := 285) (by decide +kernel), List.mem_of_getElem? (i := 286) (by decide +kernel)⟩
theorem lw_p6 : lw_okq (⟨"SpellPitch$Search", "weigh", "(I)V"⟩, 18) := ⟨⟨by decide +kernel, by decide +kernel⟩, List.mem_of_getElem? (i := 21) (by decide +kernel), List.mem_of_getElem? (i := 289) (by decide +kernel), List.mem_of_getElem? (i := 290) (by decide +kernel)⟩
theorem lw_p7 : lw_okq (⟨"SpellPitch$Search", "tryNames", "(II)Z"⟩, 18) := ⟨⟨by decide +kernel, by decide +kernel⟩, List.mem_of_getElem? (i := 21) (by decide +kernel), List.mem_of_getElem? (i := 293) (by decide +kernel), List.mem_of_getElem? (i := 294) (by decide +kernel)⟩
theorem lw_p8 : lw_okq (⟨"SpellPitch$Search", "valueOfTried", "(I)I"⟩, 18) := ⟨⟨by decide +kernel, by decide +kernel⟩, List.mem_of_getElem? (i := 21) (by decide +kernel), List.mem_of_getElem? (i := 305) (by decide +kernel), List.mem_of_getElem? (i := 306) (by decide +kernel)⟩
theorem lw_p9 : lw_okq (⟨"SpellPitch$Search", "valueOutside", "(II)I"⟩, 18) := ⟨⟨by decide +kernel, by decide +kernel⟩, List.mem_of_getElem? (i := 21) (by decide +kernel), List.mem_of_getElem? (i := 318) (by decide +kernel), List.mem_of_getElem? (i := 319) (by decide +kernel)⟩
theorem lw_p10 : lw_okq (⟨"SpellPitch$Search", "lookAheadFrom", "(I)V"⟩, 18) := ⟨⟨by decide +kernel, by decide +kernel⟩, List.mem_of_getElem? (i := 21) (by decide +kernel), List.mem_of_getElem? (i := 322) (by decide +kernel), List.mem_of_getElem? (i := 323) (by decide +kernel)⟩
theorem lw_p11 : lw_okq (⟨"SpellPitch$Search", "foldLines", "(III[II)V"⟩, 18) := ⟨⟨by decide +kernel, by decide +kernel⟩, List.mem_of_getElem? (i := 21) (by decide +kernel), List.mem_of_getElem? (i := 329) (by decide +kernel), List.mem_of_getElem? (i := 330) (by decide +kernel)⟩
theorem lw_p12 : lw_okq (⟨"SpellPitch$Search", "foldOne", "(II[II)V"⟩, 18) := ⟨⟨by decide +kernel, by decide +kernel⟩, List.mem_of_getElem? (i := 21) (by decide +kernel), List.mem_of_getElem? (i := 333) (by decide +kernel), List.mem_of_getElem? (i := 334) (by decide +kernel)⟩
theorem lw_p13 : lw_okq (⟨"SpellPitch$Search", "linkSteps", "(I)V"⟩, 18) := ⟨⟨by decide +kernel, by decide +kernel⟩, List.mem_of_getElem? (i := 21) (by decide +kernel), List.mem_of_getElem? (i := 341) (by decide +kernel), List.mem_of_getElem? (i := 342) (by decide +kernel)⟩
theorem lw_p14 : lw_okq (⟨"SpellPitch$Search", "isBadStep", "(IIII)Z"⟩, 18) := ⟨⟨by decide +kernel, by decide +kernel⟩, List.mem_of_getElem? (i := 21) (by decide +kernel), List.mem_of_getElem? (i := 345) (by decide +kernel), List.mem_of_getElem? (i := 346) (by decide +kernel)⟩
theorem lw_p15 : lw_okq (⟨"SpellPitch$Search", "countChoices", "()V"⟩, 18) := ⟨⟨by decide +kernel, by decide +kernel⟩, List.mem_of_getElem? (i := 21) (by decide +kernel), List.mem_of_getElem? (i := 349) (by decide +kernel), List.mem_of_getElem? (i := 350) (by decide +kernel)⟩
def lw_privs_1 : List (MethodName × Nat) := [(⟨"SpellPitch$Score", "listOptions", "(I)V"⟩, 10), (⟨"SpellPitch", "meant", "()LSpellPitch$Search;"⟩, 4), (⟨"SpellPitch$Search", "layOutStates", "()V"⟩, 18), (⟨"SpellPitch$Search", "picksAt", "(I)I"⟩, 18), (⟨"SpellPitch$Search", "linkKeys", "()V"⟩, 18), (⟨"SpellPitch$Search", "lookAtTheEnd", "()V"⟩, 18), (⟨"SpellPitch$Search", "weigh", "(I)V"⟩, 18), (⟨"SpellPitch$Search", "tryNames", "(II)Z"⟩, 18), (⟨"SpellPitch$Search", "valueOfTried", "(I)I"⟩, 18), (⟨"SpellPitch$Search", "valueOutside", "(II)I"⟩, 18), (⟨"SpellPitch$Search", "lookAheadFrom", "(I)V"⟩, 18), (⟨"SpellPitch$Search", "foldLines", "(III[II)V"⟩, 18), (⟨"SpellPitch$Search", "foldOne", "(II[II)V"⟩, 18), (⟨"SpellPitch$Search", "linkSteps", "(I)V"⟩, 18), (⟨"SpellPitch$Search", "isBadStep", "(IIII)Z"⟩, 18), (⟨"SpellPitch$Search", "countChoices", "()V"⟩, 18)]
theorem lw_r1 : ∀ q ∈ lw_privs_1, lw_okq q := List.forall_mem_cons.mpr ⟨lw_p0, List.forall_mem_cons.mpr ⟨lw_p1, List.forall_mem_cons.mpr ⟨lw_p2, List.forall_mem_cons.mpr ⟨lw_p3, List.forall_mem_cons.mpr ⟨lw_p4, List.forall_mem_cons.mpr ⟨lw_p5, List.forall_mem_cons.mpr ⟨lw_p6, List.forall_mem_cons.mpr ⟨lw_p7, List.forall_mem_cons.mpr ⟨lw_p8, List.forall_mem_cons.mpr ⟨lw_p9, List.forall_mem_cons.mpr ⟨lw_p10, List.forall_mem_cons.mpr ⟨lw_p11, List.forall_mem_cons.mpr ⟨lw_p12, List.forall_mem_cons.mpr ⟨lw_p13, List.forall_mem_cons.mpr ⟨lw_p14, List.forall_mem_cons.mpr ⟨lw_p15, fun _ h => absurd h List.not_mem_nil⟩⟩⟩⟩⟩⟩⟩⟩⟩⟩⟩⟩⟩⟩⟩⟩
theorem lw_p16 : lw_okq (⟨"SpellPitch$Search", "readOff", "()V"⟩, 18) := ⟨⟨by decide +kernel, by decide +kernel⟩, List.mem_of_getElem? (i := 21) (by decide +kernel), List.mem_of_getElem? (i := 353) (by decide +kernel), List.mem_of_getElem? (i := 354) (by decide +kernel)⟩
theorem lw_p17 : lw_okq (⟨"SpellPitch$Search", "firstOfBest", "(II)I"⟩, 18) := ⟨⟨by decide +kernel, by decide +kernel⟩, List.mem_of_getElem? (i := 21) (by decide +kernel), List.mem_of_getElem? (i := 357) (by decide +kernel), List.mem_of_getElem? (i := 358) (by decide +kernel)⟩
theorem lw_p18 : lw_okq (⟨"SpellPitch$Search", "valueBetween", "(III)I"⟩, 18) := ⟨⟨by decide +kernel, by decide +kernel⟩, List.mem_of_getElem? (i := 21) (by decide +kernel), List.mem_of_getElem? (i := 361) (by decide +kernel), List.mem_of_getElem? (i := 362) (by decide +kernel)⟩
theorem lw_p19 : lw_okq (⟨"SpellPitch$Search", "keep", "(II)V"⟩, 18) := ⟨⟨by decide +kernel, by decide +kernel⟩, List.mem_of_getElem? (i := 21) (by decide +kernel), List.mem_of_getElem? (i := 365) (by decide +kernel), List.mem_of_getElem? (i := 366) (by decide +kernel)⟩
theorem lw_p20 : lw_okq (⟨"java/lang/Throwable", "fillInStackTrace", "(I)Ljava/lang/Throwable;"⟩, 6) := ⟨⟨by decide +kernel, by decide +kernel⟩, List.mem_of_getElem? (i := 479) (by decide +kernel), List.mem_of_getElem? (i := 477) (by decide +kernel), List.mem_of_getElem? (i := 478) (by decide +kernel)⟩
theorem lw_p21 : lw_okq (⟨"SpellPitchModel", "isSound", "(I)Z"⟩, 34) := ⟨⟨by decide +kernel, by decide +kernel⟩, List.mem_of_getElem? (i := 509) (by decide +kernel), List.mem_of_getElem? (i := 630) (by decide +kernel), List.mem_of_getElem? (i := 631) (by decide +kernel)⟩
theorem lw_p22 : lw_okq (⟨"SpellPitchModel", "find", "()V"⟩, 34) := ⟨⟨by decide +kernel, by decide +kernel⟩, List.mem_of_getElem? (i := 509) (by decide +kernel), List.mem_of_getElem? (i := 656) (by decide +kernel), List.mem_of_getElem? (i := 657) (by decide +kernel)⟩
theorem lw_p23 : lw_okq (⟨"SpellPitchModel", "begin", "()V"⟩, 34) := ⟨⟨by decide +kernel, by decide +kernel⟩, List.mem_of_getElem? (i := 509) (by decide +kernel), List.mem_of_getElem? (i := 660) (by decide +kernel), List.mem_of_getElem? (i := 661) (by decide +kernel)⟩
theorem lw_p24 : lw_okq (⟨"SpellPitchModel", "findNames", "(I)V"⟩, 34) := ⟨⟨by decide +kernel, by decide +kernel⟩, List.mem_of_getElem? (i := 509) (by decide +kernel), List.mem_of_getElem? (i := 664) (by decide +kernel), List.mem_of_getElem? (i := 665) (by decide +kernel)⟩
theorem lw_p25 : lw_okq (⟨"SpellPitchModel", "nameIn", "(III)I"⟩, 34) := ⟨⟨by decide +kernel, by decide +kernel⟩, List.mem_of_getElem? (i := 509) (by decide +kernel), List.mem_of_getElem? (i := 668) (by decide +kernel), List.mem_of_getElem? (i := 669) (by decide +kernel)⟩
theorem lw_p26 : lw_okq (⟨"SpellPitchModel", "judge", "(III)Z"⟩, 34) := ⟨⟨by decide +kernel, by decide +kernel⟩, List.mem_of_getElem? (i := 509) (by decide +kernel), List.mem_of_getElem? (i := 672) (by decide +kernel), List.mem_of_getElem? (i := 673) (by decide +kernel)⟩
theorem lw_p27 : lw_okq (⟨"SpellPitchModel", "goOn", "(I)V"⟩, 34) := ⟨⟨by decide +kernel, by decide +kernel⟩, List.mem_of_getElem? (i := 509) (by decide +kernel), List.mem_of_getElem? (i := 682) (by decide +kernel), List.mem_of_getElem? (i := 683) (by decide +kernel)⟩
theorem lw_p28 : lw_okq (⟨"SpellPitchModel", "findSteps", "(I)V"⟩, 34) := ⟨⟨by decide +kernel, by decide +kernel⟩, List.mem_of_getElem? (i := 509) (by decide +kernel), List.mem_of_getElem? (i := 686) (by decide +kernel), List.mem_of_getElem? (i := 687) (by decide +kernel)⟩
theorem lw_p29 : lw_okq (⟨"SpellPitchModel", "reach", "(II)V"⟩, 34) := ⟨⟨by decide +kernel, by decide +kernel⟩, List.mem_of_getElem? (i := 509) (by decide +kernel), List.mem_of_getElem? (i := 705) (by decide +kernel), List.mem_of_getElem? (i := 706) (by decide +kernel)⟩
theorem lw_p30 : lw_okq (⟨"SpellPitchModel", "keysCost", "(II)I"⟩, 34) := ⟨⟨by decide +kernel, by decide +kernel⟩, List.mem_of_getElem? (i := 509) (by decide +kernel), List.mem_of_getElem? (i := 709) (by decide +kernel), List.mem_of_getElem? (i := 710) (by decide +kernel)⟩
theorem lw_p31 : lw_okq (⟨"SpellPitchModel", "isTurn", "(I)Z"⟩, 34) := ⟨⟨by decide +kernel, by decide +kernel⟩, List.mem_of_getElem? (i := 509) (by decide +kernel), List.mem_of_getElem? (i := 737) (by decide +kernel), List.mem_of_getElem? (i := 738) (by decide +kernel)⟩
def lw_privs_2 : List (MethodName × Nat) := [(⟨"SpellPitch$Search", "readOff", "()V"⟩, 18), (⟨"SpellPitch$Search", "firstOfBest", "(II)I"⟩, 18), (⟨"SpellPitch$Search", "valueBetween", "(III)I"⟩, 18), (⟨"SpellPitch$Search", "keep", "(II)V"⟩, 18), (⟨"java/lang/Throwable", "fillInStackTrace", "(I)Ljava/lang/Throwable;"⟩, 6), (⟨"SpellPitchModel", "isSound", "(I)Z"⟩, 34), (⟨"SpellPitchModel", "find", "()V"⟩, 34), (⟨"SpellPitchModel", "begin", "()V"⟩, 34), (⟨"SpellPitchModel", "findNames", "(I)V"⟩, 34), (⟨"SpellPitchModel", "nameIn", "(III)I"⟩, 34), (⟨"SpellPitchModel", "judge", "(III)Z"⟩, 34), (⟨"SpellPitchModel", "goOn", "(I)V"⟩, 34), (⟨"SpellPitchModel", "findSteps", "(I)V"⟩, 34), (⟨"SpellPitchModel", "reach", "(II)V"⟩, 34), (⟨"SpellPitchModel", "keysCost", "(II)I"⟩, 34), (⟨"SpellPitchModel", "isTurn", "(I)Z"⟩, 34)]
theorem lw_r2 : ∀ q ∈ lw_privs_2, lw_okq q := List.forall_mem_cons.mpr ⟨lw_p16, List.forall_mem_cons.mpr ⟨lw_p17, List.forall_mem_cons.mpr ⟨lw_p18, List.forall_mem_cons.mpr ⟨lw_p19, List.forall_mem_cons.mpr ⟨lw_p20, List.forall_mem_cons.mpr ⟨lw_p21, List.forall_mem_cons.mpr ⟨lw_p22, List.forall_mem_cons.mpr ⟨lw_p23, List.forall_mem_cons.mpr ⟨lw_p24, List.forall_mem_cons.mpr ⟨lw_p25, List.forall_mem_cons.mpr ⟨lw_p26, List.forall_mem_cons.mpr ⟨lw_p27, List.forall_mem_cons.mpr ⟨lw_p28, List.forall_mem_cons.mpr ⟨lw_p29, List.forall_mem_cons.mpr ⟨lw_p30, List.forall_mem_cons.mpr ⟨lw_p31, fun _ h => absurd h List.not_mem_nil⟩⟩⟩⟩⟩⟩⟩⟩⟩⟩⟩⟩⟩⟩⟩⟩
def lw_privs : List (MethodName × Nat) := lw_privs_1 ++ (lw_privs_2)
def lw_tbl : List Cond := k2_sels lw_privs ++ tables_1
theorem lw_privs_ok : ∀ q ∈ lw_privs, lw_okq q := by
  show ∀ q ∈ lw_privs_1 ++ (lw_privs_2), lw_okq q
  exact List.forall_mem_append.mpr ⟨lw_r1, lw_r2⟩
theorem aW_mem_T {i : Nat} {w : Cond} (h : tables_1[i]? = some w) (hg : goodWord w = true) : w ∈ lw_tbl.filter goodWord := List.mem_filter.mpr ⟨List.mem_append_right _ (List.mem_of_getElem? h), hg⟩
def aW : List Cond := lw_tbl.filter goodWord
theorem aW_ok {w : Cond} (h : w ∈ aW) : (w.onTables && w.keeps) = true ∨ ∃ ty, w = .arrayClass ty := good_of_word (List.mem_filter.mp h).2
theorem aW_T (i : Nat) {w : Cond} (h : tables_1[i]? = some w) (hg : goodWord w = true) : w ∈ aW := aW_mem_T h hg
theorem aW_S (i : Nat) {q : MethodName × Nat} (h : lw_privs[i]? = some q) : Cond.selects q.1.cls q.1 q.1 ∈ aW := List.mem_filter.mpr ⟨List.mem_append_left _ (List.mem_map.mpr ⟨q, List.mem_of_getElem? h, rfl⟩), by rfl⟩
theorem aW_in {c w : Cond} (h : w ∈ aW) : w ∈ c :: aW := List.mem_cons_of_mem _ h
theorem gW {c1 c2 : Cond} (h : c2 ∈ aW) : GoodIn (c1 :: aW) (c2 :: aW) := fun w hw => (List.mem_cons.mp hw).elim (fun e => by rw [e]; exact ⟨aW_in h, aW_ok h⟩) (fun h => ⟨aW_in h, aW_ok h⟩)
theorem gA {c1 : Cond} {a ws : List Cond} (ha : ∀ w ∈ a, w ∈ aW) (hw : GoodIn (c1 :: aW) ws) : GoodIn (c1 :: aW) (a ++ ws) := fun w h => (List.mem_append.mp h).elim (fun h => ⟨aW_in (ha w h), aW_ok (ha w h)⟩) (hw w)
theorem gV {c1 c2 : Cond} {own C : String} {n : Nat} {y : MethodName} (h1 : Cond.methodLink own n y ∈ aW) (h2 : Cond.instanceMethod y ∈ aW) (h3 : Cond.selects C y y ∈ aW) (h4 : Cond.initialized C ∈ aW) (h5 : c2 ∈ aW) : GoodIn (c1 :: aW) (wsV own n C y (c2 :: aW)) := gA (q_cons h1 (q_cons h2 (q_cons h3 (q_cons h4 q_nil)))) (gW h5)
theorem gS {c1 c2 : Cond} {own : String} {n : Nat} {y : MethodName} (h1 : Cond.methodLink own n y ∈ aW) (h2 : Cond.static y ∈ aW) (h4 : Cond.initialized y.cls ∈ aW) (h5 : c2 ∈ aW) : GoodIn (c1 :: aW) (va_wsS own n y (c2 :: aW)) := gA (q_cons h1 (q_cons h2 (q_cons h4 q_nil))) (gW h5)
def tt_S : u_T := fun k => match k with
  | 0 => ("SpellPitch$Score", "pitches", "[I", true)
  | 1 => ("SpellPitch$Score", "toldNames", "[I", true)
  | 2 => ("SpellPitch$Score", "momentOf", "[I", true)
  | 3 => ("SpellPitch$Score", "firstSound", "[I", true)
  | 4 => ("SpellPitch$Score", "soundsAt", "[I", true)
  | 5 => ("SpellPitch$Score", "toldKeys", "[I", true)
  | 6 => ("SpellPitch$Score", "optionNames", "[I", true)
  | 7 => ("SpellPitch$Score", "optionPlaces", "[I", true)
  | 8 => ("SpellPitch$Score", "sounds", "I", false)
  | _ => ("SpellPitch$Score", "moments", "I", false)
def ty_S : Nat → FieldType := fun k => match k with
  | 0 => (.array .int)
  | 1 => (.array .int)
  | 2 => (.array .int)
  | 3 => (.array .int)
  | 4 => (.array .int)
  | 5 => (.array .int)
  | 6 => (.array .int)
  | 7 => (.array .int)
  | 8 => .int
  | _ => .int
theorem tn_S : ∀ a, a < 10 → ∀ b, b < 10 → a ≠ b → (tt_S a).2.1 ≠ (tt_S b).2.1 := by decide +kernel
theorem tk_S : ∀ k, k < 10 → parseFieldDescriptor (tt_S k).2.2.1 = some (ty_S k) := by decide +kernel
def tt_R : u_T := fun k => match k with
  | 0 => ("SpellPitch$Search", "names", "[I", true)
  | 1 => ("SpellPitch$Search", "keys", "[I", true)
  | 2 => ("SpellPitch$Search", "cost", "I", false)
  | 3 => ("SpellPitch$Search", "signCount", "I", false)
  | 4 => ("SpellPitch$Search", "choices", "I", false)
  | 5 => ("SpellPitch$Search", "score", "LSpellPitch$Score;", true)
  | 6 => ("SpellPitch$Search", "weights", "LSpellPitch$Weights;", true)
  | 7 => ("SpellPitch$Search", "values", "[I", true)
  | 8 => ("SpellPitch$Search", "firstState", "[I", true)
  | 9 => ("SpellPitch$Search", "ways", "[I", true)
  | 10 => ("SpellPitch$Search", "ahead", "[I", true)
  | 11 => ("SpellPitch$Search", "waysAhead", "[I", true)
  | 12 => ("SpellPitch$Search", "line", "[I", true)
  | 13 => ("SpellPitch$Search", "lineWays", "[I", true)
  | 14 => ("SpellPitch$Search", "keyLinks", "[I", true)
  | 15 => ("SpellPitch$Search", "stepLinks", "[I", true)
  | 16 => ("SpellPitch$Search", "tried", "[I", true)
  | _ => ("SpellPitch$Search", "picksAhead", "I", false)
def ty_R : Nat → FieldType := fun k => match k with
  | 0 => (.array .int)
  | 1 => (.array .int)
  | 2 => .int
  | 3 => .int
  | 4 => .int
  | 5 => (.object "SpellPitch$Score")
  | 6 => (.object "SpellPitch$Weights")
  | 7 => (.array .int)
  | 8 => (.array .int)
  | 9 => (.array .int)
  | 10 => (.array .int)
  | 11 => (.array .int)
  | 12 => (.array .int)
  | 13 => (.array .int)
  | 14 => (.array .int)
  | 15 => (.array .int)
  | 16 => (.array .int)
  | _ => .int
theorem tn_R : ∀ a, a < 18 → ∀ b, b < 18 → a ≠ b → (tt_R a).2.1 ≠ (tt_R b).2.1 := by decide +kernel
theorem tk_R : ∀ k, k < 18 → parseFieldDescriptor (tt_R k).2.2.1 = some (ty_R k) := by decide +kernel
def tt_G : u_T := fun k => match k with
  | 0 => ("SpellPitch$Weights", "out", "I", false)
  | 1 => ("SpellPitch$Weights", "twice", "I", false)
  | 2 => ("SpellPitch$Weights", "wide", "I", false)
  | 3 => ("SpellPitch$Weights", "step", "I", false)
  | _ => ("SpellPitch$Weights", "change", "I", false)
def ty_G : Nat → FieldType := fun k => match k with
  | 0 => .int
  | 1 => .int
  | 2 => .int
  | 3 => .int
  | _ => .int
theorem tn_G : ∀ a, a < 5 → ∀ b, b < 5 → a ≠ b → (tt_G a).2.1 ≠ (tt_G b).2.1 := by decide +kernel
theorem tk_G : ∀ k, k < 5 → parseFieldDescriptor (tt_G k).2.2.1 = some (ty_G k) := by decide +kernel
def tt_X : u_T := fun k => match k with
  | 0 => ("SpellPitch", "score", "LSpellPitch$Score;", true)
  | 1 => ("SpellPitch", "weights", "LSpellPitch$Weights;", true)
  | 2 => ("SpellPitch", "search", "LSpellPitch$Search;", true)
  | _ => ("SpellPitch", "searched", "Z", false)
def ty_X : Nat → FieldType := fun k => match k with
  | 0 => (.object "SpellPitch$Score")
  | 1 => (.object "SpellPitch$Weights")
  | 2 => (.object "SpellPitch$Search")
  | _ => .boolean
theorem tn_X : ∀ a, a < 4 → ∀ b, b < 4 → a ≠ b → (tt_X a).2.1 ≠ (tt_X b).2.1 := by decide +kernel
theorem tk_X : ∀ k, k < 4 → parseFieldDescriptor (tt_X k).2.2.1 = some (ty_X k) := by decide +kernel
def tt_M : u_T := fun k => match k with
  | 0 => ("SpellPitchModel", "code", "I", false)
  | 1 => ("SpellPitchModel", "sounds", "I", false)
  | 2 => ("SpellPitchModel", "moments", "I", false)
  | 3 => ("SpellPitchModel", "pitches", "[I", true)
  | 4 => ("SpellPitchModel", "momentOf", "[I", true)
  | 5 => ("SpellPitchModel", "told", "[I", true)
  | 6 => ("SpellPitchModel", "firstOf", "[I", true)
  | 7 => ("SpellPitchModel", "sizeOf", "[I", true)
  | 8 => ("SpellPitchModel", "keyTold", "[I", true)
  | 9 => ("SpellPitchModel", "out", "I", false)
  | 10 => ("SpellPitchModel", "twice", "I", false)
  | 11 => ("SpellPitchModel", "wide", "I", false)
  | 12 => ("SpellPitchModel", "step", "I", false)
  | 13 => ("SpellPitchModel", "change", "I", false)
  | 14 => ("SpellPitchModel", "rowCost", "I", false)
  | 15 => ("SpellPitchModel", "rowSigns", "I", false)
  | 16 => ("SpellPitchModel", "names", "[I", true)
  | 17 => ("SpellPitchModel", "before", "[I", true)
  | 18 => ("SpellPitchModel", "steps", "[I", true)
  | 19 => ("SpellPitchModel", "known", "Z", false)
  | 20 => ("SpellPitchModel", "cost", "[I", true)
  | 21 => ("SpellPitchModel", "sign", "[I", true)
  | 22 => ("SpellPitchModel", "rank", "[I", true)
  | 23 => ("SpellPitchModel", "many", "[I", true)
  | 24 => ("SpellPitchModel", "nextCost", "[I", true)
  | 25 => ("SpellPitchModel", "nextSign", "[I", true)
  | 26 => ("SpellPitchModel", "nextCode", "[I", true)
  | 27 => ("SpellPitchModel", "nextMany", "[I", true)
  | 28 => ("SpellPitchModel", "from", "[I", true)
  | 29 => ("SpellPitchModel", "meantKey", "[I", true)
  | 30 => ("SpellPitchModel", "meant", "[I", true)
  | 31 => ("SpellPitchModel", "leastCost", "I", false)
  | 32 => ("SpellPitchModel", "leastSigns", "I", false)
  | _ => ("SpellPitchModel", "leastMany", "I", false)
def ty_M : Nat → FieldType := fun k => match k with
  | 0 => .int
  | 1 => .int
  | 2 => .int
  | 3 => (.array .int)
  | 4 => (.array .int)
  | 5 => (.array .int)
  | 6 => (.array .int)
  | 7 => (.array .int)
  | 8 => (.array .int)
  | 9 => .int
  | 10 => .int
  | 11 => .int
  | 12 => .int
  | 13 => .int
  | 14 => .int
  | 15 => .int
  | 16 => (.array .int)
  | 17 => (.array .int)
  | 18 => (.array .int)
  | 19 => .boolean
  | 20 => (.array .int)
  | 21 => (.array .int)
  | 22 => (.array .int)
  | 23 => (.array .int)
  | 24 => (.array .int)
  | 25 => (.array .int)
  | 26 => (.array .int)
  | 27 => (.array .int)
  | 28 => (.array .int)
  | 29 => (.array .int)
  | 30 => (.array .int)
  | 31 => .int
  | 32 => .int
  | _ => .int
theorem tn_M : ∀ a, a < 34 → ∀ b, b < 34 → a ≠ b → (tt_M a).2.1 ≠ (tt_M b).2.1 := by decide +kernel
theorem tk_M : ∀ k, k < 34 → parseFieldDescriptor (tt_M k).2.2.1 = some (ty_M k) := by decide +kernel
abbrev cls5 : List vw_C := [("SpellPitch$Score", tt_S, 10), ("SpellPitch$Search", tt_R, 18), ("SpellPitch$Weights", tt_G, 5), ("SpellPitch", tt_X, 4), ("SpellPitchModel", tt_M, 34)]
theorem tw_S : ∀ w ∈ u_ws "SpellPitch$Score" tt_S 10, w ∈ aW := by decide +kernel
theorem fo_S {own : String} {n k : Nat} {ty : FieldType} {wr ini : Bool} {c : Cond} (hk : k < 10) (hl : Cond.fieldLink own n "SpellPitch$Score" (tt_S k).2.1 (tt_S k).2.2.1 ∈ aW) (hr : (tt_S k).1 = "SpellPitch$Score") (ht : ty_S k = ty) (hw : wr = true → ((tt_S k).2.2.2 = false ∨ ((tt_S k).2.2.2 = true ∧ ini = true ∧ (tt_S k).1 = own))) : q_FldOK ini own (c :: aW) cls5 n 0 k ty wr := ⟨"SpellPitch$Score", tt_S, 10, "SpellPitch$Score", ty_S, rfl, fun w h => aW_in (tw_S w h), hk, aW_in hl, hr, by rw [← ht]; exact tk_S k hk, tk_S, tn_S, hw⟩
theorem tw_R : ∀ w ∈ u_ws "SpellPitch$Search" tt_R 18, w ∈ aW := by decide +kernel
theorem fo_R {own : String} {n k : Nat} {ty : FieldType} {wr ini : Bool} {c : Cond} (hk : k < 18) (hl : Cond.fieldLink own n "SpellPitch$Search" (tt_R k).2.1 (tt_R k).2.2.1 ∈ aW) (hr : (tt_R k).1 = "SpellPitch$Search") (ht : ty_R k = ty) (hw : wr = true → ((tt_R k).2.2.2 = false ∨ ((tt_R k).2.2.2 = true ∧ ini = true ∧ (tt_R k).1 = own))) : q_FldOK ini own (c :: aW) cls5 n 1 k ty wr := ⟨"SpellPitch$Search", tt_R, 18, "SpellPitch$Search", ty_R, rfl, fun w h => aW_in (tw_R w h), hk, aW_in hl, hr, by rw [← ht]; exact tk_R k hk, tk_R, tn_R, hw⟩
theorem tw_G : ∀ w ∈ u_ws "SpellPitch$Weights" tt_G 5, w ∈ aW := by decide +kernel
theorem fo_G {own : String} {n k : Nat} {ty : FieldType} {wr ini : Bool} {c : Cond} (hk : k < 5) (hl : Cond.fieldLink own n "SpellPitch$Weights" (tt_G k).2.1 (tt_G k).2.2.1 ∈ aW) (hr : (tt_G k).1 = "SpellPitch$Weights") (ht : ty_G k = ty) (hw : wr = true → ((tt_G k).2.2.2 = false ∨ ((tt_G k).2.2.2 = true ∧ ini = true ∧ (tt_G k).1 = own))) : q_FldOK ini own (c :: aW) cls5 n 2 k ty wr := ⟨"SpellPitch$Weights", tt_G, 5, "SpellPitch$Weights", ty_G, rfl, fun w h => aW_in (tw_G w h), hk, aW_in hl, hr, by rw [← ht]; exact tk_G k hk, tk_G, tn_G, hw⟩
theorem tw_X : ∀ w ∈ u_ws "SpellPitch" tt_X 4, w ∈ aW := by decide +kernel
theorem fo_X {own : String} {n k : Nat} {ty : FieldType} {wr ini : Bool} {c : Cond} (hk : k < 4) (hl : Cond.fieldLink own n "SpellPitch" (tt_X k).2.1 (tt_X k).2.2.1 ∈ aW) (hr : (tt_X k).1 = "SpellPitch") (ht : ty_X k = ty) (hw : wr = true → ((tt_X k).2.2.2 = false ∨ ((tt_X k).2.2.2 = true ∧ ini = true ∧ (tt_X k).1 = own))) : q_FldOK ini own (c :: aW) cls5 n 3 k ty wr := ⟨"SpellPitch", tt_X, 4, "SpellPitch", ty_X, rfl, fun w h => aW_in (tw_X w h), hk, aW_in hl, hr, by rw [← ht]; exact tk_X k hk, tk_X, tn_X, hw⟩
theorem tw_M : ∀ w ∈ u_ws "SpellPitchModel" tt_M 34, w ∈ aW := by decide +kernel
theorem fo_M {own : String} {n k : Nat} {ty : FieldType} {wr ini : Bool} {c : Cond} (hk : k < 34) (hl : Cond.fieldLink own n "SpellPitchModel" (tt_M k).2.1 (tt_M k).2.2.1 ∈ aW) (hr : (tt_M k).1 = "SpellPitchModel") (ht : ty_M k = ty) (hw : wr = true → ((tt_M k).2.2.2 = false ∨ ((tt_M k).2.2.2 = true ∧ ini = true ∧ (tt_M k).1 = own))) : q_FldOK ini own (c :: aW) cls5 n 4 k ty wr := ⟨"SpellPitchModel", tt_M, 34, "SpellPitchModel", ty_M, rfl, fun w h => aW_in (tw_M w h), hk, aW_in hl, hr, by rw [← ht]; exact tk_M k hk, tk_M, tn_M, hw⟩
def y_X_init : MethodName := ⟨"SpellPitch", "<init>", "()V"⟩
def y_X_pitch : MethodName := ⟨"SpellPitch", "pitch", "(IZ)I"⟩
def y_X_key : MethodName := ⟨"SpellPitch", "key", "(II)I"⟩
def y_X_fix : MethodName := ⟨"SpellPitch", "fix", "(II)I"⟩
def y_X_weights : MethodName := ⟨"SpellPitch", "weights", "(IIIII)I"⟩
def y_X_clear : MethodName := ⟨"SpellPitch", "clear", "()I"⟩
def y_X_sum : MethodName := ⟨"SpellPitch", "sum", "()I"⟩
def y_X_signs : MethodName := ⟨"SpellPitch", "signs", "()I"⟩
def y_X_ties : MethodName := ⟨"SpellPitch", "ties", "()I"⟩
def y_X_name : MethodName := ⟨"SpellPitch", "name", "(II)I"⟩
def y_X_keyOf : MethodName := ⟨"SpellPitch", "keyOf", "(I)I"⟩
def y_X_turned : MethodName := ⟨"SpellPitch", "turned", "()I"⟩
def y_X_turn : MethodName := ⟨"SpellPitch", "turn", "(I)I"⟩
def y_X_interval : MethodName := ⟨"SpellPitch", "interval", "(III)I"⟩
def y_X_quality : MethodName := ⟨"SpellPitch", "quality", "(II)I"⟩
def y_X_add : MethodName := ⟨"SpellPitch", "add", "(II)I"⟩
def y_X_transpose : MethodName := ⟨"SpellPitch", "transpose", "(III)I"⟩
def y_X_micro : MethodName := ⟨"SpellPitch", "micro", "(III)I"⟩
def y_X_step : MethodName := ⟨"SpellPitch", "step", "(II)I"⟩
def y_X_equal : MethodName := ⟨"SpellPitch", "equal", "(II)I"⟩
def y_X_scale : MethodName := ⟨"SpellPitch", "scale", "(II)I"⟩
def y_X_meant : MethodName := ⟨"SpellPitch", "meant", "()LSpellPitch$Search;"⟩
def y_X_isName : MethodName := ⟨"SpellPitch", "isName", "(I)Z"⟩
def y_X_isInterval : MethodName := ⟨"SpellPitch", "isInterval", "(I)Z"⟩
def y_X_isWeight : MethodName := ⟨"SpellPitch", "isWeight", "(I)Z"⟩
def y_X_isTurn : MethodName := ⟨"SpellPitch", "isTurn", "(II)Z"⟩
def y_X_soundsAs : MethodName := ⟨"SpellPitch", "soundsAs", "(II)Z"⟩
def y_X_letterOf : MethodName := ⟨"SpellPitch", "letterOf", "(I)I"⟩
def y_X_signsOf : MethodName := ⟨"SpellPitch", "signsOf", "(I)I"⟩
def y_X_octaveOf : MethodName := ⟨"SpellPitch", "octaveOf", "(II)I"⟩
def y_X_placeOf : MethodName := ⟨"SpellPitch", "placeOf", "(II)I"⟩
def y_X_stepsOf : MethodName := ⟨"SpellPitch", "stepsOf", "(I)I"⟩
def y_X_halvesOf : MethodName := ⟨"SpellPitch", "halvesOf", "(I)I"⟩
def y_X_sortOf : MethodName := ⟨"SpellPitch", "sortOf", "(I)I"⟩
def y_M_init : MethodName := ⟨"SpellPitchModel", "<init>", "()V"⟩
def y_M_thrown : MethodName := ⟨"SpellPitchModel", "thrown", "()I"⟩
def y_M_isSound : MethodName := ⟨"SpellPitchModel", "isSound", "(I)Z"⟩
def y_M_pitch : MethodName := ⟨"SpellPitchModel", "pitch", "(IZ)I"⟩
def y_M_key : MethodName := ⟨"SpellPitchModel", "key", "(II)I"⟩
def y_M_soundsAs : MethodName := ⟨"SpellPitchModel", "soundsAs", "(II)Z"⟩
def y_M_fix : MethodName := ⟨"SpellPitchModel", "fix", "(II)I"⟩
def y_M_isWeight : MethodName := ⟨"SpellPitchModel", "isWeight", "(I)Z"⟩
def y_M_weights : MethodName := ⟨"SpellPitchModel", "weights", "(IIIII)I"⟩
def y_M_clear : MethodName := ⟨"SpellPitchModel", "clear", "()I"⟩
def y_M_modulo : MethodName := ⟨"SpellPitchModel", "modulo", "(II)I"⟩
def y_M_letterOf : MethodName := ⟨"SpellPitchModel", "letterOf", "(I)I"⟩
def y_M_signsOf : MethodName := ⟨"SpellPitchModel", "signsOf", "(I)I"⟩
def y_M_octaveOf : MethodName := ⟨"SpellPitchModel", "octaveOf", "(II)I"⟩
def y_M_placeOf : MethodName := ⟨"SpellPitchModel", "placeOf", "(II)I"⟩
def y_M_size : MethodName := ⟨"SpellPitchModel", "size", "(I)I"⟩
def y_M_nameIn : MethodName := ⟨"SpellPitchModel", "nameIn", "(III)I"⟩
def y_M_findNames : MethodName := ⟨"SpellPitchModel", "findNames", "(I)V"⟩
def y_M_judge : MethodName := ⟨"SpellPitchModel", "judge", "(III)Z"⟩
def y_M_findSteps : MethodName := ⟨"SpellPitchModel", "findSteps", "(I)V"⟩
def y_M_isStep : MethodName := ⟨"SpellPitchModel", "isStep", "(IIII)Z"⟩
def y_M_keysCost : MethodName := ⟨"SpellPitchModel", "keysCost", "(II)I"⟩
def y_M_most : MethodName := ⟨"SpellPitchModel", "most", "(I)I"⟩
def y_M_begin : MethodName := ⟨"SpellPitchModel", "begin", "()V"⟩
def y_M_reach : MethodName := ⟨"SpellPitchModel", "reach", "(II)V"⟩
def y_M_goOn : MethodName := ⟨"SpellPitchModel", "goOn", "(I)V"⟩
def y_M_find : MethodName := ⟨"SpellPitchModel", "find", "()V"⟩
def y_M_sum : MethodName := ⟨"SpellPitchModel", "sum", "()I"⟩
def y_M_signs : MethodName := ⟨"SpellPitchModel", "signs", "()I"⟩
def y_M_ties : MethodName := ⟨"SpellPitchModel", "ties", "()I"⟩
def y_M_name : MethodName := ⟨"SpellPitchModel", "name", "(II)I"⟩
def y_M_keyOf : MethodName := ⟨"SpellPitchModel", "keyOf", "(I)I"⟩
def y_M_isTurn : MethodName := ⟨"SpellPitchModel", "isTurn", "(I)Z"⟩
def y_M_turned : MethodName := ⟨"SpellPitchModel", "turned", "()I"⟩
def y_M_turn : MethodName := ⟨"SpellPitchModel", "turn", "(I)I"⟩
def y_M_isInterval : MethodName := ⟨"SpellPitchModel", "isInterval", "(I)Z"⟩
def y_M_stepsOf : MethodName := ⟨"SpellPitchModel", "stepsOf", "(I)I"⟩
def y_M_halvesOf : MethodName := ⟨"SpellPitchModel", "halvesOf", "(I)I"⟩
def y_M_interval : MethodName := ⟨"SpellPitchModel", "interval", "(III)I"⟩
def y_M_quality : MethodName := ⟨"SpellPitchModel", "quality", "(II)I"⟩
def y_M_add : MethodName := ⟨"SpellPitchModel", "add", "(II)I"⟩
def y_M_transpose : MethodName := ⟨"SpellPitchModel", "transpose", "(III)I"⟩
def y_M_micro : MethodName := ⟨"SpellPitchModel", "micro", "(III)I"⟩
def y_M_step : MethodName := ⟨"SpellPitchModel", "step", "(II)I"⟩
def y_M_isName : MethodName := ⟨"SpellPitchModel", "isName", "(I)Z"⟩
def y_M_equal : MethodName := ⟨"SpellPitchModel", "equal", "(II)I"⟩
def y_M_scale : MethodName := ⟨"SpellPitchModel", "scale", "(II)I"⟩
def y_S_init : MethodName := ⟨"SpellPitch$Score", "<init>", "()V"⟩
def y_S_has : MethodName := ⟨"SpellPitch$Score", "has", "(I)Z"⟩
def y_S_canJoin : MethodName := ⟨"SpellPitch$Score", "canJoin", "()Z"⟩
def y_S_put : MethodName := ⟨"SpellPitch$Score", "put", "(IZ)I"⟩
def y_S_listOptions : MethodName := ⟨"SpellPitch$Score", "listOptions", "(I)V"⟩
def y_S_empty : MethodName := ⟨"SpellPitch$Score", "empty", "()V"⟩
def y_S_allowsName : MethodName := ⟨"SpellPitch$Score", "allowsName", "(II)Z"⟩
def y_S_allowsKey : MethodName := ⟨"SpellPitch$Score", "allowsKey", "(II)Z"⟩
def y_R_init : MethodName := ⟨"SpellPitch$Search", "<init>", "()V"⟩
def y_R_run : MethodName := ⟨"SpellPitch$Search", "run", "()V"⟩
def y_R_picksAt : MethodName := ⟨"SpellPitch$Search", "picksAt", "(I)I"⟩
def y_R_layOutStates : MethodName := ⟨"SpellPitch$Search", "layOutStates", "()V"⟩
def y_R_linkKeys : MethodName := ⟨"SpellPitch$Search", "linkKeys", "()V"⟩
def y_R_linkSteps : MethodName := ⟨"SpellPitch$Search", "linkSteps", "(I)V"⟩
def y_R_isBadStep : MethodName := ⟨"SpellPitch$Search", "isBadStep", "(IIII)Z"⟩
def y_R_lookAtTheEnd : MethodName := ⟨"SpellPitch$Search", "lookAtTheEnd", "()V"⟩
def y_R_weigh : MethodName := ⟨"SpellPitch$Search", "weigh", "(I)V"⟩
def y_R_tryNames : MethodName := ⟨"SpellPitch$Search", "tryNames", "(II)Z"⟩
def y_R_digit : MethodName := ⟨"SpellPitch$Search", "digit", "(III)I"⟩
def y_R_valueOfTried : MethodName := ⟨"SpellPitch$Search", "valueOfTried", "(I)I"⟩
def y_R_valueOutside : MethodName := ⟨"SpellPitch$Search", "valueOutside", "(II)I"⟩
def y_R_lookAheadFrom : MethodName := ⟨"SpellPitch$Search", "lookAheadFrom", "(I)V"⟩
def y_R_foldLines : MethodName := ⟨"SpellPitch$Search", "foldLines", "(III[II)V"⟩
def y_R_foldOne : MethodName := ⟨"SpellPitch$Search", "foldOne", "(II[II)V"⟩
def y_R_countChoices : MethodName := ⟨"SpellPitch$Search", "countChoices", "()V"⟩
def y_R_readOff : MethodName := ⟨"SpellPitch$Search", "readOff", "()V"⟩
def y_R_firstOfBest : MethodName := ⟨"SpellPitch$Search", "firstOfBest", "(II)I"⟩
def y_R_valueBetween : MethodName := ⟨"SpellPitch$Search", "valueBetween", "(III)I"⟩
def y_R_keep : MethodName := ⟨"SpellPitch$Search", "keep", "(II)V"⟩
def y_G_init : MethodName := ⟨"SpellPitch$Weights", "<init>", "()V"⟩
def y_J_abs : MethodName := ⟨"java/lang/Math", "abs", "(I)I"⟩
def y_J_floorDiv : MethodName := ⟨"java/lang/Math", "floorDiv", "(II)I"⟩
def y_J_floorMod : MethodName := ⟨"java/lang/Math", "floorMod", "(II)I"⟩
def y_J_max : MethodName := ⟨"java/lang/Math", "max", "(II)I"⟩
def y_J_min : MethodName := ⟨"java/lang/Math", "min", "(II)I"⟩
theorem kw_1 : Cond.initialized "SpellPitch" ∈ aW := aW_T 1 (by decide +kernel) (by decide +kernel)
theorem kw_2 : Cond.initialized "SpellPitch$Search" ∈ aW := aW_T 2 (by decide +kernel) (by decide +kernel)
theorem kw_3 : Cond.initialized "SpellPitch$Score" ∈ aW := aW_T 3 (by decide +kernel) (by decide +kernel)
theorem kw_4 : Cond.initialized "SpellPitch$Weights" ∈ aW := aW_T 4 (by decide +kernel) (by decide +kernel)
theorem kw_5 : Cond.initialized "SpellPitchModel" ∈ aW := aW_T 5 (by decide +kernel) (by decide +kernel)
theorem kw_6 : Cond.initialized "java/lang/Math" ∈ aW := aW_T 6 (by decide +kernel) (by decide +kernel)
theorem kw_7 : Cond.initialized "java/lang/System" ∈ aW := aW_T 7 (by decide +kernel) (by decide +kernel)
theorem kw_17 : Cond.methodLink "SpellPitch" 3 ⟨"java/lang/Object", "<init>", "()V"⟩ ∈ aW := aW_T 17 (by decide +kernel) (by decide +kernel)
theorem kw_18 : Cond.instanceMethod ⟨"java/lang/Object", "<init>", "()V"⟩ ∈ aW := aW_T 18 (by decide +kernel) (by decide +kernel)
theorem kw_19 : Cond.code ⟨"java/lang/Object", "<init>", "()V"⟩ object_method_1_code 1 (Option.none : Option Jvm.ClassFile.FieldType) ∈ aW := aW_T 19 (by decide +kernel) (by decide +kernel)
theorem kw_20 : Cond.classLink "SpellPitch" 9 "SpellPitch$Search" ∈ aW := aW_T 20 (by decide +kernel) (by decide +kernel)
theorem kw_21 : Cond.instantiable "SpellPitch$Search" 18 ∈ aW := aW_T 21 (by decide +kernel) (by decide +kernel)
theorem kw_23 : Cond.instanceMethod y_R_init ∈ aW := aW_T 23 (by decide +kernel) (by decide +kernel)
theorem kw_24 : Cond.code y_R_init prog_3_method_1_code 1 (Option.none : Option Jvm.ClassFile.FieldType) ∈ aW := aW_T 24 (by decide +kernel) (by decide +kernel)
theorem kw_25 : Cond.methodLink "SpellPitch$Search" 3 ⟨"java/lang/Object", "<init>", "()V"⟩ ∈ aW := aW_T 25 (by decide +kernel) (by decide +kernel)
theorem kw_26 : Cond.classLink "SpellPitch$Search" 28 "SpellPitch$Score" ∈ aW := aW_T 26 (by decide +kernel) (by decide +kernel)
theorem kw_27 : Cond.instantiable "SpellPitch$Score" 10 ∈ aW := aW_T 27 (by decide +kernel) (by decide +kernel)
theorem kw_29 : Cond.instanceMethod y_S_init ∈ aW := aW_T 29 (by decide +kernel) (by decide +kernel)
theorem kw_30 : Cond.code y_S_init prog_2_method_1_code 1 (Option.none : Option Jvm.ClassFile.FieldType) ∈ aW := aW_T 30 (by decide +kernel) (by decide +kernel)
theorem kw_31 : Cond.methodLink "SpellPitch$Score" 3 ⟨"java/lang/Object", "<init>", "()V"⟩ ∈ aW := aW_T 31 (by decide +kernel) (by decide +kernel)
theorem kw_32 : Cond.fieldLink "SpellPitch$Score" 9 "SpellPitch$Score" "pitches" "[I" ∈ aW := aW_T 32 (by decide +kernel) (by decide +kernel)
theorem kw_33 : Cond.fieldLink "SpellPitch" 58 "SpellPitch$Score" "pitches" "[I" ∈ aW := aW_T 33 (by decide +kernel) (by decide +kernel)
theorem kw_34 : Cond.fieldLink "SpellPitch$Search" 136 "SpellPitch$Score" "pitches" "[I" ∈ aW := aW_T 34 (by decide +kernel) (by decide +kernel)
theorem kw_35 : Cond.fieldLink "SpellPitch$Score" 15 "SpellPitch$Score" "toldNames" "[I" ∈ aW := aW_T 35 (by decide +kernel) (by decide +kernel)
theorem kw_36 : Cond.fieldLink "SpellPitch" 65 "SpellPitch$Score" "toldNames" "[I" ∈ aW := aW_T 36 (by decide +kernel) (by decide +kernel)
theorem kw_37 : Cond.fieldLink "SpellPitch$Score" 18 "SpellPitch$Score" "momentOf" "[I" ∈ aW := aW_T 37 (by decide +kernel) (by decide +kernel)
theorem kw_38 : Cond.fieldLink "SpellPitch" 48 "SpellPitch$Score" "momentOf" "[I" ∈ aW := aW_T 38 (by decide +kernel) (by decide +kernel)
theorem kw_39 : Cond.fieldLink "SpellPitch$Score" 21 "SpellPitch$Score" "firstSound" "[I" ∈ aW := aW_T 39 (by decide +kernel) (by decide +kernel)
theorem kw_40 : Cond.fieldLink "SpellPitch$Search" 122 "SpellPitch$Score" "firstSound" "[I" ∈ aW := aW_T 40 (by decide +kernel) (by decide +kernel)
theorem kw_41 : Cond.fieldLink "SpellPitch$Score" 24 "SpellPitch$Score" "soundsAt" "[I" ∈ aW := aW_T 41 (by decide +kernel) (by decide +kernel)
theorem kw_42 : Cond.fieldLink "SpellPitch$Search" 103 "SpellPitch$Score" "soundsAt" "[I" ∈ aW := aW_T 42 (by decide +kernel) (by decide +kernel)
theorem kw_43 : Cond.fieldLink "SpellPitch$Score" 27 "SpellPitch$Score" "toldKeys" "[I" ∈ aW := aW_T 43 (by decide +kernel) (by decide +kernel)
theorem kw_44 : Cond.fieldLink "SpellPitch" 52 "SpellPitch$Score" "toldKeys" "[I" ∈ aW := aW_T 44 (by decide +kernel) (by decide +kernel)
theorem kw_45 : Cond.fieldLink "SpellPitch$Score" 30 "SpellPitch$Score" "optionNames" "[I" ∈ aW := aW_T 45 (by decide +kernel) (by decide +kernel)
theorem kw_46 : Cond.fieldLink "SpellPitch$Search" 155 "SpellPitch$Score" "optionNames" "[I" ∈ aW := aW_T 46 (by decide +kernel) (by decide +kernel)
theorem kw_47 : Cond.fieldLink "SpellPitch$Score" 33 "SpellPitch$Score" "optionPlaces" "[I" ∈ aW := aW_T 47 (by decide +kernel) (by decide +kernel)
theorem kw_48 : Cond.fieldLink "SpellPitch$Search" 139 "SpellPitch$Score" "optionPlaces" "[I" ∈ aW := aW_T 48 (by decide +kernel) (by decide +kernel)
theorem kw_49 : Cond.fieldLink "SpellPitch$Score" 36 "SpellPitch$Score" "sounds" "I" ∈ aW := aW_T 49 (by decide +kernel) (by decide +kernel)
theorem kw_50 : Cond.fieldLink "SpellPitch" 36 "SpellPitch$Score" "sounds" "I" ∈ aW := aW_T 50 (by decide +kernel) (by decide +kernel)
theorem kw_51 : Cond.fieldLink "SpellPitch$Score" 40 "SpellPitch$Score" "moments" "I" ∈ aW := aW_T 51 (by decide +kernel) (by decide +kernel)
theorem kw_52 : Cond.fieldLink "SpellPitch$Search" 75 "SpellPitch$Score" "moments" "I" ∈ aW := aW_T 52 (by decide +kernel) (by decide +kernel)
theorem kw_53 : Cond.fieldLink "SpellPitch" 121 "SpellPitch$Score" "moments" "I" ∈ aW := aW_T 53 (by decide +kernel) (by decide +kernel)
theorem kw_75 : Cond.arrayClass .int ∈ aW := aW_T 75 (by decide +kernel) (by decide +kernel)
theorem kw_76 : Cond.classLink "SpellPitch$Search" 35 "SpellPitch$Weights" ∈ aW := aW_T 76 (by decide +kernel) (by decide +kernel)
theorem kw_77 : Cond.instantiable "SpellPitch$Weights" 5 ∈ aW := aW_T 77 (by decide +kernel) (by decide +kernel)
theorem kw_79 : Cond.instanceMethod y_G_init ∈ aW := aW_T 79 (by decide +kernel) (by decide +kernel)
theorem kw_80 : Cond.code y_G_init prog_4_method_1_code 1 (Option.none : Option Jvm.ClassFile.FieldType) ∈ aW := aW_T 80 (by decide +kernel) (by decide +kernel)
theorem kw_81 : Cond.methodLink "SpellPitch$Weights" 1 ⟨"java/lang/Object", "<init>", "()V"⟩ ∈ aW := aW_T 81 (by decide +kernel) (by decide +kernel)
theorem kw_82 : Cond.fieldLink "SpellPitch$Weights" 7 "SpellPitch$Weights" "out" "I" ∈ aW := aW_T 82 (by decide +kernel) (by decide +kernel)
theorem kw_83 : Cond.fieldLink "SpellPitch" 71 "SpellPitch$Weights" "out" "I" ∈ aW := aW_T 83 (by decide +kernel) (by decide +kernel)
theorem kw_84 : Cond.fieldLink "SpellPitch$Search" 177 "SpellPitch$Weights" "out" "I" ∈ aW := aW_T 84 (by decide +kernel) (by decide +kernel)
theorem kw_85 : Cond.fieldLink "SpellPitch$Weights" 13 "SpellPitch$Weights" "twice" "I" ∈ aW := aW_T 85 (by decide +kernel) (by decide +kernel)
theorem kw_86 : Cond.fieldLink "SpellPitch" 76 "SpellPitch$Weights" "twice" "I" ∈ aW := aW_T 86 (by decide +kernel) (by decide +kernel)
theorem kw_87 : Cond.fieldLink "SpellPitch$Search" 168 "SpellPitch$Weights" "twice" "I" ∈ aW := aW_T 87 (by decide +kernel) (by decide +kernel)
theorem kw_88 : Cond.fieldLink "SpellPitch$Weights" 16 "SpellPitch$Weights" "wide" "I" ∈ aW := aW_T 88 (by decide +kernel) (by decide +kernel)
theorem kw_89 : Cond.fieldLink "SpellPitch" 79 "SpellPitch$Weights" "wide" "I" ∈ aW := aW_T 89 (by decide +kernel) (by decide +kernel)
theorem kw_90 : Cond.fieldLink "SpellPitch$Search" 171 "SpellPitch$Weights" "wide" "I" ∈ aW := aW_T 90 (by decide +kernel) (by decide +kernel)
theorem kw_91 : Cond.fieldLink "SpellPitch$Weights" 19 "SpellPitch$Weights" "step" "I" ∈ aW := aW_T 91 (by decide +kernel) (by decide +kernel)
theorem kw_92 : Cond.fieldLink "SpellPitch" 82 "SpellPitch$Weights" "step" "I" ∈ aW := aW_T 92 (by decide +kernel) (by decide +kernel)
theorem kw_93 : Cond.fieldLink "SpellPitch$Search" 133 "SpellPitch$Weights" "step" "I" ∈ aW := aW_T 93 (by decide +kernel) (by decide +kernel)
theorem kw_94 : Cond.fieldLink "SpellPitch$Weights" 22 "SpellPitch$Weights" "change" "I" ∈ aW := aW_T 94 (by decide +kernel) (by decide +kernel)
theorem kw_95 : Cond.fieldLink "SpellPitch$Search" 119 "SpellPitch$Weights" "change" "I" ∈ aW := aW_T 95 (by decide +kernel) (by decide +kernel)
theorem kw_96 : Cond.fieldLink "SpellPitch" 85 "SpellPitch$Weights" "change" "I" ∈ aW := aW_T 96 (by decide +kernel) (by decide +kernel)
theorem kw_108 : Cond.fieldLink "SpellPitch$Search" 9 "SpellPitch$Search" "names" "[I" ∈ aW := aW_T 108 (by decide +kernel) (by decide +kernel)
theorem kw_109 : Cond.fieldLink "SpellPitch" 104 "SpellPitch$Search" "names" "[I" ∈ aW := aW_T 109 (by decide +kernel) (by decide +kernel)
theorem kw_110 : Cond.fieldLink "SpellPitch$Search" 15 "SpellPitch$Search" "keys" "[I" ∈ aW := aW_T 110 (by decide +kernel) (by decide +kernel)
theorem kw_111 : Cond.fieldLink "SpellPitch" 118 "SpellPitch$Search" "keys" "[I" ∈ aW := aW_T 111 (by decide +kernel) (by decide +kernel)
theorem kw_112 : Cond.fieldLink "SpellPitch$Search" 18 "SpellPitch$Search" "cost" "I" ∈ aW := aW_T 112 (by decide +kernel) (by decide +kernel)
theorem kw_113 : Cond.fieldLink "SpellPitch" 95 "SpellPitch$Search" "cost" "I" ∈ aW := aW_T 113 (by decide +kernel) (by decide +kernel)
theorem kw_114 : Cond.fieldLink "SpellPitch$Search" 22 "SpellPitch$Search" "signCount" "I" ∈ aW := aW_T 114 (by decide +kernel) (by decide +kernel)
theorem kw_115 : Cond.fieldLink "SpellPitch" 98 "SpellPitch$Search" "signCount" "I" ∈ aW := aW_T 115 (by decide +kernel) (by decide +kernel)
theorem kw_116 : Cond.fieldLink "SpellPitch$Search" 25 "SpellPitch$Search" "choices" "I" ∈ aW := aW_T 116 (by decide +kernel) (by decide +kernel)
theorem kw_117 : Cond.fieldLink "SpellPitch" 101 "SpellPitch$Search" "choices" "I" ∈ aW := aW_T 117 (by decide +kernel) (by decide +kernel)
theorem kw_118 : Cond.fieldLink "SpellPitch" 16 "SpellPitch$Search" "score" "LSpellPitch$Score;" ∈ aW := aW_T 118 (by decide +kernel) (by decide +kernel)
theorem kw_119 : Cond.fieldLink "SpellPitch$Search" 31 "SpellPitch$Search" "score" "LSpellPitch$Score;" ∈ aW := aW_T 119 (by decide +kernel) (by decide +kernel)
theorem kw_120 : Cond.fieldLink "SpellPitch" 21 "SpellPitch$Search" "weights" "LSpellPitch$Weights;" ∈ aW := aW_T 120 (by decide +kernel) (by decide +kernel)
theorem kw_121 : Cond.fieldLink "SpellPitch$Search" 38 "SpellPitch$Search" "weights" "LSpellPitch$Weights;" ∈ aW := aW_T 121 (by decide +kernel) (by decide +kernel)
theorem kw_122 : Cond.fieldLink "SpellPitch$Search" 42 "SpellPitch$Search" "values" "[I" ∈ aW := aW_T 122 (by decide +kernel) (by decide +kernel)
theorem kw_123 : Cond.fieldLink "SpellPitch$Search" 45 "SpellPitch$Search" "firstState" "[I" ∈ aW := aW_T 123 (by decide +kernel) (by decide +kernel)
theorem kw_124 : Cond.fieldLink "SpellPitch$Search" 48 "SpellPitch$Search" "ways" "[I" ∈ aW := aW_T 124 (by decide +kernel) (by decide +kernel)
theorem kw_125 : Cond.fieldLink "SpellPitch$Search" 51 "SpellPitch$Search" "ahead" "[I" ∈ aW := aW_T 125 (by decide +kernel) (by decide +kernel)
theorem kw_126 : Cond.fieldLink "SpellPitch$Search" 54 "SpellPitch$Search" "waysAhead" "[I" ∈ aW := aW_T 126 (by decide +kernel) (by decide +kernel)
theorem kw_127 : Cond.fieldLink "SpellPitch$Search" 57 "SpellPitch$Search" "line" "[I" ∈ aW := aW_T 127 (by decide +kernel) (by decide +kernel)
theorem kw_128 : Cond.fieldLink "SpellPitch$Search" 60 "SpellPitch$Search" "lineWays" "[I" ∈ aW := aW_T 128 (by decide +kernel) (by decide +kernel)
theorem kw_129 : Cond.fieldLink "SpellPitch$Search" 63 "SpellPitch$Search" "keyLinks" "[I" ∈ aW := aW_T 129 (by decide +kernel) (by decide +kernel)
theorem kw_130 : Cond.fieldLink "SpellPitch$Search" 66 "SpellPitch$Search" "stepLinks" "[I" ∈ aW := aW_T 130 (by decide +kernel) (by decide +kernel)
theorem kw_131 : Cond.fieldLink "SpellPitch$Search" 69 "SpellPitch$Search" "tried" "[I" ∈ aW := aW_T 131 (by decide +kernel) (by decide +kernel)
theorem kw_132 : Cond.fieldLink "SpellPitch$Search" 72 "SpellPitch$Search" "picksAhead" "I" ∈ aW := aW_T 132 (by decide +kernel) (by decide +kernel)
theorem kw_170 : Cond.fieldLink "SpellPitch" 20 "SpellPitch" "score" "LSpellPitch$Score;" ∈ aW := aW_T 170 (by decide +kernel) (by decide +kernel)
theorem kw_171 : Cond.fieldLink "SpellPitch" 25 "SpellPitch" "weights" "LSpellPitch$Weights;" ∈ aW := aW_T 171 (by decide +kernel) (by decide +kernel)
theorem kw_172 : Cond.fieldLink "SpellPitch" 12 "SpellPitch" "search" "LSpellPitch$Search;" ∈ aW := aW_T 172 (by decide +kernel) (by decide +kernel)
theorem kw_173 : Cond.fieldLink "SpellPitch" 26 "SpellPitch" "searched" "Z" ∈ aW := aW_T 173 (by decide +kernel) (by decide +kernel)
theorem kw_187 : Cond.methodLink "SpellPitch" 30 y_S_canJoin ∈ aW := aW_T 187 (by decide +kernel) (by decide +kernel)
theorem kw_188 : Cond.instanceMethod y_S_canJoin ∈ aW := aW_T 188 (by decide +kernel) (by decide +kernel)
theorem kw_189 : Cond.selects "SpellPitch$Score" y_S_canJoin y_S_canJoin ∈ aW := aW_T 189 (by decide +kernel) (by decide +kernel)
theorem kw_190 : Cond.code y_S_canJoin prog_2_method_3_code 1 (Option.some Jvm.ClassFile.FieldType.boolean) ∈ aW := aW_T 190 (by decide +kernel) (by decide +kernel)
theorem kw_191 : Cond.methodLink "SpellPitch" 40 y_S_put ∈ aW := aW_T 191 (by decide +kernel) (by decide +kernel)
theorem kw_192 : Cond.instanceMethod y_S_put ∈ aW := aW_T 192 (by decide +kernel) (by decide +kernel)
theorem kw_193 : Cond.selects "SpellPitch$Score" y_S_put y_S_put ∈ aW := aW_T 193 (by decide +kernel) (by decide +kernel)
theorem kw_194 : Cond.code y_S_put prog_2_method_4_code 4 (Option.some Jvm.ClassFile.FieldType.int) ∈ aW := aW_T 194 (by decide +kernel) (by decide +kernel)
theorem kw_195 : Cond.methodLink "SpellPitch$Score" 43 y_S_listOptions ∈ aW := aW_T 195 (by decide +kernel) (by decide +kernel)
theorem kw_197 : Cond.instanceMethod y_S_listOptions ∈ aW := aW_T 197 (by decide +kernel) (by decide +kernel)
theorem kw_198 : Cond.code y_S_listOptions prog_2_method_5_code 5 (Option.none : Option Jvm.ClassFile.FieldType) ∈ aW := aW_T 198 (by decide +kernel) (by decide +kernel)
theorem kw_199 : Cond.methodLink "SpellPitch$Score" 47 y_J_floorMod ∈ aW := aW_T 199 (by decide +kernel) (by decide +kernel)
theorem kw_200 : Cond.static y_J_floorMod ∈ aW := aW_T 200 (by decide +kernel) (by decide +kernel)
theorem kw_201 : Cond.code y_J_floorMod prog_9_method_50_code 3 (Option.some Jvm.ClassFile.FieldType.int) ∈ aW := aW_T 201 (by decide +kernel) (by decide +kernel)
theorem kw_203 : Cond.static y_X_placeOf ∈ aW := aW_T 203 (by decide +kernel) (by decide +kernel)
theorem kw_204 : Cond.code y_X_placeOf prog_1_method_31_code 2 (Option.some Jvm.ClassFile.FieldType.int) ∈ aW := aW_T 204 (by decide +kernel) (by decide +kernel)
theorem kw_205 : Cond.methodLink "SpellPitch" 114 y_X_octaveOf ∈ aW := aW_T 205 (by decide +kernel) (by decide +kernel)
theorem kw_206 : Cond.static y_X_octaveOf ∈ aW := aW_T 206 (by decide +kernel) (by decide +kernel)
theorem kw_207 : Cond.code y_X_octaveOf prog_1_method_30_code 2 (Option.some Jvm.ClassFile.FieldType.int) ∈ aW := aW_T 207 (by decide +kernel) (by decide +kernel)
theorem kw_208 : Cond.methodLink "SpellPitch" 111 y_X_signsOf ∈ aW := aW_T 208 (by decide +kernel) (by decide +kernel)
theorem kw_209 : Cond.static y_X_signsOf ∈ aW := aW_T 209 (by decide +kernel) (by decide +kernel)
theorem kw_210 : Cond.code y_X_signsOf prog_1_method_29_code 1 (Option.some Jvm.ClassFile.FieldType.int) ∈ aW := aW_T 210 (by decide +kernel) (by decide +kernel)
theorem kw_211 : Cond.methodLink "SpellPitch" 133 y_J_floorDiv ∈ aW := aW_T 211 (by decide +kernel) (by decide +kernel)
theorem kw_212 : Cond.static y_J_floorDiv ∈ aW := aW_T 212 (by decide +kernel) (by decide +kernel)
theorem kw_213 : Cond.code y_J_floorDiv prog_9_method_47_code 3 (Option.some Jvm.ClassFile.FieldType.int) ∈ aW := aW_T 213 (by decide +kernel) (by decide +kernel)
theorem kw_214 : Cond.methodLink "SpellPitch" 107 y_X_letterOf ∈ aW := aW_T 214 (by decide +kernel) (by decide +kernel)
theorem kw_215 : Cond.static y_X_letterOf ∈ aW := aW_T 215 (by decide +kernel) (by decide +kernel)
theorem kw_216 : Cond.code y_X_letterOf prog_1_method_28_code 1 (Option.some Jvm.ClassFile.FieldType.int) ∈ aW := aW_T 216 (by decide +kernel) (by decide +kernel)
theorem kw_217 : Cond.methodLink "SpellPitch" 154 y_J_floorMod ∈ aW := aW_T 217 (by decide +kernel) (by decide +kernel)
theorem kw_222 : Cond.methodLink "SpellPitch" 44 y_S_has ∈ aW := aW_T 222 (by decide +kernel) (by decide +kernel)
theorem kw_223 : Cond.instanceMethod y_S_has ∈ aW := aW_T 223 (by decide +kernel) (by decide +kernel)
theorem kw_224 : Cond.selects "SpellPitch$Score" y_S_has y_S_has ∈ aW := aW_T 224 (by decide +kernel) (by decide +kernel)
theorem kw_225 : Cond.code y_S_has prog_2_method_2_code 2 (Option.some Jvm.ClassFile.FieldType.boolean) ∈ aW := aW_T 225 (by decide +kernel) (by decide +kernel)
theorem kw_230 : Cond.methodLink "SpellPitch" 55 y_X_isName ∈ aW := aW_T 230 (by decide +kernel) (by decide +kernel)
theorem kw_231 : Cond.static y_X_isName ∈ aW := aW_T 231 (by decide +kernel) (by decide +kernel)
theorem kw_232 : Cond.code y_X_isName prog_1_method_23_code 1 (Option.some Jvm.ClassFile.FieldType.boolean) ∈ aW := aW_T 232 (by decide +kernel) (by decide +kernel)
theorem kw_233 : Cond.methodLink "SpellPitch" 61 y_X_soundsAs ∈ aW := aW_T 233 (by decide +kernel) (by decide +kernel)
theorem kw_234 : Cond.static y_X_soundsAs ∈ aW := aW_T 234 (by decide +kernel) (by decide +kernel)
theorem kw_235 : Cond.code y_X_soundsAs prog_1_method_27_code 2 (Option.some Jvm.ClassFile.FieldType.boolean) ∈ aW := aW_T 235 (by decide +kernel) (by decide +kernel)
theorem kw_240 : Cond.methodLink "SpellPitch" 68 y_X_isWeight ∈ aW := aW_T 240 (by decide +kernel) (by decide +kernel)
theorem kw_241 : Cond.static y_X_isWeight ∈ aW := aW_T 241 (by decide +kernel) (by decide +kernel)
theorem kw_242 : Cond.code y_X_isWeight prog_1_method_25_code 1 (Option.some Jvm.ClassFile.FieldType.boolean) ∈ aW := aW_T 242 (by decide +kernel) (by decide +kernel)
theorem kw_247 : Cond.methodLink "SpellPitch" 88 y_S_empty ∈ aW := aW_T 247 (by decide +kernel) (by decide +kernel)
theorem kw_248 : Cond.instanceMethod y_S_empty ∈ aW := aW_T 248 (by decide +kernel) (by decide +kernel)
theorem kw_249 : Cond.selects "SpellPitch$Score" y_S_empty y_S_empty ∈ aW := aW_T 249 (by decide +kernel) (by decide +kernel)
theorem kw_250 : Cond.code y_S_empty prog_2_method_6_code 1 (Option.none : Option Jvm.ClassFile.FieldType) ∈ aW := aW_T 250 (by decide +kernel) (by decide +kernel)
theorem kw_255 : Cond.methodLink "SpellPitch" 91 y_X_meant ∈ aW := aW_T 255 (by decide +kernel) (by decide +kernel)
theorem kw_257 : Cond.instanceMethod y_X_meant ∈ aW := aW_T 257 (by decide +kernel) (by decide +kernel)
theorem kw_258 : Cond.code y_X_meant prog_1_method_22_code 1 (Option.some (Jvm.ClassFile.FieldType.object "SpellPitch$Search")) ∈ aW := aW_T 258 (by decide +kernel) (by decide +kernel)
theorem kw_259 : Cond.methodLink "SpellPitch" 157 y_R_run ∈ aW := aW_T 259 (by decide +kernel) (by decide +kernel)
theorem kw_260 : Cond.instanceMethod y_R_run ∈ aW := aW_T 260 (by decide +kernel) (by decide +kernel)
theorem kw_261 : Cond.selects "SpellPitch$Search" y_R_run y_R_run ∈ aW := aW_T 261 (by decide +kernel) (by decide +kernel)
theorem kw_262 : Cond.code y_R_run prog_3_method_2_code 2 (Option.none : Option Jvm.ClassFile.FieldType) ∈ aW := aW_T 262 (by decide +kernel) (by decide +kernel)
theorem kw_263 : Cond.methodLink "SpellPitch$Search" 78 y_R_layOutStates ∈ aW := aW_T 263 (by decide +kernel) (by decide +kernel)
theorem kw_265 : Cond.instanceMethod y_R_layOutStates ∈ aW := aW_T 265 (by decide +kernel) (by decide +kernel)
theorem kw_266 : Cond.code y_R_layOutStates prog_3_method_4_code 3 (Option.none : Option Jvm.ClassFile.FieldType) ∈ aW := aW_T 266 (by decide +kernel) (by decide +kernel)
theorem kw_267 : Cond.methodLink "SpellPitch$Search" 106 y_R_picksAt ∈ aW := aW_T 267 (by decide +kernel) (by decide +kernel)
theorem kw_269 : Cond.instanceMethod y_R_picksAt ∈ aW := aW_T 269 (by decide +kernel) (by decide +kernel)
theorem kw_270 : Cond.code y_R_picksAt prog_3_method_3_code 2 (Option.some Jvm.ClassFile.FieldType.int) ∈ aW := aW_T 270 (by decide +kernel) (by decide +kernel)
theorem kw_271 : Cond.fieldLink "SpellPitch$Search" 100 "SpellPitch$Search" "PICKS" "[I" ∈ aW := aW_T 271 (by decide +kernel) (by decide +kernel)
theorem kw_273 : Cond.methodLink "SpellPitch$Search" 81 y_R_linkKeys ∈ aW := aW_T 273 (by decide +kernel) (by decide +kernel)
theorem kw_275 : Cond.instanceMethod y_R_linkKeys ∈ aW := aW_T 275 (by decide +kernel) (by decide +kernel)
theorem kw_276 : Cond.code y_R_linkKeys prog_3_method_5_code 4 (Option.none : Option Jvm.ClassFile.FieldType) ∈ aW := aW_T 276 (by decide +kernel) (by decide +kernel)
theorem kw_278 : Cond.static y_X_isTurn ∈ aW := aW_T 278 (by decide +kernel) (by decide +kernel)
theorem kw_279 : Cond.code y_X_isTurn prog_1_method_26_code 2 (Option.some Jvm.ClassFile.FieldType.boolean) ∈ aW := aW_T 279 (by decide +kernel) (by decide +kernel)
theorem kw_280 : Cond.methodLink "SpellPitch" 160 y_J_abs ∈ aW := aW_T 280 (by decide +kernel) (by decide +kernel)
theorem kw_281 : Cond.static y_J_abs ∈ aW := aW_T 281 (by decide +kernel) (by decide +kernel)
theorem kw_282 : Cond.code y_J_abs prog_9_method_59_code 1 (Option.some Jvm.ClassFile.FieldType.int) ∈ aW := aW_T 282 (by decide +kernel) (by decide +kernel)
theorem kw_283 : Cond.methodLink "SpellPitch$Search" 114 y_J_abs ∈ aW := aW_T 283 (by decide +kernel) (by decide +kernel)
theorem kw_284 : Cond.methodLink "SpellPitch$Search" 84 y_R_lookAtTheEnd ∈ aW := aW_T 284 (by decide +kernel) (by decide +kernel)
theorem kw_286 : Cond.instanceMethod y_R_lookAtTheEnd ∈ aW := aW_T 286 (by decide +kernel) (by decide +kernel)
theorem kw_287 : Cond.code y_R_lookAtTheEnd prog_3_method_8_code 2 (Option.none : Option Jvm.ClassFile.FieldType) ∈ aW := aW_T 287 (by decide +kernel) (by decide +kernel)
theorem kw_288 : Cond.methodLink "SpellPitch$Search" 87 y_R_weigh ∈ aW := aW_T 288 (by decide +kernel) (by decide +kernel)
theorem kw_290 : Cond.instanceMethod y_R_weigh ∈ aW := aW_T 290 (by decide +kernel) (by decide +kernel)
theorem kw_291 : Cond.code y_R_weigh prog_3_method_9_code 11 (Option.none : Option Jvm.ClassFile.FieldType) ∈ aW := aW_T 291 (by decide +kernel) (by decide +kernel)
theorem kw_292 : Cond.methodLink "SpellPitch$Search" 142 y_R_tryNames ∈ aW := aW_T 292 (by decide +kernel) (by decide +kernel)
theorem kw_294 : Cond.instanceMethod y_R_tryNames ∈ aW := aW_T 294 (by decide +kernel) (by decide +kernel)
theorem kw_295 : Cond.code y_R_tryNames prog_3_method_10_code 7 (Option.some Jvm.ClassFile.FieldType.boolean) ∈ aW := aW_T 295 (by decide +kernel) (by decide +kernel)
theorem kw_296 : Cond.methodLink "SpellPitch$Search" 158 y_R_digit ∈ aW := aW_T 296 (by decide +kernel) (by decide +kernel)
theorem kw_297 : Cond.static y_R_digit ∈ aW := aW_T 297 (by decide +kernel) (by decide +kernel)
theorem kw_298 : Cond.code y_R_digit prog_3_method_11_code 3 (Option.some Jvm.ClassFile.FieldType.int) ∈ aW := aW_T 298 (by decide +kernel) (by decide +kernel)
theorem kw_299 : Cond.methodLink "SpellPitch$Search" 162 y_S_allowsName ∈ aW := aW_T 299 (by decide +kernel) (by decide +kernel)
theorem kw_300 : Cond.instanceMethod y_S_allowsName ∈ aW := aW_T 300 (by decide +kernel) (by decide +kernel)
theorem kw_301 : Cond.selects "SpellPitch$Score" y_S_allowsName y_S_allowsName ∈ aW := aW_T 301 (by decide +kernel) (by decide +kernel)
theorem kw_302 : Cond.code y_S_allowsName prog_2_method_7_code 3 (Option.some Jvm.ClassFile.FieldType.boolean) ∈ aW := aW_T 302 (by decide +kernel) (by decide +kernel)
theorem kw_304 : Cond.methodLink "SpellPitch$Search" 145 y_R_valueOfTried ∈ aW := aW_T 304 (by decide +kernel) (by decide +kernel)
theorem kw_306 : Cond.instanceMethod y_R_valueOfTried ∈ aW := aW_T 306 (by decide +kernel) (by decide +kernel)
theorem kw_307 : Cond.code y_R_valueOfTried prog_3_method_12_code 9 (Option.some Jvm.ClassFile.FieldType.int) ∈ aW := aW_T 307 (by decide +kernel) (by decide +kernel)
theorem kw_309 : Cond.methodLink "SpellPitch$Search" 174 y_J_max ∈ aW := aW_T 309 (by decide +kernel) (by decide +kernel)
theorem kw_310 : Cond.static y_J_max ∈ aW := aW_T 310 (by decide +kernel) (by decide +kernel)
theorem kw_311 : Cond.code y_J_max prog_9_method_65_code 2 (Option.some Jvm.ClassFile.FieldType.int) ∈ aW := aW_T 311 (by decide +kernel) (by decide +kernel)
theorem kw_312 : Jvm.Cond.constant "SpellPitch$Search" 148 268435456 ∈ aW := aW_T 312 (by decide +kernel) (by decide +kernel)
theorem kw_313 : Cond.methodLink "SpellPitch$Search" 149 y_S_allowsKey ∈ aW := aW_T 313 (by decide +kernel) (by decide +kernel)
theorem kw_314 : Cond.instanceMethod y_S_allowsKey ∈ aW := aW_T 314 (by decide +kernel) (by decide +kernel)
theorem kw_315 : Cond.selects "SpellPitch$Score" y_S_allowsKey y_S_allowsKey ∈ aW := aW_T 315 (by decide +kernel) (by decide +kernel)
theorem kw_316 : Cond.code y_S_allowsKey prog_2_method_8_code 3 (Option.some Jvm.ClassFile.FieldType.boolean) ∈ aW := aW_T 316 (by decide +kernel) (by decide +kernel)
theorem kw_317 : Cond.methodLink "SpellPitch$Search" 152 y_R_valueOutside ∈ aW := aW_T 317 (by decide +kernel) (by decide +kernel)
theorem kw_319 : Cond.instanceMethod y_R_valueOutside ∈ aW := aW_T 319 (by decide +kernel) (by decide +kernel)
theorem kw_320 : Cond.code y_R_valueOutside prog_3_method_13_code 7 (Option.some Jvm.ClassFile.FieldType.int) ∈ aW := aW_T 320 (by decide +kernel) (by decide +kernel)
theorem kw_321 : Cond.methodLink "SpellPitch$Search" 91 y_R_lookAheadFrom ∈ aW := aW_T 321 (by decide +kernel) (by decide +kernel)
theorem kw_323 : Cond.instanceMethod y_R_lookAheadFrom ∈ aW := aW_T 323 (by decide +kernel) (by decide +kernel)
theorem kw_324 : Cond.code y_R_lookAheadFrom prog_3_method_14_code 6 (Option.none : Option Jvm.ClassFile.FieldType) ∈ aW := aW_T 324 (by decide +kernel) (by decide +kernel)
theorem kw_325 : Cond.methodLink "SpellPitch$Search" 180 ⟨"java/lang/System", "arraycopy", "(Ljava/lang/Object;ILjava/lang/Object;II)V"⟩ ∈ aW := aW_T 325 (by decide +kernel) (by decide +kernel)
theorem kw_326 : Cond.static ⟨"java/lang/System", "arraycopy", "(Ljava/lang/Object;ILjava/lang/Object;II)V"⟩ ∈ aW := aW_T 326 (by decide +kernel) (by decide +kernel)
theorem kw_328 : Cond.methodLink "SpellPitch$Search" 186 y_R_foldLines ∈ aW := aW_T 328 (by decide +kernel) (by decide +kernel)
theorem kw_330 : Cond.instanceMethod y_R_foldLines ∈ aW := aW_T 330 (by decide +kernel) (by decide +kernel)
theorem kw_331 : Cond.code y_R_foldLines prog_3_method_15_code 10 (Option.none : Option Jvm.ClassFile.FieldType) ∈ aW := aW_T 331 (by decide +kernel) (by decide +kernel)
theorem kw_332 : Cond.methodLink "SpellPitch$Search" 193 y_R_foldOne ∈ aW := aW_T 332 (by decide +kernel) (by decide +kernel)
theorem kw_334 : Cond.instanceMethod y_R_foldOne ∈ aW := aW_T 334 (by decide +kernel) (by decide +kernel)
theorem kw_335 : Cond.code y_R_foldOne prog_3_method_16_code 9 (Option.none : Option Jvm.ClassFile.FieldType) ∈ aW := aW_T 335 (by decide +kernel) (by decide +kernel)
theorem kw_336 : Jvm.Cond.constant "SpellPitch$Search" 197 1000000 ∈ aW := aW_T 336 (by decide +kernel) (by decide +kernel)
theorem kw_337 : Cond.methodLink "SpellPitch$Search" 125 y_J_min ∈ aW := aW_T 337 (by decide +kernel) (by decide +kernel)
theorem kw_338 : Cond.static y_J_min ∈ aW := aW_T 338 (by decide +kernel) (by decide +kernel)
theorem kw_339 : Cond.code y_J_min prog_9_method_69_code 2 (Option.some Jvm.ClassFile.FieldType.int) ∈ aW := aW_T 339 (by decide +kernel) (by decide +kernel)
theorem kw_340 : Cond.methodLink "SpellPitch$Search" 190 y_R_linkSteps ∈ aW := aW_T 340 (by decide +kernel) (by decide +kernel)
theorem kw_342 : Cond.instanceMethod y_R_linkSteps ∈ aW := aW_T 342 (by decide +kernel) (by decide +kernel)
theorem kw_343 : Cond.code y_R_linkSteps prog_3_method_6_code 8 (Option.none : Option Jvm.ClassFile.FieldType) ∈ aW := aW_T 343 (by decide +kernel) (by decide +kernel)
theorem kw_344 : Cond.methodLink "SpellPitch$Search" 129 y_R_isBadStep ∈ aW := aW_T 344 (by decide +kernel) (by decide +kernel)
theorem kw_346 : Cond.instanceMethod y_R_isBadStep ∈ aW := aW_T 346 (by decide +kernel) (by decide +kernel)
theorem kw_347 : Cond.code y_R_isBadStep prog_3_method_7_code 8 (Option.some Jvm.ClassFile.FieldType.boolean) ∈ aW := aW_T 347 (by decide +kernel) (by decide +kernel)
theorem kw_348 : Cond.methodLink "SpellPitch$Search" 94 y_R_countChoices ∈ aW := aW_T 348 (by decide +kernel) (by decide +kernel)
theorem kw_350 : Cond.instanceMethod y_R_countChoices ∈ aW := aW_T 350 (by decide +kernel) (by decide +kernel)
theorem kw_351 : Cond.code y_R_countChoices prog_3_method_17_code 4 (Option.none : Option Jvm.ClassFile.FieldType) ∈ aW := aW_T 351 (by decide +kernel) (by decide +kernel)
theorem kw_352 : Cond.methodLink "SpellPitch$Search" 97 y_R_readOff ∈ aW := aW_T 352 (by decide +kernel) (by decide +kernel)
theorem kw_354 : Cond.instanceMethod y_R_readOff ∈ aW := aW_T 354 (by decide +kernel) (by decide +kernel)
theorem kw_355 : Cond.code y_R_readOff prog_3_method_18_code 3 (Option.none : Option Jvm.ClassFile.FieldType) ∈ aW := aW_T 355 (by decide +kernel) (by decide +kernel)
theorem kw_356 : Cond.methodLink "SpellPitch$Search" 198 y_R_firstOfBest ∈ aW := aW_T 356 (by decide +kernel) (by decide +kernel)
theorem kw_358 : Cond.instanceMethod y_R_firstOfBest ∈ aW := aW_T 358 (by decide +kernel) (by decide +kernel)
theorem kw_359 : Cond.code y_R_firstOfBest prog_3_method_19_code 8 (Option.some Jvm.ClassFile.FieldType.int) ∈ aW := aW_T 359 (by decide +kernel) (by decide +kernel)
theorem kw_360 : Cond.methodLink "SpellPitch$Search" 205 y_R_valueBetween ∈ aW := aW_T 360 (by decide +kernel) (by decide +kernel)
theorem kw_362 : Cond.instanceMethod y_R_valueBetween ∈ aW := aW_T 362 (by decide +kernel) (by decide +kernel)
theorem kw_363 : Cond.code y_R_valueBetween prog_3_method_20_code 11 (Option.some Jvm.ClassFile.FieldType.int) ∈ aW := aW_T 363 (by decide +kernel) (by decide +kernel)
theorem kw_364 : Cond.methodLink "SpellPitch$Search" 201 y_R_keep ∈ aW := aW_T 364 (by decide +kernel) (by decide +kernel)
theorem kw_366 : Cond.instanceMethod y_R_keep ∈ aW := aW_T 366 (by decide +kernel) (by decide +kernel)
theorem kw_367 : Cond.code y_R_keep prog_3_method_21_code 7 (Option.none : Option Jvm.ClassFile.FieldType) ∈ aW := aW_T 367 (by decide +kernel) (by decide +kernel)
theorem kw_388 : Cond.methodLink "SpellPitch" 124 y_X_isTurn ∈ aW := aW_T 388 (by decide +kernel) (by decide +kernel)
theorem kw_397 : Cond.methodLink "SpellPitch" 127 y_X_placeOf ∈ aW := aW_T 397 (by decide +kernel) (by decide +kernel)
theorem kw_398 : Cond.methodLink "SpellPitch" 130 y_X_stepsOf ∈ aW := aW_T 398 (by decide +kernel) (by decide +kernel)
theorem kw_399 : Cond.static y_X_stepsOf ∈ aW := aW_T 399 (by decide +kernel) (by decide +kernel)
theorem kw_400 : Cond.code y_X_stepsOf prog_1_method_32_code 1 (Option.some Jvm.ClassFile.FieldType.int) ∈ aW := aW_T 400 (by decide +kernel) (by decide +kernel)
theorem kw_405 : Cond.methodLink "SpellPitch" 138 y_X_isInterval ∈ aW := aW_T 405 (by decide +kernel) (by decide +kernel)
theorem kw_406 : Cond.static y_X_isInterval ∈ aW := aW_T 406 (by decide +kernel) (by decide +kernel)
theorem kw_407 : Cond.code y_X_isInterval prog_1_method_24_code 1 (Option.some Jvm.ClassFile.FieldType.boolean) ∈ aW := aW_T 407 (by decide +kernel) (by decide +kernel)
theorem kw_408 : Cond.methodLink "SpellPitch" 141 y_X_halvesOf ∈ aW := aW_T 408 (by decide +kernel) (by decide +kernel)
theorem kw_409 : Cond.static y_X_halvesOf ∈ aW := aW_T 409 (by decide +kernel) (by decide +kernel)
theorem kw_410 : Cond.code y_X_halvesOf prog_1_method_33_code 1 (Option.some Jvm.ClassFile.FieldType.int) ∈ aW := aW_T 410 (by decide +kernel) (by decide +kernel)
theorem kw_411 : Cond.methodLink "SpellPitch" 144 y_X_sortOf ∈ aW := aW_T 411 (by decide +kernel) (by decide +kernel)
theorem kw_412 : Cond.static y_X_sortOf ∈ aW := aW_T 412 (by decide +kernel) (by decide +kernel)
theorem kw_413 : Cond.code y_X_sortOf prog_1_method_34_code 3 (Option.some Jvm.ClassFile.FieldType.int) ∈ aW := aW_T 413 (by decide +kernel) (by decide +kernel)
theorem kw_513 : Cond.methodLink "SpellPitchModel" 1 ⟨"java/lang/Object", "<init>", "()V"⟩ ∈ aW := aW_T 513 (by decide +kernel) (by decide +kernel)
theorem kw_514 : Cond.fieldLink "SpellPitchModel" 86 "SpellPitchModel" "code" "I" ∈ aW := aW_T 514 (by decide +kernel) (by decide +kernel)
theorem kw_515 : Cond.fieldLink "SpellPitchModel" 89 "SpellPitchModel" "sounds" "I" ∈ aW := aW_T 515 (by decide +kernel) (by decide +kernel)
theorem kw_516 : Cond.fieldLink "SpellPitchModel" 92 "SpellPitchModel" "moments" "I" ∈ aW := aW_T 516 (by decide +kernel) (by decide +kernel)
theorem kw_517 : Cond.fieldLink "SpellPitchModel" 7 "SpellPitchModel" "pitches" "[I" ∈ aW := aW_T 517 (by decide +kernel) (by decide +kernel)
theorem kw_518 : Cond.fieldLink "SpellPitchModel" 13 "SpellPitchModel" "momentOf" "[I" ∈ aW := aW_T 518 (by decide +kernel) (by decide +kernel)
theorem kw_519 : Cond.fieldLink "SpellPitchModel" 16 "SpellPitchModel" "told" "[I" ∈ aW := aW_T 519 (by decide +kernel) (by decide +kernel)
theorem kw_520 : Cond.fieldLink "SpellPitchModel" 19 "SpellPitchModel" "firstOf" "[I" ∈ aW := aW_T 520 (by decide +kernel) (by decide +kernel)
theorem kw_521 : Cond.fieldLink "SpellPitchModel" 22 "SpellPitchModel" "sizeOf" "[I" ∈ aW := aW_T 521 (by decide +kernel) (by decide +kernel)
theorem kw_522 : Cond.fieldLink "SpellPitchModel" 25 "SpellPitchModel" "keyTold" "[I" ∈ aW := aW_T 522 (by decide +kernel) (by decide +kernel)
theorem kw_523 : Cond.fieldLink "SpellPitchModel" 28 "SpellPitchModel" "out" "I" ∈ aW := aW_T 523 (by decide +kernel) (by decide +kernel)
theorem kw_524 : Cond.fieldLink "SpellPitchModel" 32 "SpellPitchModel" "twice" "I" ∈ aW := aW_T 524 (by decide +kernel) (by decide +kernel)
theorem kw_525 : Cond.fieldLink "SpellPitchModel" 35 "SpellPitchModel" "wide" "I" ∈ aW := aW_T 525 (by decide +kernel) (by decide +kernel)
theorem kw_526 : Cond.fieldLink "SpellPitchModel" 38 "SpellPitchModel" "step" "I" ∈ aW := aW_T 526 (by decide +kernel) (by decide +kernel)
theorem kw_527 : Cond.fieldLink "SpellPitchModel" 41 "SpellPitchModel" "change" "I" ∈ aW := aW_T 527 (by decide +kernel) (by decide +kernel)
theorem kw_528 : Cond.fieldLink "SpellPitchModel" 128 "SpellPitchModel" "rowCost" "I" ∈ aW := aW_T 528 (by decide +kernel) (by decide +kernel)
theorem kw_529 : Cond.fieldLink "SpellPitchModel" 131 "SpellPitchModel" "rowSigns" "I" ∈ aW := aW_T 529 (by decide +kernel) (by decide +kernel)
theorem kw_530 : Cond.fieldLink "SpellPitchModel" 44 "SpellPitchModel" "names" "[I" ∈ aW := aW_T 530 (by decide +kernel) (by decide +kernel)
theorem kw_531 : Cond.fieldLink "SpellPitchModel" 47 "SpellPitchModel" "before" "[I" ∈ aW := aW_T 531 (by decide +kernel) (by decide +kernel)
theorem kw_532 : Cond.fieldLink "SpellPitchModel" 50 "SpellPitchModel" "steps" "[I" ∈ aW := aW_T 532 (by decide +kernel) (by decide +kernel)
theorem kw_533 : Cond.fieldLink "SpellPitchModel" 95 "SpellPitchModel" "known" "Z" ∈ aW := aW_T 533 (by decide +kernel) (by decide +kernel)
theorem kw_534 : Cond.fieldLink "SpellPitchModel" 53 "SpellPitchModel" "cost" "[I" ∈ aW := aW_T 534 (by decide +kernel) (by decide +kernel)
theorem kw_535 : Cond.fieldLink "SpellPitchModel" 56 "SpellPitchModel" "sign" "[I" ∈ aW := aW_T 535 (by decide +kernel) (by decide +kernel)
theorem kw_536 : Cond.fieldLink "SpellPitchModel" 59 "SpellPitchModel" "rank" "[I" ∈ aW := aW_T 536 (by decide +kernel) (by decide +kernel)
theorem kw_537 : Cond.fieldLink "SpellPitchModel" 62 "SpellPitchModel" "many" "[I" ∈ aW := aW_T 537 (by decide +kernel) (by decide +kernel)
theorem kw_538 : Cond.fieldLink "SpellPitchModel" 65 "SpellPitchModel" "nextCost" "[I" ∈ aW := aW_T 538 (by decide +kernel) (by decide +kernel)
theorem kw_539 : Cond.fieldLink "SpellPitchModel" 68 "SpellPitchModel" "nextSign" "[I" ∈ aW := aW_T 539 (by decide +kernel) (by decide +kernel)
theorem kw_540 : Cond.fieldLink "SpellPitchModel" 71 "SpellPitchModel" "nextCode" "[I" ∈ aW := aW_T 540 (by decide +kernel) (by decide +kernel)
theorem kw_541 : Cond.fieldLink "SpellPitchModel" 74 "SpellPitchModel" "nextMany" "[I" ∈ aW := aW_T 541 (by decide +kernel) (by decide +kernel)
theorem kw_542 : Cond.fieldLink "SpellPitchModel" 77 "SpellPitchModel" "from" "[I" ∈ aW := aW_T 542 (by decide +kernel) (by decide +kernel)
theorem kw_543 : Cond.fieldLink "SpellPitchModel" 80 "SpellPitchModel" "meantKey" "[I" ∈ aW := aW_T 543 (by decide +kernel) (by decide +kernel)
theorem kw_544 : Cond.fieldLink "SpellPitchModel" 83 "SpellPitchModel" "meant" "[I" ∈ aW := aW_T 544 (by decide +kernel) (by decide +kernel)
theorem kw_545 : Cond.fieldLink "SpellPitchModel" 166 "SpellPitchModel" "leastCost" "I" ∈ aW := aW_T 545 (by decide +kernel) (by decide +kernel)
theorem kw_546 : Cond.fieldLink "SpellPitchModel" 169 "SpellPitchModel" "leastSigns" "I" ∈ aW := aW_T 546 (by decide +kernel) (by decide +kernel)
theorem kw_547 : Cond.fieldLink "SpellPitchModel" 172 "SpellPitchModel" "leastMany" "I" ∈ aW := aW_T 547 (by decide +kernel) (by decide +kernel)
theorem kw_629 : Cond.methodLink "SpellPitchModel" 99 y_M_isSound ∈ aW := aW_T 629 (by decide +kernel) (by decide +kernel)
theorem kw_631 : Cond.instanceMethod y_M_isSound ∈ aW := aW_T 631 (by decide +kernel) (by decide +kernel)
theorem kw_632 : Cond.code y_M_isSound prog_6_method_3_code 2 (Option.some Jvm.ClassFile.FieldType.boolean) ∈ aW := aW_T 632 (by decide +kernel) (by decide +kernel)
theorem kw_637 : Cond.methodLink "SpellPitchModel" 103 y_M_soundsAs ∈ aW := aW_T 637 (by decide +kernel) (by decide +kernel)
theorem kw_638 : Cond.static y_M_soundsAs ∈ aW := aW_T 638 (by decide +kernel) (by decide +kernel)
theorem kw_639 : Cond.code y_M_soundsAs prog_6_method_6_code 2 (Option.some Jvm.ClassFile.FieldType.boolean) ∈ aW := aW_T 639 (by decide +kernel) (by decide +kernel)
theorem kw_644 : Cond.methodLink "SpellPitchModel" 107 y_M_isWeight ∈ aW := aW_T 644 (by decide +kernel) (by decide +kernel)
theorem kw_645 : Cond.static y_M_isWeight ∈ aW := aW_T 645 (by decide +kernel) (by decide +kernel)
theorem kw_646 : Cond.code y_M_isWeight prog_6_method_8_code 1 (Option.some Jvm.ClassFile.FieldType.boolean) ∈ aW := aW_T 646 (by decide +kernel) (by decide +kernel)
theorem kw_655 : Cond.methodLink "SpellPitchModel" 181 y_M_find ∈ aW := aW_T 655 (by decide +kernel) (by decide +kernel)
theorem kw_657 : Cond.instanceMethod y_M_find ∈ aW := aW_T 657 (by decide +kernel) (by decide +kernel)
theorem kw_658 : Cond.code y_M_find prog_6_method_27_code 4 (Option.none : Option Jvm.ClassFile.FieldType) ∈ aW := aW_T 658 (by decide +kernel) (by decide +kernel)
theorem kw_659 : Cond.methodLink "SpellPitchModel" 175 y_M_begin ∈ aW := aW_T 659 (by decide +kernel) (by decide +kernel)
theorem kw_661 : Cond.instanceMethod y_M_begin ∈ aW := aW_T 661 (by decide +kernel) (by decide +kernel)
theorem kw_662 : Cond.code y_M_begin prog_6_method_24_code 3 (Option.none : Option Jvm.ClassFile.FieldType) ∈ aW := aW_T 662 (by decide +kernel) (by decide +kernel)
theorem kw_663 : Cond.methodLink "SpellPitchModel" 145 y_M_findNames ∈ aW := aW_T 663 (by decide +kernel) (by decide +kernel)
theorem kw_665 : Cond.instanceMethod y_M_findNames ∈ aW := aW_T 665 (by decide +kernel) (by decide +kernel)
theorem kw_666 : Cond.code y_M_findNames prog_6_method_18_code 4 (Option.none : Option Jvm.ClassFile.FieldType) ∈ aW := aW_T 666 (by decide +kernel) (by decide +kernel)
theorem kw_667 : Cond.methodLink "SpellPitchModel" 124 y_M_nameIn ∈ aW := aW_T 667 (by decide +kernel) (by decide +kernel)
theorem kw_669 : Cond.instanceMethod y_M_nameIn ∈ aW := aW_T 669 (by decide +kernel) (by decide +kernel)
theorem kw_670 : Cond.code y_M_nameIn prog_6_method_17_code 7 (Option.some Jvm.ClassFile.FieldType.int) ∈ aW := aW_T 670 (by decide +kernel) (by decide +kernel)
theorem kw_671 : Cond.methodLink "SpellPitchModel" 149 y_M_judge ∈ aW := aW_T 671 (by decide +kernel) (by decide +kernel)
theorem kw_673 : Cond.instanceMethod y_M_judge ∈ aW := aW_T 673 (by decide +kernel) (by decide +kernel)
theorem kw_674 : Cond.code y_M_judge prog_6_method_19_code 11 (Option.some Jvm.ClassFile.FieldType.boolean) ∈ aW := aW_T 674 (by decide +kernel) (by decide +kernel)
theorem kw_675 : Cond.methodLink "SpellPitchModel" 114 y_M_signsOf ∈ aW := aW_T 675 (by decide +kernel) (by decide +kernel)
theorem kw_676 : Cond.static y_M_signsOf ∈ aW := aW_T 676 (by decide +kernel) (by decide +kernel)
theorem kw_677 : Cond.code y_M_signsOf prog_6_method_13_code 1 (Option.some Jvm.ClassFile.FieldType.int) ∈ aW := aW_T 677 (by decide +kernel) (by decide +kernel)
theorem kw_678 : Cond.methodLink "SpellPitchModel" 134 y_M_size ∈ aW := aW_T 678 (by decide +kernel) (by decide +kernel)
theorem kw_679 : Cond.static y_M_size ∈ aW := aW_T 679 (by decide +kernel) (by decide +kernel)
theorem kw_680 : Cond.code y_M_size prog_6_method_16_code 1 (Option.some Jvm.ClassFile.FieldType.int) ∈ aW := aW_T 680 (by decide +kernel) (by decide +kernel)
theorem kw_681 : Cond.methodLink "SpellPitchModel" 178 y_M_goOn ∈ aW := aW_T 681 (by decide +kernel) (by decide +kernel)
theorem kw_683 : Cond.instanceMethod y_M_goOn ∈ aW := aW_T 683 (by decide +kernel) (by decide +kernel)
theorem kw_684 : Cond.code y_M_goOn prog_6_method_26_code 4 (Option.none : Option Jvm.ClassFile.FieldType) ∈ aW := aW_T 684 (by decide +kernel) (by decide +kernel)
theorem kw_685 : Cond.methodLink "SpellPitchModel" 159 y_M_findSteps ∈ aW := aW_T 685 (by decide +kernel) (by decide +kernel)
theorem kw_687 : Cond.instanceMethod y_M_findSteps ∈ aW := aW_T 687 (by decide +kernel) (by decide +kernel)
theorem kw_688 : Cond.code y_M_findSteps prog_6_method_20_code 8 (Option.none : Option Jvm.ClassFile.FieldType) ∈ aW := aW_T 688 (by decide +kernel) (by decide +kernel)
theorem kw_689 : Cond.methodLink "SpellPitchModel" 137 y_M_isStep ∈ aW := aW_T 689 (by decide +kernel) (by decide +kernel)
theorem kw_690 : Cond.static y_M_isStep ∈ aW := aW_T 690 (by decide +kernel) (by decide +kernel)
theorem kw_691 : Cond.code y_M_isStep prog_6_method_21_code 5 (Option.some Jvm.ClassFile.FieldType.boolean) ∈ aW := aW_T 691 (by decide +kernel) (by decide +kernel)
theorem kw_692 : Cond.methodLink "SpellPitchModel" 141 y_M_placeOf ∈ aW := aW_T 692 (by decide +kernel) (by decide +kernel)
theorem kw_693 : Cond.static y_M_placeOf ∈ aW := aW_T 693 (by decide +kernel) (by decide +kernel)
theorem kw_694 : Cond.code y_M_placeOf prog_6_method_15_code 2 (Option.some Jvm.ClassFile.FieldType.int) ∈ aW := aW_T 694 (by decide +kernel) (by decide +kernel)
theorem kw_695 : Cond.methodLink "SpellPitchModel" 118 y_M_octaveOf ∈ aW := aW_T 695 (by decide +kernel) (by decide +kernel)
theorem kw_696 : Cond.static y_M_octaveOf ∈ aW := aW_T 696 (by decide +kernel) (by decide +kernel)
theorem kw_697 : Cond.code y_M_octaveOf prog_6_method_14_code 2 (Option.some Jvm.ClassFile.FieldType.int) ∈ aW := aW_T 697 (by decide +kernel) (by decide +kernel)
theorem kw_698 : Cond.methodLink "SpellPitchModel" 121 y_M_letterOf ∈ aW := aW_T 698 (by decide +kernel) (by decide +kernel)
theorem kw_699 : Cond.static y_M_letterOf ∈ aW := aW_T 699 (by decide +kernel) (by decide +kernel)
theorem kw_700 : Cond.code y_M_letterOf prog_6_method_12_code 1 (Option.some Jvm.ClassFile.FieldType.int) ∈ aW := aW_T 700 (by decide +kernel) (by decide +kernel)
theorem kw_701 : Cond.methodLink "SpellPitchModel" 110 y_M_modulo ∈ aW := aW_T 701 (by decide +kernel) (by decide +kernel)
theorem kw_702 : Cond.static y_M_modulo ∈ aW := aW_T 702 (by decide +kernel) (by decide +kernel)
theorem kw_703 : Cond.code y_M_modulo prog_6_method_11_code 3 (Option.some Jvm.ClassFile.FieldType.int) ∈ aW := aW_T 703 (by decide +kernel) (by decide +kernel)
theorem kw_704 : Cond.methodLink "SpellPitchModel" 162 y_M_reach ∈ aW := aW_T 704 (by decide +kernel) (by decide +kernel)
theorem kw_706 : Cond.instanceMethod y_M_reach ∈ aW := aW_T 706 (by decide +kernel) (by decide +kernel)
theorem kw_707 : Cond.code y_M_reach prog_6_method_25_code 8 (Option.none : Option Jvm.ClassFile.FieldType) ∈ aW := aW_T 707 (by decide +kernel) (by decide +kernel)
theorem kw_708 : Cond.methodLink "SpellPitchModel" 153 y_M_keysCost ∈ aW := aW_T 708 (by decide +kernel) (by decide +kernel)
theorem kw_710 : Cond.instanceMethod y_M_keysCost ∈ aW := aW_T 710 (by decide +kernel) (by decide +kernel)
theorem kw_711 : Cond.code y_M_keysCost prog_6_method_22_code 4 (Option.some Jvm.ClassFile.FieldType.int) ∈ aW := aW_T 711 (by decide +kernel) (by decide +kernel)
theorem kw_712 : Cond.methodLink "SpellPitchModel" 156 y_M_most ∈ aW := aW_T 712 (by decide +kernel) (by decide +kernel)
theorem kw_713 : Cond.static y_M_most ∈ aW := aW_T 713 (by decide +kernel) (by decide +kernel)
theorem kw_714 : Cond.code y_M_most prog_6_method_23_code 1 (Option.some Jvm.ClassFile.FieldType.int) ∈ aW := aW_T 714 (by decide +kernel) (by decide +kernel)
theorem kw_715 : Jvm.Cond.constant "SpellPitchModel" 144 1000000 ∈ aW := aW_T 715 (by decide +kernel) (by decide +kernel)
theorem kw_736 : Cond.methodLink "SpellPitchModel" 184 y_M_isTurn ∈ aW := aW_T 736 (by decide +kernel) (by decide +kernel)
theorem kw_738 : Cond.instanceMethod y_M_isTurn ∈ aW := aW_T 738 (by decide +kernel) (by decide +kernel)
theorem kw_739 : Cond.code y_M_isTurn prog_6_method_33_code 2 (Option.some Jvm.ClassFile.FieldType.boolean) ∈ aW := aW_T 739 (by decide +kernel) (by decide +kernel)
theorem kw_748 : Cond.methodLink "SpellPitchModel" 187 y_M_isInterval ∈ aW := aW_T 748 (by decide +kernel) (by decide +kernel)
theorem kw_749 : Cond.static y_M_isInterval ∈ aW := aW_T 749 (by decide +kernel) (by decide +kernel)
theorem kw_750 : Cond.code y_M_isInterval prog_6_method_36_code 1 (Option.some Jvm.ClassFile.FieldType.boolean) ∈ aW := aW_T 750 (by decide +kernel) (by decide +kernel)
theorem kw_751 : Cond.methodLink "SpellPitchModel" 190 y_M_stepsOf ∈ aW := aW_T 751 (by decide +kernel) (by decide +kernel)
theorem kw_752 : Cond.static y_M_stepsOf ∈ aW := aW_T 752 (by decide +kernel) (by decide +kernel)
theorem kw_753 : Cond.code y_M_stepsOf prog_6_method_37_code 1 (Option.some Jvm.ClassFile.FieldType.int) ∈ aW := aW_T 753 (by decide +kernel) (by decide +kernel)
theorem kw_758 : Cond.methodLink "SpellPitchModel" 193 y_M_halvesOf ∈ aW := aW_T 758 (by decide +kernel) (by decide +kernel)
theorem kw_759 : Cond.static y_M_halvesOf ∈ aW := aW_T 759 (by decide +kernel) (by decide +kernel)
theorem kw_760 : Cond.code y_M_halvesOf prog_6_method_38_code 3 (Option.some Jvm.ClassFile.FieldType.int) ∈ aW := aW_T 760 (by decide +kernel) (by decide +kernel)
theorem kw_781 : Cond.methodLink "SpellPitchModel" 196 y_M_isName ∈ aW := aW_T 781 (by decide +kernel) (by decide +kernel)
theorem kw_782 : Cond.static y_M_isName ∈ aW := aW_T 782 (by decide +kernel) (by decide +kernel)
theorem kw_783 : Cond.code y_M_isName prog_6_method_45_code 1 (Option.some Jvm.ClassFile.FieldType.boolean) ∈ aW := aW_T 783 (by decide +kernel) (by decide +kernel)
theorem ks_0 : Cond.selects "SpellPitch$Score" y_S_listOptions y_S_listOptions ∈ aW := aW_S 0 (q := (y_S_listOptions, 10)) (by decide +kernel)
theorem ks_1 : Cond.selects "SpellPitch" y_X_meant y_X_meant ∈ aW := aW_S 1 (q := (y_X_meant, 4)) (by decide +kernel)
theorem ks_2 : Cond.selects "SpellPitch$Search" y_R_layOutStates y_R_layOutStates ∈ aW := aW_S 2 (q := (y_R_layOutStates, 18)) (by decide +kernel)
theorem ks_3 : Cond.selects "SpellPitch$Search" y_R_picksAt y_R_picksAt ∈ aW := aW_S 3 (q := (y_R_picksAt, 18)) (by decide +kernel)
theorem ks_4 : Cond.selects "SpellPitch$Search" y_R_linkKeys y_R_linkKeys ∈ aW := aW_S 4 (q := (y_R_linkKeys, 18)) (by decide +kernel)
theorem ks_5 : Cond.selects "SpellPitch$Search" y_R_lookAtTheEnd y_R_lookAtTheEnd ∈ aW := aW_S 5 (q := (y_R_lookAtTheEnd, 18)) (by decide +kernel)
theorem ks_6 : Cond.selects "SpellPitch$Search" y_R_weigh y_R_weigh ∈ aW := aW_S 6 (q := (y_R_weigh, 18)) (by decide +kernel)
theorem ks_7 : Cond.selects "SpellPitch$Search" y_R_tryNames y_R_tryNames ∈ aW := aW_S 7 (q := (y_R_tryNames, 18)) (by decide +kernel)
theorem ks_8 : Cond.selects "SpellPitch$Search" y_R_valueOfTried y_R_valueOfTried ∈ aW := aW_S 8 (q := (y_R_valueOfTried, 18)) (by decide +kernel)
theorem ks_9 : Cond.selects "SpellPitch$Search" y_R_valueOutside y_R_valueOutside ∈ aW := aW_S 9 (q := (y_R_valueOutside, 18)) (by decide +kernel)
theorem ks_10 : Cond.selects "SpellPitch$Search" y_R_lookAheadFrom y_R_lookAheadFrom ∈ aW := aW_S 10 (q := (y_R_lookAheadFrom, 18)) (by decide +kernel)
theorem ks_11 : Cond.selects "SpellPitch$Search" y_R_foldLines y_R_foldLines ∈ aW := aW_S 11 (q := (y_R_foldLines, 18)) (by decide +kernel)
theorem ks_12 : Cond.selects "SpellPitch$Search" y_R_foldOne y_R_foldOne ∈ aW := aW_S 12 (q := (y_R_foldOne, 18)) (by decide +kernel)
theorem ks_13 : Cond.selects "SpellPitch$Search" y_R_linkSteps y_R_linkSteps ∈ aW := aW_S 13 (q := (y_R_linkSteps, 18)) (by decide +kernel)
theorem ks_14 : Cond.selects "SpellPitch$Search" y_R_isBadStep y_R_isBadStep ∈ aW := aW_S 14 (q := (y_R_isBadStep, 18)) (by decide +kernel)
theorem ks_15 : Cond.selects "SpellPitch$Search" y_R_countChoices y_R_countChoices ∈ aW := aW_S 15 (q := (y_R_countChoices, 18)) (by decide +kernel)
theorem ks_16 : Cond.selects "SpellPitch$Search" y_R_readOff y_R_readOff ∈ aW := aW_S 16 (q := (y_R_readOff, 18)) (by decide +kernel)
theorem ks_17 : Cond.selects "SpellPitch$Search" y_R_firstOfBest y_R_firstOfBest ∈ aW := aW_S 17 (q := (y_R_firstOfBest, 18)) (by decide +kernel)
theorem ks_18 : Cond.selects "SpellPitch$Search" y_R_valueBetween y_R_valueBetween ∈ aW := aW_S 18 (q := (y_R_valueBetween, 18)) (by decide +kernel)
theorem ks_19 : Cond.selects "SpellPitch$Search" y_R_keep y_R_keep ∈ aW := aW_S 19 (q := (y_R_keep, 18)) (by decide +kernel)
theorem ks_21 : Cond.selects "SpellPitchModel" y_M_isSound y_M_isSound ∈ aW := aW_S 21 (q := (y_M_isSound, 34)) (by decide +kernel)
theorem ks_22 : Cond.selects "SpellPitchModel" y_M_find y_M_find ∈ aW := aW_S 22 (q := (y_M_find, 34)) (by decide +kernel)
theorem ks_23 : Cond.selects "SpellPitchModel" y_M_begin y_M_begin ∈ aW := aW_S 23 (q := (y_M_begin, 34)) (by decide +kernel)
theorem ks_24 : Cond.selects "SpellPitchModel" y_M_findNames y_M_findNames ∈ aW := aW_S 24 (q := (y_M_findNames, 34)) (by decide +kernel)
theorem ks_25 : Cond.selects "SpellPitchModel" y_M_nameIn y_M_nameIn ∈ aW := aW_S 25 (q := (y_M_nameIn, 34)) (by decide +kernel)
theorem ks_26 : Cond.selects "SpellPitchModel" y_M_judge y_M_judge ∈ aW := aW_S 26 (q := (y_M_judge, 34)) (by decide +kernel)
theorem ks_27 : Cond.selects "SpellPitchModel" y_M_goOn y_M_goOn ∈ aW := aW_S 27 (q := (y_M_goOn, 34)) (by decide +kernel)
theorem ks_28 : Cond.selects "SpellPitchModel" y_M_findSteps y_M_findSteps ∈ aW := aW_S 28 (q := (y_M_findSteps, 34)) (by decide +kernel)
theorem ks_29 : Cond.selects "SpellPitchModel" y_M_reach y_M_reach ∈ aW := aW_S 29 (q := (y_M_reach, 34)) (by decide +kernel)
theorem ks_30 : Cond.selects "SpellPitchModel" y_M_keysCost y_M_keysCost ∈ aW := aW_S 30 (q := (y_M_keysCost, 34)) (by decide +kernel)
theorem ks_31 : Cond.selects "SpellPitchModel" y_M_isTurn y_M_isTurn ∈ aW := aW_S 31 (q := (y_M_isTurn, 34)) (by decide +kernel)
theorem kwN_arraycopy : Cond.native arraycopyName ∈ aW := aW_T 327 (by decide +kernel) (by decide +kernel)
end
section
def pk4 (j : Nat) : Int32 := match j with
  | 0 => 1
  | 1 => 3
  | 2 => 9
  | _ => 27
def qSt (tv : Nat) : q_St := fun A U H => va_Z "SpellPitch$Search" "PICKS" "[I" (.ref tv) A U H ∧ va_T .int tv 4 (fun j => .int (pk4 j)) A U H ∧ va_Nw (.methodLinkNest "SpellPitch" 11 y_R_init "SpellPitch") U ∧ va_Nw (.methodLinkNest "SpellPitch$Search" 30 y_S_init "SpellPitch") U ∧ va_Nw (.methodLinkNest "SpellPitch$Search" 37 y_G_init "SpellPitch") U ∧ va_Nw (.methodLinkNest "SpellPitch$Score" 53 y_X_placeOf "SpellPitch") U ∧ va_Nw (.methodLinkNest "SpellPitch$Search" 110 y_X_isTurn "SpellPitch") U ∧ va_Nw (.methodLinkNest "SpellPitch$Score" 56 y_X_isName "SpellPitch") U ∧ va_Nw (.methodLinkNest "SpellPitch$Search" 165 y_X_signsOf "SpellPitch") U
theorem qStOK (tv : Nat) : q_StOK (qSt tv) := by
  refine ⟨?_, ?_, ?_, ?_⟩
  · intro A s U H hW h
    obtain ⟨z, t, h0, h1, h2, h3, h4, h5, h6⟩ := h
    exact ⟨z.moved hW.alike, t.moved hW.alike, h0.warmM hW, h1.warmM hW, h2.warmM hW, h3.warmM hW, h4.warmM hW, h5.warmM hW, h6.warmM hW⟩
  · intro A U H H1 h hk
    obtain ⟨z, t, r⟩ := h
    exact ⟨z.kept hk, t.kept hk, r⟩
  · intro A B U H hAB h
    obtain ⟨z, t, r⟩ := h
    exact ⟨z.narrow hAB, t.narrow hAB, r⟩
  · intro A U g mk a H h
    obtain ⟨z, t, h0, h1, h2, h3, h4, h5, h6⟩ := h
    exact ⟨z.moved (Vm.Alike.refl U.vm), t.moved (Vm.Alike.refl U.vm), h0.same rfl rfl, h1.same rfl rfl, h2.same rfl rfl, h3.same rfl rfl, h4.same rfl rfl, h5.same rfl rfl, h6.same rfl rfl⟩
theorem qSt_0 {tv : Nat} (A : Nat → Prop) (U : State) (H : Heap) (h : qSt tv A U H) : va_Nw (.methodLinkNest "SpellPitch" 11 y_R_init "SpellPitch") U := h.2.2.1
theorem qSt_1 {tv : Nat} (A : Nat → Prop) (U : State) (H : Heap) (h : qSt tv A U H) : va_Nw (.methodLinkNest "SpellPitch$Search" 30 y_S_init "SpellPitch") U := h.2.2.2.1
theorem qSt_2 {tv : Nat} (A : Nat → Prop) (U : State) (H : Heap) (h : qSt tv A U H) : va_Nw (.methodLinkNest "SpellPitch$Search" 37 y_G_init "SpellPitch") U := h.2.2.2.2.1
theorem qSt_3 {tv : Nat} (A : Nat → Prop) (U : State) (H : Heap) (h : qSt tv A U H) : va_Nw (.methodLinkNest "SpellPitch$Score" 53 y_X_placeOf "SpellPitch") U := h.2.2.2.2.2.1
theorem qSt_4 {tv : Nat} (A : Nat → Prop) (U : State) (H : Heap) (h : qSt tv A U H) : va_Nw (.methodLinkNest "SpellPitch$Search" 110 y_X_isTurn "SpellPitch") U := h.2.2.2.2.2.2.1
theorem qSt_5 {tv : Nat} (A : Nat → Prop) (U : State) (H : Heap) (h : qSt tv A U H) : va_Nw (.methodLinkNest "SpellPitch$Score" 56 y_X_isName "SpellPitch") U := h.2.2.2.2.2.2.2.1
theorem qSt_6 {tv : Nat} (A : Nat → Prop) (U : State) (H : Heap) (h : qSt tv A U H) : va_Nw (.methodLinkNest "SpellPitch$Search" 165 y_X_signsOf "SpellPitch") U := h.2.2.2.2.2.2.2.2
def q_tb (tv : Nat) : Nat → Nat → (Nat → Int32) → Prop := fun a n f => a = tv ∧ n = 4 ∧ f = pk4
theorem q_tb_ok (tv : Nat) : ∀ a n f, q_tb tv a n f → ∀ (A : Nat → Prop) (U : State) (H : Heap), qSt tv A U H → va_T .int a n (fun j => .int (f j)) A U H := fun a n f h A U H hs => by obtain ⟨rfl, rfl, rfl⟩ := h; exact hs.2.1
def fl_X : List (Nat × (Nat × Nat × FieldType × Bool)) := [(12, 3, 2, (.object "SpellPitch$Search"), false), (16, 1, 5, (.object "SpellPitch$Score"), false), (20, 3, 0, (.object "SpellPitch$Score"), false), (21, 1, 6, (.object "SpellPitch$Weights"), false), (25, 3, 1, (.object "SpellPitch$Weights"), false), (26, 3, 3, .boolean, true), (36, 0, 8, .int, true), (48, 0, 2, (.array .int), false), (52, 0, 5, (.array .int), false), (58, 0, 0, (.array .int), false), (65, 0, 1, (.array .int), false), (71, 2, 0, .int, true), (76, 2, 1, .int, true), (79, 2, 2, .int, true), (82, 2, 3, .int, true), (85, 2, 4, .int, true), (95, 1, 2, .int, true), (98, 1, 3, .int, true), (101, 1, 4, .int, true), (104, 1, 0, (.array .int), false), (118, 1, 1, (.array .int), false), (121, 0, 9, .int, true)]
theorem fl_X_ok {c : Cond} : ∀ n ci k ty wr, q_as fl_X n = some (ci, k, ty, wr) → q_FldOK false "SpellPitch" (c :: aW) cls5 n ci k ty wr := fun n ci k ty wr h => (show ∀ q ∈ fl_X, q_FldOK false "SpellPitch" (c :: aW) cls5 q.1 q.2.1 q.2.2.1 q.2.2.2.1 q.2.2.2.2 from q_cons (fo_X (by decide) kw_172 rfl rfl (nofun)) (q_cons (fo_R (by decide) kw_118 rfl rfl (nofun)) (q_cons (fo_X (by decide) kw_170 rfl rfl (nofun)) (q_cons (fo_R (by decide) kw_120 rfl rfl (nofun)) (q_cons (fo_X (by decide) kw_171 rfl rfl (nofun)) (q_cons (fo_X (by decide) kw_173 rfl rfl (fun _ => Or.inl rfl)) (q_cons (fo_S (by decide) kw_50 rfl rfl (fun _ => Or.inl rfl)) (q_cons (fo_S (by decide) kw_38 rfl rfl (nofun)) (q_cons (fo_S (by decide) kw_44 rfl rfl (nofun)) (q_cons (fo_S (by decide) kw_33 rfl rfl (nofun)) (q_cons (fo_S (by decide) kw_36 rfl rfl (nofun)) (q_cons (fo_G (by decide) kw_83 rfl rfl (fun _ => Or.inl rfl)) (q_cons (fo_G (by decide) kw_86 rfl rfl (fun _ => Or.inl rfl)) (q_cons (fo_G (by decide) kw_89 rfl rfl (fun _ => Or.inl rfl)) (q_cons (fo_G (by decide) kw_92 rfl rfl (fun _ => Or.inl rfl)) (q_cons (fo_G (by decide) kw_96 rfl rfl (fun _ => Or.inl rfl)) (q_cons (fo_R (by decide) kw_113 rfl rfl (fun _ => Or.inl rfl)) (q_cons (fo_R (by decide) kw_115 rfl rfl (fun _ => Or.inl rfl)) (q_cons (fo_R (by decide) kw_117 rfl rfl (fun _ => Or.inl rfl)) (q_cons (fo_R (by decide) kw_109 rfl rfl (nofun)) (q_cons (fo_R (by decide) kw_111 rfl rfl (nofun)) (q_cons (fo_S (by decide) kw_53 rfl rfl (fun _ => Or.inl rfl)) (q_nil))))))))))))))))))))))) (n, ci, k, ty, wr) (q_as_in h)
def fi_X : List (Nat × (Nat × Nat × FieldType × Bool)) := [(12, 3, 2, (.object "SpellPitch$Search"), true), (16, 1, 5, (.object "SpellPitch$Score"), false), (20, 3, 0, (.object "SpellPitch$Score"), true), (21, 1, 6, (.object "SpellPitch$Weights"), false), (25, 3, 1, (.object "SpellPitch$Weights"), true), (26, 3, 3, .boolean, true), (36, 0, 8, .int, true), (48, 0, 2, (.array .int), false), (52, 0, 5, (.array .int), false), (58, 0, 0, (.array .int), false), (65, 0, 1, (.array .int), false), (71, 2, 0, .int, true), (76, 2, 1, .int, true), (79, 2, 2, .int, true), (82, 2, 3, .int, true), (85, 2, 4, .int, true), (95, 1, 2, .int, true), (98, 1, 3, .int, true), (101, 1, 4, .int, true), (104, 1, 0, (.array .int), false), (118, 1, 1, (.array .int), false), (121, 0, 9, .int, true)]
theorem fi_X_ok {c : Cond} : ∀ n ci k ty wr, q_as fi_X n = some (ci, k, ty, wr) → q_FldOK true "SpellPitch" (c :: aW) cls5 n ci k ty wr := fun n ci k ty wr h => (show ∀ q ∈ fi_X, q_FldOK true "SpellPitch" (c :: aW) cls5 q.1 q.2.1 q.2.2.1 q.2.2.2.1 q.2.2.2.2 from q_cons (fo_X (by decide) kw_172 rfl rfl (fun _ => Or.inr ⟨rfl, rfl, rfl⟩)) (q_cons (fo_R (by decide) kw_118 rfl rfl (nofun)) (q_cons (fo_X (by decide) kw_170 rfl rfl (fun _ => Or.inr ⟨rfl, rfl, rfl⟩)) (q_cons (fo_R (by decide) kw_120 rfl rfl (nofun)) (q_cons (fo_X (by decide) kw_171 rfl rfl (fun _ => Or.inr ⟨rfl, rfl, rfl⟩)) (q_cons (fo_X (by decide) kw_173 rfl rfl (fun _ => Or.inl rfl)) (q_cons (fo_S (by decide) kw_50 rfl rfl (fun _ => Or.inl rfl)) (q_cons (fo_S (by decide) kw_38 rfl rfl (nofun)) (q_cons (fo_S (by decide) kw_44 rfl rfl (nofun)) (q_cons (fo_S (by decide) kw_33 rfl rfl (nofun)) (q_cons (fo_S (by decide) kw_36 rfl rfl (nofun)) (q_cons (fo_G (by decide) kw_83 rfl rfl (fun _ => Or.inl rfl)) (q_cons (fo_G (by decide) kw_86 rfl rfl (fun _ => Or.inl rfl)) (q_cons (fo_G (by decide) kw_89 rfl rfl (fun _ => Or.inl rfl)) (q_cons (fo_G (by decide) kw_92 rfl rfl (fun _ => Or.inl rfl)) (q_cons (fo_G (by decide) kw_96 rfl rfl (fun _ => Or.inl rfl)) (q_cons (fo_R (by decide) kw_113 rfl rfl (fun _ => Or.inl rfl)) (q_cons (fo_R (by decide) kw_115 rfl rfl (fun _ => Or.inl rfl)) (q_cons (fo_R (by decide) kw_117 rfl rfl (fun _ => Or.inl rfl)) (q_cons (fo_R (by decide) kw_109 rfl rfl (nofun)) (q_cons (fo_R (by decide) kw_111 rfl rfl (nofun)) (q_cons (fo_S (by decide) kw_53 rfl rfl (fun _ => Or.inl rfl)) (q_nil))))))))))))))))))))))) (n, ci, k, ty, wr) (q_as_in h)
def lc_X : List (Nat × Int32) := []
theorem lc_X_ok {c : Cond} : ∀ n v, q_as lc_X n = some v → Jvm.Cond.constant "SpellPitch" n v ∈ c :: aW := fun n v h => (show ∀ q ∈ lc_X, Jvm.Cond.constant "SpellPitch" q.1 q.2 ∈ c :: aW from q_nil) (n, v) (q_as_in h)
def nw_X : List (Nat × (Nat × Nat × List Value)) := [(9, 1, 18, [.null, .null, .int 0, .int 0, .int 0, .null, .null, .null, .null, .null, .null, .null, .null, .null, .null, .null, .null, .int 0])]
theorem nw_X_ok {c : Cond} : ∀ n ci N fs, q_as nw_X n = some (ci, N, fs) → q_NwOK "SpellPitch" (c :: aW) cls5 n ci N fs := fun n ci N fs h => (show ∀ q ∈ nw_X, q_NwOK "SpellPitch" (c :: aW) cls5 q.1 q.2.1 q.2.2.1 q.2.2.2 from q_cons (show q_NwOK "SpellPitch" (c :: aW) cls5 9 1 18 [.null, .null, .int 0, .int 0, .int 0, .null, .null, .null, .null, .null, .null, .null, .null, .null, .null, .null, .null, .int 0] from ⟨"SpellPitch$Search", tt_R, ty_R, rfl, fun w h => aW_in (tw_R w h), tk_R, aW_in kw_20, aW_in kw_21, aW_in kw_2, by decide +kernel⟩) (q_nil)) (n, ci, N, fs) (q_as_in h)
def fl_S : List (Nat × (Nat × Nat × FieldType × Bool)) := [(9, 0, 0, (.array .int), false), (15, 0, 1, (.array .int), false), (18, 0, 2, (.array .int), false), (21, 0, 3, (.array .int), false), (24, 0, 4, (.array .int), false), (27, 0, 5, (.array .int), false), (30, 0, 6, (.array .int), false), (33, 0, 7, (.array .int), false), (36, 0, 8, .int, true), (40, 0, 9, .int, true)]
theorem fl_S_ok {c : Cond} : ∀ n ci k ty wr, q_as fl_S n = some (ci, k, ty, wr) → q_FldOK false "SpellPitch$Score" (c :: aW) cls5 n ci k ty wr := fun n ci k ty wr h => (show ∀ q ∈ fl_S, q_FldOK false "SpellPitch$Score" (c :: aW) cls5 q.1 q.2.1 q.2.2.1 q.2.2.2.1 q.2.2.2.2 from q_cons (fo_S (by decide) kw_32 rfl rfl (nofun)) (q_cons (fo_S (by decide) kw_35 rfl rfl (nofun)) (q_cons (fo_S (by decide) kw_37 rfl rfl (nofun)) (q_cons (fo_S (by decide) kw_39 rfl rfl (nofun)) (q_cons (fo_S (by decide) kw_41 rfl rfl (nofun)) (q_cons (fo_S (by decide) kw_43 rfl rfl (nofun)) (q_cons (fo_S (by decide) kw_45 rfl rfl (nofun)) (q_cons (fo_S (by decide) kw_47 rfl rfl (nofun)) (q_cons (fo_S (by decide) kw_49 rfl rfl (fun _ => Or.inl rfl)) (q_cons (fo_S (by decide) kw_51 rfl rfl (fun _ => Or.inl rfl)) (q_nil))))))))))) (n, ci, k, ty, wr) (q_as_in h)
def fi_S : List (Nat × (Nat × Nat × FieldType × Bool)) := [(9, 0, 0, (.array .int), true), (15, 0, 1, (.array .int), true), (18, 0, 2, (.array .int), true), (21, 0, 3, (.array .int), true), (24, 0, 4, (.array .int), true), (27, 0, 5, (.array .int), true), (30, 0, 6, (.array .int), true), (33, 0, 7, (.array .int), true), (36, 0, 8, .int, true), (40, 0, 9, .int, true)]
theorem fi_S_ok {c : Cond} : ∀ n ci k ty wr, q_as fi_S n = some (ci, k, ty, wr) → q_FldOK true "SpellPitch$Score" (c :: aW) cls5 n ci k ty wr := fun n ci k ty wr h => (show ∀ q ∈ fi_S, q_FldOK true "SpellPitch$Score" (c :: aW) cls5 q.1 q.2.1 q.2.2.1 q.2.2.2.1 q.2.2.2.2 from q_cons (fo_S (by decide) kw_32 rfl rfl (fun _ => Or.inr ⟨rfl, rfl, rfl⟩)) (q_cons (fo_S (by decide) kw_35 rfl rfl (fun _ => Or.inr ⟨rfl, rfl, rfl⟩)) (q_cons (fo_S (by decide) kw_37 rfl rfl (fun _ => Or.inr ⟨rfl, rfl, rfl⟩)) (q_cons (fo_S (by decide) kw_39 rfl rfl (fun _ => Or.inr ⟨rfl, rfl, rfl⟩)) (q_cons (fo_S (by decide) kw_41 rfl rfl (fun _ => Or.inr ⟨rfl, rfl, rfl⟩)) (q_cons (fo_S (by decide) kw_43 rfl rfl (fun _ => Or.inr ⟨rfl, rfl, rfl⟩)) (q_cons (fo_S (by decide) kw_45 rfl rfl (fun _ => Or.inr ⟨rfl, rfl, rfl⟩)) (q_cons (fo_S (by decide) kw_47 rfl rfl (fun _ => Or.inr ⟨rfl, rfl, rfl⟩)) (q_cons (fo_S (by decide) kw_49 rfl rfl (fun _ => Or.inl rfl)) (q_cons (fo_S (by decide) kw_51 rfl rfl (fun _ => Or.inl rfl)) (q_nil))))))))))) (n, ci, k, ty, wr) (q_as_in h)
def lc_S : List (Nat × Int32) := []
theorem lc_S_ok {c : Cond} : ∀ n v, q_as lc_S n = some v → Jvm.Cond.constant "SpellPitch$Score" n v ∈ c :: aW := fun n v h => (show ∀ q ∈ lc_S, Jvm.Cond.constant "SpellPitch$Score" q.1 q.2 ∈ c :: aW from q_nil) (n, v) (q_as_in h)
def nw_S : List (Nat × (Nat × Nat × List Value)) := []
theorem nw_S_ok {c : Cond} : ∀ n ci N fs, q_as nw_S n = some (ci, N, fs) → q_NwOK "SpellPitch$Score" (c :: aW) cls5 n ci N fs := fun n ci N fs h => (show ∀ q ∈ nw_S, q_NwOK "SpellPitch$Score" (c :: aW) cls5 q.1 q.2.1 q.2.2.1 q.2.2.2 from q_nil) (n, ci, N, fs) (q_as_in h)
def fl_R : List (Nat × (Nat × Nat × FieldType × Bool)) := [(9, 1, 0, (.array .int), false), (15, 1, 1, (.array .int), false), (18, 1, 2, .int, true), (22, 1, 3, .int, true), (25, 1, 4, .int, true), (31, 1, 5, (.object "SpellPitch$Score"), false), (38, 1, 6, (.object "SpellPitch$Weights"), false), (42, 1, 7, (.array .int), false), (45, 1, 8, (.array .int), false), (48, 1, 9, (.array .int), false), (51, 1, 10, (.array .int), false), (54, 1, 11, (.array .int), false), (57, 1, 12, (.array .int), false), (60, 1, 13, (.array .int), false), (63, 1, 14, (.array .int), false), (66, 1, 15, (.array .int), false), (69, 1, 16, (.array .int), false), (72, 1, 17, .int, true), (75, 0, 9, .int, true), (103, 0, 4, (.array .int), false), (119, 2, 4, .int, true), (122, 0, 3, (.array .int), false), (133, 2, 3, .int, true), (136, 0, 0, (.array .int), false), (139, 0, 7, (.array .int), false), (155, 0, 6, (.array .int), false), (168, 2, 1, .int, true), (171, 2, 2, .int, true), (177, 2, 0, .int, true)]
theorem fl_R_ok {c : Cond} : ∀ n ci k ty wr, q_as fl_R n = some (ci, k, ty, wr) → q_FldOK false "SpellPitch$Search" (c :: aW) cls5 n ci k ty wr := fun n ci k ty wr h => (show ∀ q ∈ fl_R, q_FldOK false "SpellPitch$Search" (c :: aW) cls5 q.1 q.2.1 q.2.2.1 q.2.2.2.1 q.2.2.2.2 from q_cons (fo_R (by decide) kw_108 rfl rfl (nofun)) (q_cons (fo_R (by decide) kw_110 rfl rfl (nofun)) (q_cons (fo_R (by decide) kw_112 rfl rfl (fun _ => Or.inl rfl)) (q_cons (fo_R (by decide) kw_114 rfl rfl (fun _ => Or.inl rfl)) (q_cons (fo_R (by decide) kw_116 rfl rfl (fun _ => Or.inl rfl)) (q_cons (fo_R (by decide) kw_119 rfl rfl (nofun)) (q_cons (fo_R (by decide) kw_121 rfl rfl (nofun)) (q_cons (fo_R (by decide) kw_122 rfl rfl (nofun)) (q_cons (fo_R (by decide) kw_123 rfl rfl (nofun)) (q_cons (fo_R (by decide) kw_124 rfl rfl (nofun)) (q_cons (fo_R (by decide) kw_125 rfl rfl (nofun)) (q_cons (fo_R (by decide) kw_126 rfl rfl (nofun)) (q_cons (fo_R (by decide) kw_127 rfl rfl (nofun)) (q_cons (fo_R (by decide) kw_128 rfl rfl (nofun)) (q_cons (fo_R (by decide) kw_129 rfl rfl (nofun)) (q_cons (fo_R (by decide) kw_130 rfl rfl (nofun)) (q_cons (fo_R (by decide) kw_131 rfl rfl (nofun)) (q_cons (fo_R (by decide) kw_132 rfl rfl (fun _ => Or.inl rfl)) (q_cons (fo_S (by decide) kw_52 rfl rfl (fun _ => Or.inl rfl)) (q_cons (fo_S (by decide) kw_42 rfl rfl (nofun)) (q_cons (fo_G (by decide) kw_95 rfl rfl (fun _ => Or.inl rfl)) (q_cons (fo_S (by decide) kw_40 rfl rfl (nofun)) (q_cons (fo_G (by decide) kw_93 rfl rfl (fun _ => Or.inl rfl)) (q_cons (fo_S (by decide) kw_34 rfl rfl (nofun)) (q_cons (fo_S (by decide) kw_48 rfl rfl (nofun)) (q_cons (fo_S (by decide) kw_46 rfl rfl (nofun)) (q_cons (fo_G (by decide) kw_87 rfl rfl (fun _ => Or.inl rfl)) (q_cons (fo_G (by decide) kw_90 rfl rfl (fun _ => Or.inl rfl)) (q_cons (fo_G (by decide) kw_84 rfl rfl (fun _ => Or.inl rfl)) (q_nil)))))))))))))))))))))))))))))) (n, ci, k, ty, wr) (q_as_in h)
def fi_R : List (Nat × (Nat × Nat × FieldType × Bool)) := [(9, 1, 0, (.array .int), true), (15, 1, 1, (.array .int), true), (18, 1, 2, .int, true), (22, 1, 3, .int, true), (25, 1, 4, .int, true), (31, 1, 5, (.object "SpellPitch$Score"), true), (38, 1, 6, (.object "SpellPitch$Weights"), true), (42, 1, 7, (.array .int), true), (45, 1, 8, (.array .int), true), (48, 1, 9, (.array .int), true), (51, 1, 10, (.array .int), true), (54, 1, 11, (.array .int), true), (57, 1, 12, (.array .int), true), (60, 1, 13, (.array .int), true), (63, 1, 14, (.array .int), true), (66, 1, 15, (.array .int), true), (69, 1, 16, (.array .int), true), (72, 1, 17, .int, true), (75, 0, 9, .int, true), (103, 0, 4, (.array .int), false), (119, 2, 4, .int, true), (122, 0, 3, (.array .int), false), (133, 2, 3, .int, true), (136, 0, 0, (.array .int), false), (139, 0, 7, (.array .int), false), (155, 0, 6, (.array .int), false), (168, 2, 1, .int, true), (171, 2, 2, .int, true), (177, 2, 0, .int, true)]
theorem fi_R_ok {c : Cond} : ∀ n ci k ty wr, q_as fi_R n = some (ci, k, ty, wr) → q_FldOK true "SpellPitch$Search" (c :: aW) cls5 n ci k ty wr := fun n ci k ty wr h => (show ∀ q ∈ fi_R, q_FldOK true "SpellPitch$Search" (c :: aW) cls5 q.1 q.2.1 q.2.2.1 q.2.2.2.1 q.2.2.2.2 from q_cons (fo_R (by decide) kw_108 rfl rfl (fun _ => Or.inr ⟨rfl, rfl, rfl⟩)) (q_cons (fo_R (by decide) kw_110 rfl rfl (fun _ => Or.inr ⟨rfl, rfl, rfl⟩)) (q_cons (fo_R (by decide) kw_112 rfl rfl (fun _ => Or.inl rfl)) (q_cons (fo_R (by decide) kw_114 rfl rfl (fun _ => Or.inl rfl)) (q_cons (fo_R (by decide) kw_116 rfl rfl (fun _ => Or.inl rfl)) (q_cons (fo_R (by decide) kw_119 rfl rfl (fun _ => Or.inr ⟨rfl, rfl, rfl⟩)) (q_cons (fo_R (by decide) kw_121 rfl rfl (fun _ => Or.inr ⟨rfl, rfl, rfl⟩)) (q_cons (fo_R (by decide) kw_122 rfl rfl (fun _ => Or.inr ⟨rfl, rfl, rfl⟩)) (q_cons (fo_R (by decide) kw_123 rfl rfl (fun _ => Or.inr ⟨rfl, rfl, rfl⟩)) (q_cons (fo_R (by decide) kw_124 rfl rfl (fun _ => Or.inr ⟨rfl, rfl, rfl⟩)) (q_cons (fo_R (by decide) kw_125 rfl rfl (fun _ => Or.inr ⟨rfl, rfl, rfl⟩)) (q_cons (fo_R (by decide) kw_126 rfl rfl (fun _ => Or.inr ⟨rfl, rfl, rfl⟩)) (q_cons (fo_R (by decide) kw_127 rfl rfl (fun _ => Or.inr ⟨rfl, rfl, rfl⟩)) (q_cons (fo_R (by decide) kw_128 rfl rfl (fun _ => Or.inr ⟨rfl, rfl, rfl⟩)) (q_cons (fo_R (by decide) kw_129 rfl rfl (fun _ => Or.inr ⟨rfl, rfl, rfl⟩)) (q_cons (fo_R (by decide) kw_130 rfl rfl (fun _ => Or.inr ⟨rfl, rfl, rfl⟩)) (q_cons (fo_R (by decide) kw_131 rfl rfl (fun _ => Or.inr ⟨rfl, rfl, rfl⟩)) (q_cons (fo_R (by decide) kw_132 rfl rfl (fun _ => Or.inl rfl)) (q_cons (fo_S (by decide) kw_52 rfl rfl (fun _ => Or.inl rfl)) (q_cons (fo_S (by decide) kw_42 rfl rfl (nofun)) (q_cons (fo_G (by decide) kw_95 rfl rfl (fun _ => Or.inl rfl)) (q_cons (fo_S (by decide) kw_40 rfl rfl (nofun)) (q_cons (fo_G (by decide) kw_93 rfl rfl (fun _ => Or.inl rfl)) (q_cons (fo_S (by decide) kw_34 rfl rfl (nofun)) (q_cons (fo_S (by decide) kw_48 rfl rfl (nofun)) (q_cons (fo_S (by decide) kw_46 rfl rfl (nofun)) (q_cons (fo_G (by decide) kw_87 rfl rfl (fun _ => Or.inl rfl)) (q_cons (fo_G (by decide) kw_90 rfl rfl (fun _ => Or.inl rfl)) (q_cons (fo_G (by decide) kw_84 rfl rfl (fun _ => Or.inl rfl)) (q_nil)))))))))))))))))))))))))))))) (n, ci, k, ty, wr) (q_as_in h)
def lc_R : List (Nat × Int32) := [(148, 268435456), (197, 1000000)]
theorem lc_R_ok {c : Cond} : ∀ n v, q_as lc_R n = some v → Jvm.Cond.constant "SpellPitch$Search" n v ∈ c :: aW := fun n v h => (show ∀ q ∈ lc_R, Jvm.Cond.constant "SpellPitch$Search" q.1 q.2 ∈ c :: aW from q_cons (aW_in kw_312) (q_cons (aW_in kw_336) (q_nil))) (n, v) (q_as_in h)
def nw_R : List (Nat × (Nat × Nat × List Value)) := [(28, 0, 10, [.null, .null, .null, .null, .null, .null, .null, .null, .int 0, .int 0]), (35, 2, 5, [.int 0, .int 0, .int 0, .int 0, .int 0])]
theorem nw_R_ok {c : Cond} : ∀ n ci N fs, q_as nw_R n = some (ci, N, fs) → q_NwOK "SpellPitch$Search" (c :: aW) cls5 n ci N fs := fun n ci N fs h => (show ∀ q ∈ nw_R, q_NwOK "SpellPitch$Search" (c :: aW) cls5 q.1 q.2.1 q.2.2.1 q.2.2.2 from q_cons (show q_NwOK "SpellPitch$Search" (c :: aW) cls5 28 0 10 [.null, .null, .null, .null, .null, .null, .null, .null, .int 0, .int 0] from ⟨"SpellPitch$Score", tt_S, ty_S, rfl, fun w h => aW_in (tw_S w h), tk_S, aW_in kw_26, aW_in kw_27, aW_in kw_3, by decide +kernel⟩) (q_cons (show q_NwOK "SpellPitch$Search" (c :: aW) cls5 35 2 5 [.int 0, .int 0, .int 0, .int 0, .int 0] from ⟨"SpellPitch$Weights", tt_G, ty_G, rfl, fun w h => aW_in (tw_G w h), tk_G, aW_in kw_76, aW_in kw_77, aW_in kw_4, by decide +kernel⟩) (q_nil))) (n, ci, N, fs) (q_as_in h)
def fl_G : List (Nat × (Nat × Nat × FieldType × Bool)) := [(7, 2, 0, .int, true), (13, 2, 1, .int, true), (16, 2, 2, .int, true), (19, 2, 3, .int, true), (22, 2, 4, .int, true)]
theorem fl_G_ok {c : Cond} : ∀ n ci k ty wr, q_as fl_G n = some (ci, k, ty, wr) → q_FldOK false "SpellPitch$Weights" (c :: aW) cls5 n ci k ty wr := fun n ci k ty wr h => (show ∀ q ∈ fl_G, q_FldOK false "SpellPitch$Weights" (c :: aW) cls5 q.1 q.2.1 q.2.2.1 q.2.2.2.1 q.2.2.2.2 from q_cons (fo_G (by decide) kw_82 rfl rfl (fun _ => Or.inl rfl)) (q_cons (fo_G (by decide) kw_85 rfl rfl (fun _ => Or.inl rfl)) (q_cons (fo_G (by decide) kw_88 rfl rfl (fun _ => Or.inl rfl)) (q_cons (fo_G (by decide) kw_91 rfl rfl (fun _ => Or.inl rfl)) (q_cons (fo_G (by decide) kw_94 rfl rfl (fun _ => Or.inl rfl)) (q_nil)))))) (n, ci, k, ty, wr) (q_as_in h)
def fi_G : List (Nat × (Nat × Nat × FieldType × Bool)) := [(7, 2, 0, .int, true), (13, 2, 1, .int, true), (16, 2, 2, .int, true), (19, 2, 3, .int, true), (22, 2, 4, .int, true)]
theorem fi_G_ok {c : Cond} : ∀ n ci k ty wr, q_as fi_G n = some (ci, k, ty, wr) → q_FldOK true "SpellPitch$Weights" (c :: aW) cls5 n ci k ty wr := fun n ci k ty wr h => (show ∀ q ∈ fi_G, q_FldOK true "SpellPitch$Weights" (c :: aW) cls5 q.1 q.2.1 q.2.2.1 q.2.2.2.1 q.2.2.2.2 from q_cons (fo_G (by decide) kw_82 rfl rfl (fun _ => Or.inl rfl)) (q_cons (fo_G (by decide) kw_85 rfl rfl (fun _ => Or.inl rfl)) (q_cons (fo_G (by decide) kw_88 rfl rfl (fun _ => Or.inl rfl)) (q_cons (fo_G (by decide) kw_91 rfl rfl (fun _ => Or.inl rfl)) (q_cons (fo_G (by decide) kw_94 rfl rfl (fun _ => Or.inl rfl)) (q_nil)))))) (n, ci, k, ty, wr) (q_as_in h)
def lc_G : List (Nat × Int32) := []
theorem lc_G_ok {c : Cond} : ∀ n v, q_as lc_G n = some v → Jvm.Cond.constant "SpellPitch$Weights" n v ∈ c :: aW := fun n v h => (show ∀ q ∈ lc_G, Jvm.Cond.constant "SpellPitch$Weights" q.1 q.2 ∈ c :: aW from q_nil) (n, v) (q_as_in h)
def nw_G : List (Nat × (Nat × Nat × List Value)) := []
theorem nw_G_ok {c : Cond} : ∀ n ci N fs, q_as nw_G n = some (ci, N, fs) → q_NwOK "SpellPitch$Weights" (c :: aW) cls5 n ci N fs := fun n ci N fs h => (show ∀ q ∈ nw_G, q_NwOK "SpellPitch$Weights" (c :: aW) cls5 q.1 q.2.1 q.2.2.1 q.2.2.2 from q_nil) (n, ci, N, fs) (q_as_in h)
def fl_M : List (Nat × (Nat × Nat × FieldType × Bool)) := [(7, 4, 3, (.array .int), false), (13, 4, 4, (.array .int), false), (16, 4, 5, (.array .int), false), (19, 4, 6, (.array .int), false), (22, 4, 7, (.array .int), false), (25, 4, 8, (.array .int), false), (28, 4, 9, .int, true), (32, 4, 10, .int, true), (35, 4, 11, .int, true), (38, 4, 12, .int, true), (41, 4, 13, .int, true), (44, 4, 16, (.array .int), false), (47, 4, 17, (.array .int), false), (50, 4, 18, (.array .int), false), (53, 4, 20, (.array .int), false), (56, 4, 21, (.array .int), false), (59, 4, 22, (.array .int), false), (62, 4, 23, (.array .int), false), (65, 4, 24, (.array .int), false), (68, 4, 25, (.array .int), false), (71, 4, 26, (.array .int), false), (74, 4, 27, (.array .int), false), (77, 4, 28, (.array .int), false), (80, 4, 29, (.array .int), false), (83, 4, 30, (.array .int), false), (86, 4, 0, .int, true), (89, 4, 1, .int, true), (92, 4, 2, .int, true), (95, 4, 19, .boolean, true), (128, 4, 14, .int, true), (131, 4, 15, .int, true), (166, 4, 31, .int, true), (169, 4, 32, .int, true), (172, 4, 33, .int, true)]
theorem fl_M_ok {c : Cond} : ∀ n ci k ty wr, q_as fl_M n = some (ci, k, ty, wr) → q_FldOK false "SpellPitchModel" (c :: aW) cls5 n ci k ty wr := fun n ci k ty wr h => (show ∀ q ∈ fl_M, q_FldOK false "SpellPitchModel" (c :: aW) cls5 q.1 q.2.1 q.2.2.1 q.2.2.2.1 q.2.2.2.2 from q_cons (fo_M (by decide) kw_517 rfl rfl (nofun)) (q_cons (fo_M (by decide) kw_518 rfl rfl (nofun)) (q_cons (fo_M (by decide) kw_519 rfl rfl (nofun)) (q_cons (fo_M (by decide) kw_520 rfl rfl (nofun)) (q_cons (fo_M (by decide) kw_521 rfl rfl (nofun)) (q_cons (fo_M (by decide) kw_522 rfl rfl (nofun)) (q_cons (fo_M (by decide) kw_523 rfl rfl (fun _ => Or.inl rfl)) (q_cons (fo_M (by decide) kw_524 rfl rfl (fun _ => Or.inl rfl)) (q_cons (fo_M (by decide) kw_525 rfl rfl (fun _ => Or.inl rfl)) (q_cons (fo_M (by decide) kw_526 rfl rfl (fun _ => Or.inl rfl)) (q_cons (fo_M (by decide) kw_527 rfl rfl (fun _ => Or.inl rfl)) (q_cons (fo_M (by decide) kw_530 rfl rfl (nofun)) (q_cons (fo_M (by decide) kw_531 rfl rfl (nofun)) (q_cons (fo_M (by decide) kw_532 rfl rfl (nofun)) (q_cons (fo_M (by decide) kw_534 rfl rfl (nofun)) (q_cons (fo_M (by decide) kw_535 rfl rfl (nofun)) (q_cons (fo_M (by decide) kw_536 rfl rfl (nofun)) (q_cons (fo_M (by decide) kw_537 rfl rfl (nofun)) (q_cons (fo_M (by decide) kw_538 rfl rfl (nofun)) (q_cons (fo_M (by decide) kw_539 rfl rfl (nofun)) (q_cons (fo_M (by decide) kw_540 rfl rfl (nofun)) (q_cons (fo_M (by decide) kw_541 rfl rfl (nofun)) (q_cons (fo_M (by decide) kw_542 rfl rfl (nofun)) (q_cons (fo_M (by decide) kw_543 rfl rfl (nofun)) (q_cons (fo_M (by decide) kw_544 rfl rfl (nofun)) (q_cons (fo_M (by decide) kw_514 rfl rfl (fun _ => Or.inl rfl)) (q_cons (fo_M (by decide) kw_515 rfl rfl (fun _ => Or.inl rfl)) (q_cons (fo_M (by decide) kw_516 rfl rfl (fun _ => Or.inl rfl)) (q_cons (fo_M (by decide) kw_533 rfl rfl (fun _ => Or.inl rfl)) (q_cons (fo_M (by decide) kw_528 rfl rfl (fun _ => Or.inl rfl)) (q_cons (fo_M (by decide) kw_529 rfl rfl (fun _ => Or.inl rfl)) (q_cons (fo_M (by decide) kw_545 rfl rfl (fun _ => Or.inl rfl)) (q_cons (fo_M (by decide) kw_546 rfl rfl (fun _ => Or.inl rfl)) (q_cons (fo_M (by decide) kw_547 rfl rfl (fun _ => Or.inl rfl)) (q_nil))))))))))))))))))))))))))))))))))) (n, ci, k, ty, wr) (q_as_in h)
def fi_M : List (Nat × (Nat × Nat × FieldType × Bool)) := [(7, 4, 3, (.array .int), true), (13, 4, 4, (.array .int), true), (16, 4, 5, (.array .int), true), (19, 4, 6, (.array .int), true), (22, 4, 7, (.array .int), true), (25, 4, 8, (.array .int), true), (28, 4, 9, .int, true), (32, 4, 10, .int, true), (35, 4, 11, .int, true), (38, 4, 12, .int, true), (41, 4, 13, .int, true), (44, 4, 16, (.array .int), true), (47, 4, 17, (.array .int), true), (50, 4, 18, (.array .int), true), (53, 4, 20, (.array .int), true), (56, 4, 21, (.array .int), true), (59, 4, 22, (.array .int), true), (62, 4, 23, (.array .int), true), (65, 4, 24, (.array .int), true), (68, 4, 25, (.array .int), true), (71, 4, 26, (.array .int), true), (74, 4, 27, (.array .int), true), (77, 4, 28, (.array .int), true), (80, 4, 29, (.array .int), true), (83, 4, 30, (.array .int), true), (86, 4, 0, .int, true), (89, 4, 1, .int, true), (92, 4, 2, .int, true), (95, 4, 19, .boolean, true), (128, 4, 14, .int, true), (131, 4, 15, .int, true), (166, 4, 31, .int, true), (169, 4, 32, .int, true), (172, 4, 33, .int, true)]
theorem fi_M_ok {c : Cond} : ∀ n ci k ty wr, q_as fi_M n = some (ci, k, ty, wr) → q_FldOK true "SpellPitchModel" (c :: aW) cls5 n ci k ty wr := fun n ci k ty wr h => (show ∀ q ∈ fi_M, q_FldOK true "SpellPitchModel" (c :: aW) cls5 q.1 q.2.1 q.2.2.1 q.2.2.2.1 q.2.2.2.2 from q_cons (fo_M (by decide) kw_517 rfl rfl (fun _ => Or.inr ⟨rfl, rfl, rfl⟩)) (q_cons (fo_M (by decide) kw_518 rfl rfl (fun _ => Or.inr ⟨rfl, rfl, rfl⟩)) (q_cons (fo_M (by decide) kw_519 rfl rfl (fun _ => Or.inr ⟨rfl, rfl, rfl⟩)) (q_cons (fo_M (by decide) kw_520 rfl rfl (fun _ => Or.inr ⟨rfl, rfl, rfl⟩)) (q_cons (fo_M (by decide) kw_521 rfl rfl (fun _ => Or.inr ⟨rfl, rfl, rfl⟩)) (q_cons (fo_M (by decide) kw_522 rfl rfl (fun _ => Or.inr ⟨rfl, rfl, rfl⟩)) (q_cons (fo_M (by decide) kw_523 rfl rfl (fun _ => Or.inl rfl)) (q_cons (fo_M (by decide) kw_524 rfl rfl (fun _ => Or.inl rfl)) (q_cons (fo_M (by decide) kw_525 rfl rfl (fun _ => Or.inl rfl)) (q_cons (fo_M (by decide) kw_526 rfl rfl (fun _ => Or.inl rfl)) (q_cons (fo_M (by decide) kw_527 rfl rfl (fun _ => Or.inl rfl)) (q_cons (fo_M (by decide) kw_530 rfl rfl (fun _ => Or.inr ⟨rfl, rfl, rfl⟩)) (q_cons (fo_M (by decide) kw_531 rfl rfl (fun _ => Or.inr ⟨rfl, rfl, rfl⟩)) (q_cons (fo_M (by decide) kw_532 rfl rfl (fun _ => Or.inr ⟨rfl, rfl, rfl⟩)) (q_cons (fo_M (by decide) kw_534 rfl rfl (fun _ => Or.inr ⟨rfl, rfl, rfl⟩)) (q_cons (fo_M (by decide) kw_535 rfl rfl (fun _ => Or.inr ⟨rfl, rfl, rfl⟩)) (q_cons (fo_M (by decide) kw_536 rfl rfl (fun _ => Or.inr ⟨rfl, rfl, rfl⟩)) (q_cons (fo_M (by decide) kw_537 rfl rfl (fun _ => Or.inr ⟨rfl, rfl, rfl⟩)) (q_cons (fo_M (by decide) kw_538 rfl rfl (fun _ => Or.inr ⟨rfl, rfl, rfl⟩)) (q_cons (fo_M (by decide) kw_539 rfl rfl (fun _ => Or.inr ⟨rfl, rfl, rfl⟩)) (q_cons (fo_M (by decide) kw_540 rfl rfl (fun _ => Or.inr ⟨rfl, rfl, rfl⟩)) (q_cons (fo_M (by decide) kw_541 rfl rfl (fun _ => Or.inr ⟨rfl, rfl, rfl⟩)) (q_cons (fo_M (by decide) kw_542 rfl rfl (fun _ => Or.inr ⟨rfl, rfl, rfl⟩)) (q_cons (fo_M (by decide) kw_543 rfl rfl (fun _ => Or.inr ⟨rfl, rfl, rfl⟩)) (q_cons (fo_M (by decide) kw_544 rfl rfl (fun _ => Or.inr ⟨rfl, rfl, rfl⟩)) (q_cons (fo_M (by decide) kw_514 rfl rfl (fun _ => Or.inl rfl)) (q_cons (fo_M (by decide) kw_515 rfl rfl (fun _ => Or.inl rfl)) (q_cons (fo_M (by decide) kw_516 rfl rfl (fun _ => Or.inl rfl)) (q_cons (fo_M (by decide) kw_533 rfl rfl (fun _ => Or.inl rfl)) (q_cons (fo_M (by decide) kw_528 rfl rfl (fun _ => Or.inl rfl)) (q_cons (fo_M (by decide) kw_529 rfl rfl (fun _ => Or.inl rfl)) (q_cons (fo_M (by decide) kw_545 rfl rfl (fun _ => Or.inl rfl)) (q_cons (fo_M (by decide) kw_546 rfl rfl (fun _ => Or.inl rfl)) (q_cons (fo_M (by decide) kw_547 rfl rfl (fun _ => Or.inl rfl)) (q_nil))))))))))))))))))))))))))))))))))) (n, ci, k, ty, wr) (q_as_in h)
def lc_M : List (Nat × Int32) := [(144, 1000000)]
theorem lc_M_ok {c : Cond} : ∀ n v, q_as lc_M n = some v → Jvm.Cond.constant "SpellPitchModel" n v ∈ c :: aW := fun n v h => (show ∀ q ∈ lc_M, Jvm.Cond.constant "SpellPitchModel" q.1 q.2 ∈ c :: aW from q_cons (aW_in kw_715) (q_nil)) (n, v) (q_as_in h)
def nw_M : List (Nat × (Nat × Nat × List Value)) := []
theorem nw_M_ok {c : Cond} : ∀ n ci N fs, q_as nw_M n = some (ci, N, fs) → q_NwOK "SpellPitchModel" (c :: aW) cls5 n ci N fs := fun n ci N fs h => (show ∀ q ∈ nw_M, q_NwOK "SpellPitchModel" (c :: aW) cls5 q.1 q.2.1 q.2.2.1 q.2.2.2 from q_nil) (n, ci, N, fs) (q_as_in h)
def fl_J : List (Nat × (Nat × Nat × FieldType × Bool)) := []
theorem fl_J_ok {c : Cond} : ∀ n ci k ty wr, q_as fl_J n = some (ci, k, ty, wr) → q_FldOK false "java/lang/Math" (c :: aW) cls5 n ci k ty wr := fun n ci k ty wr h => (show ∀ q ∈ fl_J, q_FldOK false "java/lang/Math" (c :: aW) cls5 q.1 q.2.1 q.2.2.1 q.2.2.2.1 q.2.2.2.2 from q_nil) (n, ci, k, ty, wr) (q_as_in h)
def lc_J : List (Nat × Int32) := []
theorem lc_J_ok {c : Cond} : ∀ n v, q_as lc_J n = some v → Jvm.Cond.constant "java/lang/Math" n v ∈ c :: aW := fun n v h => (show ∀ q ∈ lc_J, Jvm.Cond.constant "java/lang/Math" q.1 q.2 ∈ c :: aW from q_nil) (n, v) (q_as_in h)
def nw_J : List (Nat × (Nat × Nat × List Value)) := []
theorem nw_J_ok {c : Cond} : ∀ n ci N fs, q_as nw_J n = some (ci, N, fs) → q_NwOK "java/lang/Math" (c :: aW) cls5 n ci N fs := fun n ci N fs h => (show ∀ q ∈ nw_J, q_NwOK "java/lang/Math" (c :: aW) cls5 q.1 q.2.1 q.2.2.1 q.2.2.2 from q_nil) (n, ci, N, fs) (q_as_in h)
end
section
def c_M_init : q_C := [(23, [(0, .aload_n 0), (1, .invokespecial 1), (4, .aload_n 0), (5, .bipush 18), (7, .newarray .int), (9, .putfield 7), (12, .aload_n 0), (13, .bipush 18), (15, .newarray .int), (17, .putfield 13), (20, .aload_n 0), (21, .bipush 18)]), (47, [(23, .newarray .int), (25, .putfield 16), (28, .aload_n 0), (29, .bipush 18), (31, .newarray .int), (33, .putfield 19), (36, .aload_n 0), (37, .bipush 18), (39, .newarray .int), (41, .putfield 22), (44, .aload_n 0), (45, .bipush 18)]), (68, [(47, .newarray .int), (49, .putfield 25), (52, .aload_n 0), (53, .iconst 2), (54, .putfield 28), (57, .aload_n 0), (58, .iconst 4), (59, .putfield 32), (62, .aload_n 0), (63, .iconst 2), (64, .putfield 35), (67, .aload_n 0)]), (90, [(68, .iconst 3), (69, .putfield 38), (72, .aload_n 0), (73, .iconst 5), (74, .putfield 41), (77, .aload_n 0), (78, .bipush 81), (80, .newarray .int), (82, .putfield 44), (85, .aload_n 0), (86, .bipush 81), (88, .newarray .int)]), (117, [(90, .putfield 47), (93, .aload_n 0), (94, .sipush 729), (97, .newarray .int), (99, .putfield 50), (102, .aload_n 0), (103, .sipush 405), (106, .newarray .int), (108, .putfield 53), (111, .aload_n 0), (112, .sipush 405), (115, .newarray .int)]), (144, [(117, .putfield 56), (120, .aload_n 0), (121, .sipush 405), (124, .newarray .int), (126, .putfield 59), (129, .aload_n 0), (130, .sipush 405), (133, .newarray .int), (135, .putfield 62), (138, .aload_n 0), (139, .sipush 405), (142, .newarray .int)]), (171, [(144, .putfield 65), (147, .aload_n 0), (148, .sipush 405), (151, .newarray .int), (153, .putfield 68), (156, .aload_n 0), (157, .sipush 405), (160, .newarray .int), (162, .putfield 71), (165, .aload_n 0), (166, .sipush 405), (169, .newarray .int)]), (196, [(171, .putfield 74), (174, .aload_n 0), (175, .sipush 7290), (178, .newarray .int), (180, .putfield 77), (183, .aload_n 0), (184, .bipush 18), (186, .newarray .int), (188, .putfield 80), (191, .aload_n 0), (192, .bipush 18), (194, .newarray .int)]), (203, [(196, .putfield 83), (199, .return_)])]
theorem ct_M_init : c_M_init.all (fun x => x.2.all (q_dec prog_6_method_1_code)) = true := by decide +kernel
def rm_M_init : Room := { frames := 1, cells := 20, slots := 11565, locals := 20 }
def kV_M_init (cI : ClassId) (tv : Nat) : List (Nat × (Nat × Nat × Nat × q_T)) := []
def kI_M_init (cI : ClassId) (tv : Nat) : List (Nat × (Nat × Nat × Nat × q_T)) := [(1, 1, 0, 0, q_obj)]
def kS_M_init (cI : ClassId) (tv : Nat) : List (Nat × (Nat × Nat × Nat × q_T)) := []
def F_M_init (cI : ClassId) (tv : Nat) : q_K → q_G → q_G := q_F c_M_init (q_as fi_M) (q_as []) (q_as lc_M) (q_cal (kV_M_init cI tv) (kI_M_init cI tv) (kS_M_init cI tv)) (q_as nw_M) cI (q_tb tv) 1 20 11565 (none)
def T_M_init (cI : ClassId) (tv : Nat) : q_T := fun as w K => (lg_sl as).length ≤ 1 ∧ q_wp (F_M_init cI tv) as w K
theorem M_M_init (l : Launch) (D : va_G) (cI : ClassId) (tv : Nat) : q_Met l y_M_init (Cond.code y_M_init prog_6_method_1_code 1 (none) :: aW) rm_M_init D cls5 [(cI, .int)] (qSt tv) (T_M_init cI tv) := q_contract (cc := prog_6_method_1_code) (nL := 1) (own := "SpellPitchModel") (ini := true) (by decide +kernel) rfl rfl (fun _ => rfl) ⟨ct_M_init, fi_M_ok, (fun n v h => by cases h), lc_M_ok, q_tb_ok tv, q_cal_ok (q_nil) (q_cons (q_callO (aW_in kw_513) (aW_in kw_18) (aW_in kw_19) ⟨by decide, by decide⟩) (q_nil)) (q_nil), nw_M_ok, Or.inr (aW_in kw_75)⟩
def c_M_thrown : q_C := [(8, [(0, .aload_n 0), (1, .getfield 86), (4, .ireturn)])]
theorem ct_M_thrown : c_M_thrown.all (fun x => x.2.all (q_dec prog_6_method_2_code)) = true := by decide +kernel
def rm_M_thrown : Room := { frames := 0, cells := 0, slots := 0, locals := 0 }
def kV_M_thrown (cI : ClassId) (tv : Nat) : List (Nat × (Nat × Nat × Nat × q_T)) := []
def kI_M_thrown (cI : ClassId) (tv : Nat) : List (Nat × (Nat × Nat × Nat × q_T)) := []
def kS_M_thrown (cI : ClassId) (tv : Nat) : List (Nat × (Nat × Nat × Nat × q_T)) := []
def F_M_thrown (cI : ClassId) (tv : Nat) : q_K → q_G → q_G := q_F c_M_thrown (q_as fl_M) (q_as []) (q_as lc_M) (q_cal (kV_M_thrown cI tv) (kI_M_thrown cI tv) (kS_M_thrown cI tv)) (q_as nw_M) cI (q_tb tv) 1 0 0 (some FieldType.int)
def T_M_thrown (cI : ClassId) (tv : Nat) : q_T := fun as w K => (lg_sl as).length ≤ 1 ∧ q_wp (F_M_thrown cI tv) as w K
theorem M_M_thrown (l : Launch) (D : va_G) (cI : ClassId) (tv : Nat) : q_Met l y_M_thrown (Cond.code y_M_thrown prog_6_method_2_code 1 (some FieldType.int) :: aW) rm_M_thrown D cls5 [(cI, .int)] (qSt tv) (T_M_thrown cI tv) := q_contract (cc := prog_6_method_2_code) (nL := 1) (own := "SpellPitchModel") (ini := false) (by decide +kernel) rfl rfl (nofun) ⟨ct_M_thrown, fl_M_ok, (fun n v h => by cases h), lc_M_ok, q_tb_ok tv, q_cal_ok (q_nil) (q_nil) (q_nil), nw_M_ok, Or.inl (by decide +kernel)⟩
def c_M_isSound : q_C := [(21, [(0, .iload_n 1), (1, .ifCond .lt 15), (4, .iload_n 1), (5, .aload_n 0), (6, .getfield 89), (9, .if_icmp .ge 7), (12, .iconst 1), (13, .goto 4), (16, .iconst 0), (17, .ireturn)])]
theorem ct_M_isSound : c_M_isSound.all (fun x => x.2.all (q_dec prog_6_method_3_code)) = true := by decide +kernel
def rm_M_isSound : Room := { frames := 0, cells := 0, slots := 0, locals := 0 }
def kV_M_isSound (cI : ClassId) (tv : Nat) : List (Nat × (Nat × Nat × Nat × q_T)) := []
def kI_M_isSound (cI : ClassId) (tv : Nat) : List (Nat × (Nat × Nat × Nat × q_T)) := []
def kS_M_isSound (cI : ClassId) (tv : Nat) : List (Nat × (Nat × Nat × Nat × q_T)) := []
def F_M_isSound (cI : ClassId) (tv : Nat) : q_K → q_G → q_G := q_F c_M_isSound (q_as fl_M) (q_as []) (q_as lc_M) (q_cal (kV_M_isSound cI tv) (kI_M_isSound cI tv) (kS_M_isSound cI tv)) (q_as nw_M) cI (q_tb tv) 2 0 0 (some FieldType.boolean)
def T_M_isSound (cI : ClassId) (tv : Nat) : q_T := fun as w K => (lg_sl as).length ≤ 2 ∧ q_wp (F_M_isSound cI tv) as w K
theorem M_M_isSound (l : Launch) (D : va_G) (cI : ClassId) (tv : Nat) : q_Met l y_M_isSound (Cond.code y_M_isSound prog_6_method_3_code 2 (some FieldType.boolean) :: aW) rm_M_isSound D cls5 [(cI, .int)] (qSt tv) (T_M_isSound cI tv) := q_contract (cc := prog_6_method_3_code) (nL := 2) (own := "SpellPitchModel") (ini := false) (by decide +kernel) rfl rfl (nofun) ⟨ct_M_isSound, fl_M_ok, (fun n v h => by cases h), lc_M_ok, q_tb_ok tv, q_cal_ok (q_nil) (q_nil) (q_nil), nw_M_ok, Or.inl (by decide +kernel)⟩
def c_M_pitch : q_C := [(22, [(0, .aload_n 0), (1, .iconst 0), (2, .putfield 86), (5, .iload_n 1), (6, .ifCond .lt 9), (9, .iload_n 1), (10, .bipush 127), (12, .if_icmp .le 6), (15, .bipush (-2)), (17, .ireturn), (18, .iload_n 2), (19, .ifCond .eq 28)]), (44, [(22, .aload_n 0), (23, .getfield 89), (26, .ifCond .eq 18), (29, .aload_n 0), (30, .getfield 22), (33, .aload_n 0), (34, .getfield 92), (37, .iconst 1), (38, .isub), (39, .iaload), (40, .iconst 3), (41, .if_icmp .ne 6)]), (67, [(44, .bipush (-3)), (46, .ireturn), (47, .aload_n 0), (48, .getfield 89), (51, .bipush 18), (53, .if_icmp .ne 6), (56, .bipush (-4)), (58, .ireturn), (59, .iload_n 2), (60, .ifCond .ne 47), (63, .aload_n 0), (64, .getfield 19)]), (87, [(67, .aload_n 0), (68, .getfield 92), (71, .aload_n 0), (72, .getfield 89), (75, .iastore), (76, .aload_n 0), (77, .getfield 22), (80, .aload_n 0), (81, .getfield 92), (84, .iconst 0), (85, .iastore), (86, .aload_n 0)]), (108, [(87, .getfield 25), (90, .aload_n 0), (91, .getfield 92), (94, .bipush 15), (96, .iastore), (97, .aload_n 0), (98, .dup), (99, .getfield 92), (102, .iconst 1), (103, .iadd), (104, .putfield 92), (107, .aload_n 0)]), (126, [(108, .getfield 22), (111, .aload_n 0), (112, .getfield 92), (115, .iconst 1), (116, .isub), (117, .dup2), (118, .iaload), (119, .iconst 1), (120, .iadd), (121, .iastore), (122, .aload_n 0), (123, .getfield 7)]), (146, [(126, .aload_n 0), (127, .getfield 89), (130, .iload_n 1), (131, .iastore), (132, .aload_n 0), (133, .getfield 13), (136, .aload_n 0), (137, .getfield 89), (140, .aload_n 0), (141, .getfield 92), (144, .iconst 1), (145, .isub)]), (165, [(146, .iastore), (147, .aload_n 0), (148, .getfield 16), (151, .aload_n 0), (152, .getfield 89), (155, .bipush 35), (157, .iastore), (158, .aload_n 0), (159, .dup), (160, .getfield 89), (163, .iconst 1), (164, .iadd)]), (183, [(165, .putfield 89), (168, .aload_n 0), (169, .iconst 0), (170, .putfield 95), (173, .aload_n 0), (174, .getfield 89), (177, .iconst 1), (178, .isub), (179, .ireturn)])]
theorem ct_M_pitch : c_M_pitch.all (fun x => x.2.all (q_dec prog_6_method_4_code)) = true := by decide +kernel
def rm_M_pitch : Room := { frames := 0, cells := 0, slots := 0, locals := 0 }
def kV_M_pitch (cI : ClassId) (tv : Nat) : List (Nat × (Nat × Nat × Nat × q_T)) := []
def kI_M_pitch (cI : ClassId) (tv : Nat) : List (Nat × (Nat × Nat × Nat × q_T)) := []
def kS_M_pitch (cI : ClassId) (tv : Nat) : List (Nat × (Nat × Nat × Nat × q_T)) := []
def F_M_pitch (cI : ClassId) (tv : Nat) : q_K → q_G → q_G := q_F c_M_pitch (q_as fl_M) (q_as []) (q_as lc_M) (q_cal (kV_M_pitch cI tv) (kI_M_pitch cI tv) (kS_M_pitch cI tv)) (q_as nw_M) cI (q_tb tv) 3 0 0 (some FieldType.int)
def T_M_pitch (cI : ClassId) (tv : Nat) : q_T := fun as w K => (lg_sl as).length ≤ 3 ∧ q_wp (F_M_pitch cI tv) as w K
theorem M_M_pitch (l : Launch) (D : va_G) (cI : ClassId) (tv : Nat) : q_Met l y_M_pitch (Cond.code y_M_pitch prog_6_method_4_code 3 (some FieldType.int) :: aW) rm_M_pitch D cls5 [(cI, .int)] (qSt tv) (T_M_pitch cI tv) := q_contract (cc := prog_6_method_4_code) (nL := 3) (own := "SpellPitchModel") (ini := false) (by decide +kernel) rfl rfl (nofun) ⟨ct_M_pitch, fl_M_ok, (fun n v h => by cases h), lc_M_ok, q_tb_ok tv, q_cal_ok (q_nil) (q_nil) (q_nil), nw_M_ok, Or.inl (by decide +kernel)⟩
def c_M_key : q_C := [(20, [(0, .aload_n 0), (1, .iconst 0), (2, .putfield 86), (5, .aload_n 0), (6, .iload_n 1), (7, .invokevirtual 99), (10, .ifCond .ne 5), (13, .iconst (-1)), (14, .ireturn), (15, .iload_n 2), (16, .ifCond .lt 9), (19, .iload_n 2)]), (40, [(20, .bipush 15), (22, .if_icmp .le 6), (25, .bipush (-2)), (27, .ireturn), (28, .aload_n 0), (29, .getfield 13), (32, .iload_n 1), (33, .iaload), (34, .istore_n 3), (35, .aload_n 0), (36, .getfield 25), (39, .iload_n 3)]), (61, [(40, .iaload), (41, .istore 4), (43, .aload_n 0), (44, .getfield 25), (47, .iload_n 3), (48, .iload_n 2), (49, .iastore), (50, .aload_n 0), (51, .iconst 0), (52, .putfield 95), (55, .iload 4), (57, .ireturn)])]
theorem ct_M_key : c_M_key.all (fun x => x.2.all (q_dec prog_6_method_5_code)) = true := by decide +kernel
def rm_M_key : Room := { frames := 1, cells := 0, slots := 0, locals := 21 }
def kV_M_key (cI : ClassId) (tv : Nat) : List (Nat × (Nat × Nat × Nat × q_T)) := [(99, 2, 0, 0, q_V 4 (T_M_isSound cI tv))]
def kI_M_key (cI : ClassId) (tv : Nat) : List (Nat × (Nat × Nat × Nat × q_T)) := []
def kS_M_key (cI : ClassId) (tv : Nat) : List (Nat × (Nat × Nat × Nat × q_T)) := []
def F_M_key (cI : ClassId) (tv : Nat) : q_K → q_G → q_G := q_F c_M_key (q_as fl_M) (q_as []) (q_as lc_M) (q_cal (kV_M_key cI tv) (kI_M_key cI tv) (kS_M_key cI tv)) (q_as nw_M) cI (q_tb tv) 5 0 0 (some FieldType.int)
def T_M_key (cI : ClassId) (tv : Nat) : q_T := fun as w K => (lg_sl as).length ≤ 5 ∧ q_wp (F_M_key cI tv) as w K
theorem M_M_key (l : Launch) (D : va_G) (cI : ClassId) (tv : Nat) : q_Met l y_M_key (Cond.code y_M_key prog_6_method_5_code 5 (some FieldType.int) :: aW) rm_M_key D cls5 [(cI, .int)] (qSt tv) (T_M_key cI tv) := q_contract (cc := prog_6_method_5_code) (nL := 5) (own := "SpellPitchModel") (ini := false) (by decide +kernel) rfl rfl (nofun) ⟨ct_M_key, fl_M_ok, (fun n v h => by cases h), lc_M_ok, q_tb_ok tv, q_cal_ok (q_cons (q_callV (k := 1) (T' := tt_M) (qStOK tv) (M_M_isSound l D cI tv) (gV kw_629 kw_631 ks_21 kw_5 kw_632) rfl (by decide +kernel) ⟨by decide, by decide⟩ rfl) (q_nil)) (q_nil) (q_nil), nw_M_ok, Or.inl (by decide +kernel)⟩
def c_M_soundsAs : q_C := [(19, [(0, .bipush 7), (2, .iload_n 0), (3, .bipush 15), (5, .isub), (6, .imul), (7, .iload_n 1), (8, .isub), (9, .bipush 12), (11, .irem), (12, .ifCond .ne 7), (15, .iconst 1), (16, .goto 4)]), (24, [(19, .iconst 0), (20, .ireturn)])]
theorem ct_M_soundsAs : c_M_soundsAs.all (fun x => x.2.all (q_dec prog_6_method_6_code)) = true := by decide +kernel
def rm_M_soundsAs : Room := { frames := 0, cells := 0, slots := 0, locals := 0 }
def kV_M_soundsAs (cI : ClassId) (tv : Nat) : List (Nat × (Nat × Nat × Nat × q_T)) := []
def kI_M_soundsAs (cI : ClassId) (tv : Nat) : List (Nat × (Nat × Nat × Nat × q_T)) := []
def kS_M_soundsAs (cI : ClassId) (tv : Nat) : List (Nat × (Nat × Nat × Nat × q_T)) := []
def F_M_soundsAs (cI : ClassId) (tv : Nat) : q_K → q_G → q_G := q_F c_M_soundsAs (q_as fl_M) (q_as []) (q_as lc_M) (q_cal (kV_M_soundsAs cI tv) (kI_M_soundsAs cI tv) (kS_M_soundsAs cI tv)) (q_as nw_M) cI (q_tb tv) 2 0 0 (some FieldType.boolean)
def T_M_soundsAs (cI : ClassId) (tv : Nat) : q_T := fun as w K => (lg_sl as).length ≤ 2 ∧ q_wp (F_M_soundsAs cI tv) as w K
theorem M_M_soundsAs (l : Launch) (D : va_G) (cI : ClassId) (tv : Nat) : q_Met l y_M_soundsAs (Cond.code y_M_soundsAs prog_6_method_6_code 2 (some FieldType.boolean) :: aW) rm_M_soundsAs D cls5 [(cI, .int)] (qSt tv) (T_M_soundsAs cI tv) := q_contract (cc := prog_6_method_6_code) (nL := 2) (own := "SpellPitchModel") (ini := false) (by decide +kernel) rfl rfl (nofun) ⟨ct_M_soundsAs, fl_M_ok, (fun n v h => by cases h), lc_M_ok, q_tb_ok tv, q_cal_ok (q_nil) (q_nil) (q_nil), nw_M_ok, Or.inl (by decide +kernel)⟩
def c_M_fix : q_C := [(20, [(0, .aload_n 0), (1, .iconst 0), (2, .putfield 86), (5, .aload_n 0), (6, .iload_n 1), (7, .invokevirtual 99), (10, .ifCond .ne 5), (13, .iconst (-1)), (14, .ireturn), (15, .iload_n 2), (16, .ifCond .lt 28), (19, .iload_n 2)]), (44, [(20, .bipush 35), (22, .if_icmp .gt 22), (25, .iload_n 2), (26, .bipush 35), (28, .if_icmp .ge 19), (31, .iload_n 2), (32, .aload_n 0), (33, .getfield 7), (36, .iload_n 1), (37, .iaload), (38, .invokestatic 103), (41, .ifCond .ne 6)]), (61, [(44, .bipush (-2)), (46, .ireturn), (47, .aload_n 0), (48, .getfield 16), (51, .iload_n 1), (52, .iaload), (53, .istore_n 3), (54, .aload_n 0), (55, .getfield 16), (58, .iload_n 1), (59, .iload_n 2), (60, .iastore)]), (71, [(61, .aload_n 0), (62, .iconst 0), (63, .putfield 95), (66, .iload_n 3), (67, .ireturn)])]
theorem ct_M_fix : c_M_fix.all (fun x => x.2.all (q_dec prog_6_method_7_code)) = true := by decide +kernel
def rm_M_fix : Room := { frames := 1, cells := 0, slots := 0, locals := 21 }
def kV_M_fix (cI : ClassId) (tv : Nat) : List (Nat × (Nat × Nat × Nat × q_T)) := [(99, 2, 0, 0, q_V 4 (T_M_isSound cI tv))]
def kI_M_fix (cI : ClassId) (tv : Nat) : List (Nat × (Nat × Nat × Nat × q_T)) := []
def kS_M_fix (cI : ClassId) (tv : Nat) : List (Nat × (Nat × Nat × Nat × q_T)) := [(103, 2, 0, 0, T_M_soundsAs cI tv)]
def F_M_fix (cI : ClassId) (tv : Nat) : q_K → q_G → q_G := q_F c_M_fix (q_as fl_M) (q_as []) (q_as lc_M) (q_cal (kV_M_fix cI tv) (kI_M_fix cI tv) (kS_M_fix cI tv)) (q_as nw_M) cI (q_tb tv) 4 0 0 (some FieldType.int)
def T_M_fix (cI : ClassId) (tv : Nat) : q_T := fun as w K => (lg_sl as).length ≤ 4 ∧ q_wp (F_M_fix cI tv) as w K
theorem M_M_fix (l : Launch) (D : va_G) (cI : ClassId) (tv : Nat) : q_Met l y_M_fix (Cond.code y_M_fix prog_6_method_7_code 4 (some FieldType.int) :: aW) rm_M_fix D cls5 [(cI, .int)] (qSt tv) (T_M_fix cI tv) := q_contract (cc := prog_6_method_7_code) (nL := 4) (own := "SpellPitchModel") (ini := false) (by decide +kernel) rfl rfl (nofun) ⟨ct_M_fix, fl_M_ok, (fun n v h => by cases h), lc_M_ok, q_tb_ok tv, q_cal_ok (q_cons (q_callV (k := 1) (T' := tt_M) (qStOK tv) (M_M_isSound l D cI tv) (gV kw_629 kw_631 ks_21 kw_5 kw_632) rfl (by decide +kernel) ⟨by decide, by decide⟩ rfl) (q_nil)) (q_nil) (q_cons (q_callS (k := 2) (qStOK tv) (M_M_soundsAs l D cI tv) (gS kw_637 kw_638 kw_5 kw_639) rfl (by decide +kernel) ⟨by decide, by decide⟩) (q_nil)), nw_M_ok, Or.inl (by decide +kernel)⟩
def c_M_isWeight : q_C := [(19, [(0, .iload_n 0), (1, .ifCond .lt 13), (4, .iload_n 0), (5, .bipush 20), (7, .if_icmp .gt 7), (10, .iconst 1), (11, .goto 4), (14, .iconst 0), (15, .ireturn)])]
theorem ct_M_isWeight : c_M_isWeight.all (fun x => x.2.all (q_dec prog_6_method_8_code)) = true := by decide +kernel
def rm_M_isWeight : Room := { frames := 0, cells := 0, slots := 0, locals := 0 }
def kV_M_isWeight (cI : ClassId) (tv : Nat) : List (Nat × (Nat × Nat × Nat × q_T)) := []
def kI_M_isWeight (cI : ClassId) (tv : Nat) : List (Nat × (Nat × Nat × Nat × q_T)) := []
def kS_M_isWeight (cI : ClassId) (tv : Nat) : List (Nat × (Nat × Nat × Nat × q_T)) := []
def F_M_isWeight (cI : ClassId) (tv : Nat) : q_K → q_G → q_G := q_F c_M_isWeight (q_as fl_M) (q_as []) (q_as lc_M) (q_cal (kV_M_isWeight cI tv) (kI_M_isWeight cI tv) (kS_M_isWeight cI tv)) (q_as nw_M) cI (q_tb tv) 1 0 0 (some FieldType.boolean)
def T_M_isWeight (cI : ClassId) (tv : Nat) : q_T := fun as w K => (lg_sl as).length ≤ 1 ∧ q_wp (F_M_isWeight cI tv) as w K
theorem M_M_isWeight (l : Launch) (D : va_G) (cI : ClassId) (tv : Nat) : q_Met l y_M_isWeight (Cond.code y_M_isWeight prog_6_method_8_code 1 (some FieldType.boolean) :: aW) rm_M_isWeight D cls5 [(cI, .int)] (qSt tv) (T_M_isWeight cI tv) := q_contract (cc := prog_6_method_8_code) (nL := 1) (own := "SpellPitchModel") (ini := false) (by decide +kernel) rfl rfl (nofun) ⟨ct_M_isWeight, fl_M_ok, (fun n v h => by cases h), lc_M_ok, q_tb_ok tv, q_cal_ok (q_nil) (q_nil) (q_nil), nw_M_ok, Or.inl (by decide +kernel)⟩
def c_M_weights : q_C := [(26, [(0, .aload_n 0), (1, .iconst 0), (2, .putfield 86), (5, .iload_n 1), (6, .invokestatic 107), (9, .ifCond .eq 33), (12, .iload_n 2), (13, .invokestatic 107), (16, .ifCond .eq 26), (19, .iload_n 3), (20, .invokestatic 107), (23, .ifCond .eq 19)]), (51, [(26, .iload 4), (28, .invokestatic 107), (31, .ifCond .eq 11), (34, .iload 5), (36, .invokestatic 107), (39, .ifCond .ne 6), (42, .bipush (-2)), (44, .ireturn), (45, .aload_n 0), (46, .iload_n 1), (47, .putfield 28), (50, .aload_n 0)]), (73, [(51, .iload_n 2), (52, .putfield 32), (55, .aload_n 0), (56, .iload_n 3), (57, .putfield 35), (60, .aload_n 0), (61, .iload 4), (63, .putfield 38), (66, .aload_n 0), (67, .iload 5), (69, .putfield 41), (72, .aload_n 0)]), (82, [(73, .iconst 0), (74, .putfield 95), (77, .iconst 1), (78, .ireturn)])]
theorem ct_M_weights : c_M_weights.all (fun x => x.2.all (q_dec prog_6_method_9_code)) = true := by decide +kernel
def rm_M_weights : Room := { frames := 1, cells := 0, slots := 0, locals := 20 }
def kV_M_weights (cI : ClassId) (tv : Nat) : List (Nat × (Nat × Nat × Nat × q_T)) := []
def kI_M_weights (cI : ClassId) (tv : Nat) : List (Nat × (Nat × Nat × Nat × q_T)) := []
def kS_M_weights (cI : ClassId) (tv : Nat) : List (Nat × (Nat × Nat × Nat × q_T)) := [(107, 1, 0, 0, T_M_isWeight cI tv)]
def F_M_weights (cI : ClassId) (tv : Nat) : q_K → q_G → q_G := q_F c_M_weights (q_as fl_M) (q_as []) (q_as lc_M) (q_cal (kV_M_weights cI tv) (kI_M_weights cI tv) (kS_M_weights cI tv)) (q_as nw_M) cI (q_tb tv) 6 0 0 (some FieldType.int)
def T_M_weights (cI : ClassId) (tv : Nat) : q_T := fun as w K => (lg_sl as).length ≤ 6 ∧ q_wp (F_M_weights cI tv) as w K
theorem M_M_weights (l : Launch) (D : va_G) (cI : ClassId) (tv : Nat) : q_Met l y_M_weights (Cond.code y_M_weights prog_6_method_9_code 6 (some FieldType.int) :: aW) rm_M_weights D cls5 [(cI, .int)] (qSt tv) (T_M_weights cI tv) := q_contract (cc := prog_6_method_9_code) (nL := 6) (own := "SpellPitchModel") (ini := false) (by decide +kernel) rfl rfl (nofun) ⟨ct_M_weights, fl_M_ok, (fun n v h => by cases h), lc_M_ok, q_tb_ok tv, q_cal_ok (q_nil) (q_nil) (q_cons (q_callS (k := 1) (qStOK tv) (M_M_isWeight l D cI tv) (gS kw_644 kw_645 kw_5 kw_646) rfl (by decide +kernel) ⟨by decide, by decide⟩) (q_nil)), nw_M_ok, Or.inl (by decide +kernel)⟩
def c_M_clear : q_C := [(20, [(0, .aload_n 0), (1, .iconst 0), (2, .putfield 86), (5, .aload_n 0), (6, .getfield 89), (9, .istore_n 1), (10, .aload_n 0), (11, .iconst 0), (12, .putfield 89), (15, .aload_n 0), (16, .iconst 0), (17, .putfield 92)]), (30, [(20, .aload_n 0), (21, .iconst 0), (22, .putfield 95), (25, .iload_n 1), (26, .ireturn)])]
theorem ct_M_clear : c_M_clear.all (fun x => x.2.all (q_dec prog_6_method_10_code)) = true := by decide +kernel
def rm_M_clear : Room := { frames := 0, cells := 0, slots := 0, locals := 0 }
def kV_M_clear (cI : ClassId) (tv : Nat) : List (Nat × (Nat × Nat × Nat × q_T)) := []
def kI_M_clear (cI : ClassId) (tv : Nat) : List (Nat × (Nat × Nat × Nat × q_T)) := []
def kS_M_clear (cI : ClassId) (tv : Nat) : List (Nat × (Nat × Nat × Nat × q_T)) := []
def F_M_clear (cI : ClassId) (tv : Nat) : q_K → q_G → q_G := q_F c_M_clear (q_as fl_M) (q_as []) (q_as lc_M) (q_cal (kV_M_clear cI tv) (kI_M_clear cI tv) (kS_M_clear cI tv)) (q_as nw_M) cI (q_tb tv) 2 0 0 (some FieldType.int)
def T_M_clear (cI : ClassId) (tv : Nat) : q_T := fun as w K => (lg_sl as).length ≤ 2 ∧ q_wp (F_M_clear cI tv) as w K
theorem M_M_clear (l : Launch) (D : va_G) (cI : ClassId) (tv : Nat) : q_Met l y_M_clear (Cond.code y_M_clear prog_6_method_10_code 2 (some FieldType.int) :: aW) rm_M_clear D cls5 [(cI, .int)] (qSt tv) (T_M_clear cI tv) := q_contract (cc := prog_6_method_10_code) (nL := 2) (own := "SpellPitchModel") (ini := false) (by decide +kernel) rfl rfl (nofun) ⟨ct_M_clear, fl_M_ok, (fun n v h => by cases h), lc_M_ok, q_tb_ok tv, q_cal_ok (q_nil) (q_nil) (q_nil), nw_M_ok, Or.inl (by decide +kernel)⟩
def c_M_modulo : q_C := [(19, [(0, .iload_n 0), (1, .iload_n 1), (2, .irem), (3, .istore_n 2), (4, .iload_n 2), (5, .ifCond .ge 9), (8, .iload_n 2), (9, .iload_n 1), (10, .iadd), (11, .goto 4), (14, .iload_n 2), (15, .ireturn)])]
theorem ct_M_modulo : c_M_modulo.all (fun x => x.2.all (q_dec prog_6_method_11_code)) = true := by decide +kernel
def rm_M_modulo : Room := { frames := 0, cells := 0, slots := 0, locals := 0 }
def kV_M_modulo (cI : ClassId) (tv : Nat) : List (Nat × (Nat × Nat × Nat × q_T)) := []
def kI_M_modulo (cI : ClassId) (tv : Nat) : List (Nat × (Nat × Nat × Nat × q_T)) := []
def kS_M_modulo (cI : ClassId) (tv : Nat) : List (Nat × (Nat × Nat × Nat × q_T)) := []
def F_M_modulo (cI : ClassId) (tv : Nat) : q_K → q_G → q_G := q_F c_M_modulo (q_as fl_M) (q_as []) (q_as lc_M) (q_cal (kV_M_modulo cI tv) (kI_M_modulo cI tv) (kS_M_modulo cI tv)) (q_as nw_M) cI (q_tb tv) 3 0 0 (some FieldType.int)
def T_M_modulo (cI : ClassId) (tv : Nat) : q_T := fun as w K => (lg_sl as).length ≤ 3 ∧ q_wp (F_M_modulo cI tv) as w K
theorem M_M_modulo (l : Launch) (D : va_G) (cI : ClassId) (tv : Nat) : q_Met l y_M_modulo (Cond.code y_M_modulo prog_6_method_11_code 3 (some FieldType.int) :: aW) rm_M_modulo D cls5 [(cI, .int)] (qSt tv) (T_M_modulo cI tv) := q_contract (cc := prog_6_method_11_code) (nL := 3) (own := "SpellPitchModel") (ini := false) (by decide +kernel) rfl rfl (nofun) ⟨ct_M_modulo, fl_M_ok, (fun n v h => by cases h), lc_M_ok, q_tb_ok tv, q_cal_ok (q_nil) (q_nil) (q_nil), nw_M_ok, Or.inl (by decide +kernel)⟩
def c_M_letterOf : q_C := [(15, [(0, .iconst 4), (1, .iload_n 0), (2, .bipush 15), (4, .isub), (5, .imul), (6, .bipush 7), (8, .invokestatic 110), (11, .ireturn)])]
theorem ct_M_letterOf : c_M_letterOf.all (fun x => x.2.all (q_dec prog_6_method_12_code)) = true := by decide +kernel
def rm_M_letterOf : Room := { frames := 1, cells := 0, slots := 0, locals := 22 }
def kV_M_letterOf (cI : ClassId) (tv : Nat) : List (Nat × (Nat × Nat × Nat × q_T)) := []
def kI_M_letterOf (cI : ClassId) (tv : Nat) : List (Nat × (Nat × Nat × Nat × q_T)) := []
def kS_M_letterOf (cI : ClassId) (tv : Nat) : List (Nat × (Nat × Nat × Nat × q_T)) := [(110, 2, 0, 0, T_M_modulo cI tv)]
def F_M_letterOf (cI : ClassId) (tv : Nat) : q_K → q_G → q_G := q_F c_M_letterOf (q_as fl_M) (q_as []) (q_as lc_M) (q_cal (kV_M_letterOf cI tv) (kI_M_letterOf cI tv) (kS_M_letterOf cI tv)) (q_as nw_M) cI (q_tb tv) 1 0 0 (some FieldType.int)
def T_M_letterOf (cI : ClassId) (tv : Nat) : q_T := fun as w K => (lg_sl as).length ≤ 1 ∧ q_wp (F_M_letterOf cI tv) as w K
theorem M_M_letterOf (l : Launch) (D : va_G) (cI : ClassId) (tv : Nat) : q_Met l y_M_letterOf (Cond.code y_M_letterOf prog_6_method_12_code 1 (some FieldType.int) :: aW) rm_M_letterOf D cls5 [(cI, .int)] (qSt tv) (T_M_letterOf cI tv) := q_contract (cc := prog_6_method_12_code) (nL := 1) (own := "SpellPitchModel") (ini := false) (by decide +kernel) rfl rfl (nofun) ⟨ct_M_letterOf, fl_M_ok, (fun n v h => by cases h), lc_M_ok, q_tb_ok tv, q_cal_ok (q_nil) (q_nil) (q_cons (q_callS (k := 2) (qStOK tv) (M_M_modulo l D cI tv) (gS kw_701 kw_702 kw_5 kw_703) rfl (by decide +kernel) ⟨by decide, by decide⟩) (q_nil)), nw_M_ok, Or.inl (by decide +kernel)⟩
def c_M_signsOf : q_C := [(10, [(0, .iload_n 0), (1, .bipush 7), (3, .idiv), (4, .iconst 2), (5, .isub), (6, .ireturn)])]
theorem ct_M_signsOf : c_M_signsOf.all (fun x => x.2.all (q_dec prog_6_method_13_code)) = true := by decide +kernel
def rm_M_signsOf : Room := { frames := 0, cells := 0, slots := 0, locals := 0 }
def kV_M_signsOf (cI : ClassId) (tv : Nat) : List (Nat × (Nat × Nat × Nat × q_T)) := []
def kI_M_signsOf (cI : ClassId) (tv : Nat) : List (Nat × (Nat × Nat × Nat × q_T)) := []
def kS_M_signsOf (cI : ClassId) (tv : Nat) : List (Nat × (Nat × Nat × Nat × q_T)) := []
def F_M_signsOf (cI : ClassId) (tv : Nat) : q_K → q_G → q_G := q_F c_M_signsOf (q_as fl_M) (q_as []) (q_as lc_M) (q_cal (kV_M_signsOf cI tv) (kI_M_signsOf cI tv) (kS_M_signsOf cI tv)) (q_as nw_M) cI (q_tb tv) 1 0 0 (some FieldType.int)
def T_M_signsOf (cI : ClassId) (tv : Nat) : q_T := fun as w K => (lg_sl as).length ≤ 1 ∧ q_wp (F_M_signsOf cI tv) as w K
theorem M_M_signsOf (l : Launch) (D : va_G) (cI : ClassId) (tv : Nat) : q_Met l y_M_signsOf (Cond.code y_M_signsOf prog_6_method_13_code 1 (some FieldType.int) :: aW) rm_M_signsOf D cls5 [(cI, .int)] (qSt tv) (T_M_signsOf cI tv) := q_contract (cc := prog_6_method_13_code) (nL := 1) (own := "SpellPitchModel") (ini := false) (by decide +kernel) rfl rfl (nofun) ⟨ct_M_signsOf, fl_M_ok, (fun n v h => by cases h), lc_M_ok, q_tb_ok tv, q_cal_ok (q_nil) (q_nil) (q_nil), nw_M_ok, Or.inl (by decide +kernel)⟩
def c_M_octaveOf : q_C := [(16, [(0, .iload_n 1), (1, .iload_n 0), (2, .invokestatic 114), (5, .isub), (6, .bipush 12), (8, .iadd), (9, .bipush 12), (11, .idiv), (12, .ireturn)])]
theorem ct_M_octaveOf : c_M_octaveOf.all (fun x => x.2.all (q_dec prog_6_method_14_code)) = true := by decide +kernel
def rm_M_octaveOf : Room := { frames := 1, cells := 0, slots := 0, locals := 20 }
def kV_M_octaveOf (cI : ClassId) (tv : Nat) : List (Nat × (Nat × Nat × Nat × q_T)) := []
def kI_M_octaveOf (cI : ClassId) (tv : Nat) : List (Nat × (Nat × Nat × Nat × q_T)) := []
def kS_M_octaveOf (cI : ClassId) (tv : Nat) : List (Nat × (Nat × Nat × Nat × q_T)) := [(114, 1, 0, 0, T_M_signsOf cI tv)]
def F_M_octaveOf (cI : ClassId) (tv : Nat) : q_K → q_G → q_G := q_F c_M_octaveOf (q_as fl_M) (q_as []) (q_as lc_M) (q_cal (kV_M_octaveOf cI tv) (kI_M_octaveOf cI tv) (kS_M_octaveOf cI tv)) (q_as nw_M) cI (q_tb tv) 2 0 0 (some FieldType.int)
def T_M_octaveOf (cI : ClassId) (tv : Nat) : q_T := fun as w K => (lg_sl as).length ≤ 2 ∧ q_wp (F_M_octaveOf cI tv) as w K
theorem M_M_octaveOf (l : Launch) (D : va_G) (cI : ClassId) (tv : Nat) : q_Met l y_M_octaveOf (Cond.code y_M_octaveOf prog_6_method_14_code 2 (some FieldType.int) :: aW) rm_M_octaveOf D cls5 [(cI, .int)] (qSt tv) (T_M_octaveOf cI tv) := q_contract (cc := prog_6_method_14_code) (nL := 2) (own := "SpellPitchModel") (ini := false) (by decide +kernel) rfl rfl (nofun) ⟨ct_M_octaveOf, fl_M_ok, (fun n v h => by cases h), lc_M_ok, q_tb_ok tv, q_cal_ok (q_nil) (q_nil) (q_cons (q_callS (k := 1) (qStOK tv) (M_M_signsOf l D cI tv) (gS kw_675 kw_676 kw_5 kw_677) rfl (by decide +kernel) ⟨by decide, by decide⟩) (q_nil)), nw_M_ok, Or.inl (by decide +kernel)⟩
def c_M_placeOf : q_C := [(17, [(0, .bipush 7), (2, .iload_n 0), (3, .iload_n 1), (4, .invokestatic 118), (7, .imul), (8, .iload_n 0), (9, .invokestatic 121), (12, .iadd), (13, .ireturn)])]
theorem ct_M_placeOf : c_M_placeOf.all (fun x => x.2.all (q_dec prog_6_method_15_code)) = true := by decide +kernel
def rm_M_placeOf : Room := { frames := 2, cells := 0, slots := 0, locals := 42 }
def kV_M_placeOf (cI : ClassId) (tv : Nat) : List (Nat × (Nat × Nat × Nat × q_T)) := []
def kI_M_placeOf (cI : ClassId) (tv : Nat) : List (Nat × (Nat × Nat × Nat × q_T)) := []
def kS_M_placeOf (cI : ClassId) (tv : Nat) : List (Nat × (Nat × Nat × Nat × q_T)) := [(118, 2, 0, 0, T_M_octaveOf cI tv), (121, 1, 0, 0, T_M_letterOf cI tv)]
def F_M_placeOf (cI : ClassId) (tv : Nat) : q_K → q_G → q_G := q_F c_M_placeOf (q_as fl_M) (q_as []) (q_as lc_M) (q_cal (kV_M_placeOf cI tv) (kI_M_placeOf cI tv) (kS_M_placeOf cI tv)) (q_as nw_M) cI (q_tb tv) 2 0 0 (some FieldType.int)
def T_M_placeOf (cI : ClassId) (tv : Nat) : q_T := fun as w K => (lg_sl as).length ≤ 2 ∧ q_wp (F_M_placeOf cI tv) as w K
theorem M_M_placeOf (l : Launch) (D : va_G) (cI : ClassId) (tv : Nat) : q_Met l y_M_placeOf (Cond.code y_M_placeOf prog_6_method_15_code 2 (some FieldType.int) :: aW) rm_M_placeOf D cls5 [(cI, .int)] (qSt tv) (T_M_placeOf cI tv) := q_contract (cc := prog_6_method_15_code) (nL := 2) (own := "SpellPitchModel") (ini := false) (by decide +kernel) rfl rfl (nofun) ⟨ct_M_placeOf, fl_M_ok, (fun n v h => by cases h), lc_M_ok, q_tb_ok tv, q_cal_ok (q_nil) (q_nil) (q_cons (q_callS (k := 2) (qStOK tv) (M_M_octaveOf l D cI tv) (gS kw_695 kw_696 kw_5 kw_697) rfl (by decide +kernel) ⟨by decide, by decide⟩) (q_cons (q_callS (k := 1) (qStOK tv) (M_M_letterOf l D cI tv) (gS kw_698 kw_699 kw_5 kw_700) rfl (by decide +kernel) ⟨by decide, by decide⟩) (q_nil))), nw_M_ok, Or.inl (by decide +kernel)⟩
def c_M_size : q_C := [(14, [(0, .iload_n 0), (1, .ifCond .ge 8), (4, .iload_n 0), (5, .ineg), (6, .goto 4), (9, .iload_n 0), (10, .ireturn)])]
theorem ct_M_size : c_M_size.all (fun x => x.2.all (q_dec prog_6_method_16_code)) = true := by decide +kernel
def rm_M_size : Room := { frames := 0, cells := 0, slots := 0, locals := 0 }
def kV_M_size (cI : ClassId) (tv : Nat) : List (Nat × (Nat × Nat × Nat × q_T)) := []
def kI_M_size (cI : ClassId) (tv : Nat) : List (Nat × (Nat × Nat × Nat × q_T)) := []
def kS_M_size (cI : ClassId) (tv : Nat) : List (Nat × (Nat × Nat × Nat × q_T)) := []
def F_M_size (cI : ClassId) (tv : Nat) : q_K → q_G → q_G := q_F c_M_size (q_as fl_M) (q_as []) (q_as lc_M) (q_cal (kV_M_size cI tv) (kI_M_size cI tv) (kS_M_size cI tv)) (q_as nw_M) cI (q_tb tv) 1 0 0 (some FieldType.int)
def T_M_size (cI : ClassId) (tv : Nat) : q_T := fun as w K => (lg_sl as).length ≤ 1 ∧ q_wp (F_M_size cI tv) as w K
theorem M_M_size (l : Launch) (D : va_G) (cI : ClassId) (tv : Nat) : q_Met l y_M_size (Cond.code y_M_size prog_6_method_16_code 1 (some FieldType.int) :: aW) rm_M_size D cls5 [(cI, .int)] (qSt tv) (T_M_size cI tv) := q_contract (cc := prog_6_method_16_code) (nL := 1) (own := "SpellPitchModel") (ini := false) (by decide +kernel) rfl rfl (nofun) ⟨ct_M_size, fl_M_ok, (fun n v h => by cases h), lc_M_ok, q_tb_ok tv, q_cal_ok (q_nil) (q_nil) (q_nil), nw_M_ok, Or.inl (by decide +kernel)⟩
def c_M_nameIn : q_C := [(19, [(0, .iload_n 3), (1, .ifCond .ne 10), (4, .iload_n 1), (5, .bipush 9), (7, .idiv), (8, .goto 19), (11, .iload_n 3), (12, .iconst 1), (13, .if_icmp .ne 11), (16, .iload_n 1), (17, .iconst 3), (18, .idiv)]), (36, [(19, .iconst 3), (20, .irem), (21, .goto 6), (24, .iload_n 1), (25, .iconst 3), (26, .irem), (27, .istore 4), (29, .iload_n 3), (30, .aload_n 0), (31, .getfield 22), (34, .iload_n 2), (35, .iaload)]), (58, [(36, .if_icmp .lt 15), (39, .iload 4), (41, .ifCond .ne 8), (44, .bipush 100), (46, .goto 4), (49, .iconst (-1)), (50, .ireturn), (51, .aload_n 0), (52, .getfield 19), (55, .iload_n 2), (56, .iaload), (57, .iload_n 3)]), (80, [(58, .iadd), (59, .istore 5), (61, .iconst 0), (62, .istore 6), (64, .iload 6), (66, .bipush 35), (68, .if_icmp .ge 59), (71, .iload 6), (73, .aload_n 0), (74, .getfield 7), (77, .iload 5), (79, .iaload)]), (105, [(80, .invokestatic 103), (83, .ifCond .eq 38), (86, .aload_n 0), (87, .getfield 16), (90, .iload 5), (92, .iaload), (93, .bipush 35), (95, .if_icmp .eq 15), (98, .aload_n 0), (99, .getfield 16), (102, .iload 5), (104, .iaload)]), (132, [(105, .iload 6), (107, .if_icmp .ne 14), (110, .iload 4), (112, .ifCond .ne 6), (115, .iload 6), (117, .ireturn), (118, .iinc 4 (-1)), (121, .iinc 6 1), (124, .goto (-60)), (127, .iconst (-1)), (128, .ireturn)])]
theorem ct_M_nameIn : c_M_nameIn.all (fun x => x.2.all (q_dec prog_6_method_17_code)) = true := by decide +kernel
def rm_M_nameIn : Room := { frames := 1, cells := 0, slots := 0, locals := 21 }
def kV_M_nameIn (cI : ClassId) (tv : Nat) : List (Nat × (Nat × Nat × Nat × q_T)) := []
def kI_M_nameIn (cI : ClassId) (tv : Nat) : List (Nat × (Nat × Nat × Nat × q_T)) := []
def kS_M_nameIn (cI : ClassId) (tv : Nat) : List (Nat × (Nat × Nat × Nat × q_T)) := [(103, 2, 0, 0, T_M_soundsAs cI tv)]
def F_M_nameIn (cI : ClassId) (tv : Nat) : q_K → q_G → q_G := q_F c_M_nameIn (q_as fl_M) (q_as []) (q_as lc_M) (q_cal (kV_M_nameIn cI tv) (kI_M_nameIn cI tv) (kS_M_nameIn cI tv)) (q_as nw_M) cI (q_tb tv) 7 0 0 (some FieldType.int)
def T_M_nameIn (cI : ClassId) (tv : Nat) : q_T := fun as w K => (lg_sl as).length ≤ 7 ∧ q_wp (F_M_nameIn cI tv) as w K
theorem M_M_nameIn (l : Launch) (D : va_G) (cI : ClassId) (tv : Nat) : q_Met l y_M_nameIn (Cond.code y_M_nameIn prog_6_method_17_code 7 (some FieldType.int) :: aW) rm_M_nameIn D cls5 [(cI, .int)] (qSt tv) (T_M_nameIn cI tv) := q_contract (cc := prog_6_method_17_code) (nL := 7) (own := "SpellPitchModel") (ini := false) (by decide +kernel) rfl rfl (nofun) ⟨ct_M_nameIn, fl_M_ok, (fun n v h => by cases h), lc_M_ok, q_tb_ok tv, q_cal_ok (q_nil) (q_nil) (q_cons (q_callS (k := 2) (qStOK tv) (M_M_soundsAs l D cI tv) (gS kw_637 kw_638 kw_5 kw_639) rfl (by decide +kernel) ⟨by decide, by decide⟩) (q_nil)), nw_M_ok, Or.inl (by decide +kernel)⟩
def c_M_findNames : q_C := [(19, [(0, .iconst 0), (1, .istore_n 2), (2, .iload_n 2), (3, .bipush 27), (5, .if_icmp .ge 39), (8, .iconst 0), (9, .istore_n 3), (10, .iload_n 3), (11, .iconst 3), (12, .if_icmp .ge 26), (15, .aload_n 0), (16, .getfield 44)]), (35, [(19, .iconst 3), (20, .iload_n 2), (21, .imul), (22, .iload_n 3), (23, .iadd), (24, .aload_n 0), (25, .iload_n 2), (26, .iload_n 1), (27, .iload_n 3), (28, .invokevirtual 124), (31, .iastore), (32, .iinc 3 1)]), (48, [(35, .goto (-25)), (38, .iinc 2 1), (41, .goto (-39)), (44, .return_)])]
theorem ct_M_findNames : c_M_findNames.all (fun x => x.2.all (q_dec prog_6_method_18_code)) = true := by decide +kernel
def rm_M_findNames : Room := { frames := 2, cells := 0, slots := 0, locals := 47 }
def kV_M_findNames (cI : ClassId) (tv : Nat) : List (Nat × (Nat × Nat × Nat × q_T)) := [(124, 4, 0, 0, q_V 4 (T_M_nameIn cI tv))]
def kI_M_findNames (cI : ClassId) (tv : Nat) : List (Nat × (Nat × Nat × Nat × q_T)) := []
def kS_M_findNames (cI : ClassId) (tv : Nat) : List (Nat × (Nat × Nat × Nat × q_T)) := []
def F_M_findNames (cI : ClassId) (tv : Nat) : q_K → q_G → q_G := q_F c_M_findNames (q_as fl_M) (q_as []) (q_as lc_M) (q_cal (kV_M_findNames cI tv) (kI_M_findNames cI tv) (kS_M_findNames cI tv)) (q_as nw_M) cI (q_tb tv) 4 0 0 (none)
def T_M_findNames (cI : ClassId) (tv : Nat) : q_T := fun as w K => (lg_sl as).length ≤ 4 ∧ q_wp (F_M_findNames cI tv) as w K
theorem M_M_findNames (l : Launch) (D : va_G) (cI : ClassId) (tv : Nat) : q_Met l y_M_findNames (Cond.code y_M_findNames prog_6_method_18_code 4 (none) :: aW) rm_M_findNames D cls5 [(cI, .int)] (qSt tv) (T_M_findNames cI tv) := q_contract (cc := prog_6_method_18_code) (nL := 4) (own := "SpellPitchModel") (ini := false) (by decide +kernel) rfl rfl (nofun) ⟨ct_M_findNames, fl_M_ok, (fun n v h => by cases h), lc_M_ok, q_tb_ok tv, q_cal_ok (q_cons (q_callV (k := 3) (T' := tt_M) (qStOK tv) (M_M_nameIn l D cI tv) (gV kw_667 kw_669 ks_25 kw_5 kw_670) rfl (by decide +kernel) ⟨by decide, by decide⟩ rfl) (q_nil)) (q_nil) (q_nil), nw_M_ok, Or.inl (by decide +kernel)⟩
def c_M_judge : q_C := [(21, [(0, .aload_n 0), (1, .iconst 0), (2, .putfield 128), (5, .aload_n 0), (6, .iconst 0), (7, .putfield 131), (10, .aload_n 0), (11, .getfield 25), (14, .iload_n 1), (15, .iaload), (16, .bipush 15), (18, .if_icmp .eq 15)]), (39, [(21, .aload_n 0), (22, .getfield 25), (25, .iload_n 1), (26, .iaload), (27, .iload_n 2), (28, .if_icmp .eq 5), (31, .iconst 0), (32, .ireturn), (33, .iconst 0), (34, .istore 4), (36, .iload 4), (38, .iconst 3)]), (60, [(39, .if_icmp .ge 210), (42, .aload_n 0), (43, .getfield 44), (46, .iconst 3), (47, .iload_n 3), (48, .imul), (49, .iload 4), (51, .iadd), (52, .iaload), (53, .istore 5), (55, .iload 5), (57, .ifCond .ge 5)]), (81, [(60, .iconst 0), (61, .ireturn), (62, .iload 5), (64, .bipush 100), (66, .if_icmp .ne 6), (69, .goto 174), (72, .iload_n 2), (73, .bipush 7), (75, .iadd), (76, .istore 6), (78, .iload_n 2), (79, .bipush 13)]), (104, [(81, .iadd), (82, .istore 7), (84, .aload_n 0), (85, .dup), (86, .getfield 128), (89, .iload 5), (91, .iload 6), (93, .if_icmp .ge 16), (96, .aload_n 0), (97, .getfield 28), (100, .iload 6), (102, .iload 5)]), (126, [(104, .isub), (105, .imul), (106, .goto 24), (109, .iload 5), (111, .iload 7), (113, .if_icmp .le 16), (116, .aload_n 0), (117, .getfield 28), (120, .iload 5), (122, .iload 7), (124, .isub), (125, .imul)]), (151, [(126, .goto 4), (129, .iconst 0), (130, .iadd), (131, .putfield 128), (134, .iload 5), (136, .invokestatic 114), (139, .invokestatic 134), (142, .istore 8), (144, .aload_n 0), (145, .dup), (146, .getfield 128), (149, .iload 8)]), (174, [(151, .iconst 2), (152, .if_icmp .ne 10), (155, .aload_n 0), (156, .getfield 32), (159, .goto 4), (162, .iconst 0), (163, .iadd), (164, .putfield 128), (167, .aload_n 0), (168, .dup), (169, .getfield 131), (172, .iload 8)]), (196, [(174, .iadd), (175, .putfield 131), (178, .iconst 0), (179, .istore 9), (181, .iload 9), (183, .iload 4), (185, .if_icmp .ge 58), (188, .iload 5), (190, .aload_n 0), (191, .getfield 44), (194, .iconst 3), (195, .iload_n 3)]), (216, [(196, .imul), (197, .iload 9), (199, .iadd), (200, .iaload), (201, .isub), (202, .invokestatic 134), (205, .istore 10), (207, .aload_n 0), (208, .dup), (209, .getfield 128), (212, .iload 10), (214, .bipush 6)]), (240, [(216, .if_icmp .le 16), (219, .aload_n 0), (220, .getfield 35), (223, .iload 10), (225, .bipush 6), (227, .isub), (228, .imul), (229, .goto 4), (232, .iconst 0), (233, .iadd), (234, .putfield 128), (237, .iinc 9 1)]), (254, [(240, .goto (-59)), (243, .iinc 4 1), (246, .goto (-210)), (249, .iconst 1), (250, .ireturn)])]
theorem ct_M_judge : c_M_judge.all (fun x => x.2.all (q_dec prog_6_method_19_code)) = true := by decide +kernel
def rm_M_judge : Room := { frames := 1, cells := 0, slots := 0, locals := 20 }
def kV_M_judge (cI : ClassId) (tv : Nat) : List (Nat × (Nat × Nat × Nat × q_T)) := []
def kI_M_judge (cI : ClassId) (tv : Nat) : List (Nat × (Nat × Nat × Nat × q_T)) := []
def kS_M_judge (cI : ClassId) (tv : Nat) : List (Nat × (Nat × Nat × Nat × q_T)) := [(114, 1, 0, 0, T_M_signsOf cI tv), (134, 1, 0, 0, T_M_size cI tv)]
def F_M_judge (cI : ClassId) (tv : Nat) : q_K → q_G → q_G := q_F c_M_judge (q_as fl_M) (q_as []) (q_as lc_M) (q_cal (kV_M_judge cI tv) (kI_M_judge cI tv) (kS_M_judge cI tv)) (q_as nw_M) cI (q_tb tv) 11 0 0 (some FieldType.boolean)
def T_M_judge (cI : ClassId) (tv : Nat) : q_T := fun as w K => (lg_sl as).length ≤ 11 ∧ q_wp (F_M_judge cI tv) as w K
theorem M_M_judge (l : Launch) (D : va_G) (cI : ClassId) (tv : Nat) : q_Met l y_M_judge (Cond.code y_M_judge prog_6_method_19_code 11 (some FieldType.boolean) :: aW) rm_M_judge D cls5 [(cI, .int)] (qSt tv) (T_M_judge cI tv) := q_contract (cc := prog_6_method_19_code) (nL := 11) (own := "SpellPitchModel") (ini := false) (by decide +kernel) rfl rfl (nofun) ⟨ct_M_judge, fl_M_ok, (fun n v h => by cases h), lc_M_ok, q_tb_ok tv, q_cal_ok (q_nil) (q_nil) (q_cons (q_callS (k := 1) (qStOK tv) (M_M_signsOf l D cI tv) (gS kw_675 kw_676 kw_5 kw_677) rfl (by decide +kernel) ⟨by decide, by decide⟩) (q_cons (q_callS (k := 1) (qStOK tv) (M_M_size l D cI tv) (gS kw_678 kw_679 kw_5 kw_680) rfl (by decide +kernel) ⟨by decide, by decide⟩) (q_nil))), nw_M_ok, Or.inl (by decide +kernel)⟩
def c_M_isStep : q_C := [(18, [(0, .iload_n 1), (1, .iload_n 3), (2, .if_icmp .ne 14), (5, .iload_n 0), (6, .iload_n 2), (7, .if_icmp .eq 7), (10, .iconst 1), (11, .goto 4), (14, .iconst 0), (15, .ireturn), (16, .iload_n 2), (17, .iload_n 3)]), (39, [(18, .invokestatic 141), (21, .iload_n 0), (22, .iload_n 1), (23, .invokestatic 141), (26, .isub), (27, .istore 4), (29, .iload_n 3), (30, .iload_n 1), (31, .isub), (32, .invokestatic 134), (35, .iconst 2), (36, .if_icmp .gt 22)]), (63, [(39, .iload 4), (41, .iload_n 3), (42, .iload_n 1), (43, .if_icmp .le 7), (46, .iconst 1), (47, .goto 4), (50, .iconst (-1)), (51, .if_icmp .eq 7), (54, .iconst 1), (55, .goto 4), (58, .iconst 0), (59, .ireturn)])]
theorem ct_M_isStep : c_M_isStep.all (fun x => x.2.all (q_dec prog_6_method_21_code)) = true := by decide +kernel
def rm_M_isStep : Room := { frames := 3, cells := 0, slots := 0, locals := 63 }
def kV_M_isStep (cI : ClassId) (tv : Nat) : List (Nat × (Nat × Nat × Nat × q_T)) := []
def kI_M_isStep (cI : ClassId) (tv : Nat) : List (Nat × (Nat × Nat × Nat × q_T)) := []
def kS_M_isStep (cI : ClassId) (tv : Nat) : List (Nat × (Nat × Nat × Nat × q_T)) := [(141, 2, 0, 0, T_M_placeOf cI tv), (134, 1, 0, 0, T_M_size cI tv)]
def F_M_isStep (cI : ClassId) (tv : Nat) : q_K → q_G → q_G := q_F c_M_isStep (q_as fl_M) (q_as []) (q_as lc_M) (q_cal (kV_M_isStep cI tv) (kI_M_isStep cI tv) (kS_M_isStep cI tv)) (q_as nw_M) cI (q_tb tv) 5 0 0 (some FieldType.boolean)
def T_M_isStep (cI : ClassId) (tv : Nat) : q_T := fun as w K => (lg_sl as).length ≤ 5 ∧ q_wp (F_M_isStep cI tv) as w K
theorem M_M_isStep (l : Launch) (D : va_G) (cI : ClassId) (tv : Nat) : q_Met l y_M_isStep (Cond.code y_M_isStep prog_6_method_21_code 5 (some FieldType.boolean) :: aW) rm_M_isStep D cls5 [(cI, .int)] (qSt tv) (T_M_isStep cI tv) := q_contract (cc := prog_6_method_21_code) (nL := 5) (own := "SpellPitchModel") (ini := false) (by decide +kernel) rfl rfl (nofun) ⟨ct_M_isStep, fl_M_ok, (fun n v h => by cases h), lc_M_ok, q_tb_ok tv, q_cal_ok (q_nil) (q_nil) (q_cons (q_callS (k := 2) (qStOK tv) (M_M_placeOf l D cI tv) (gS kw_692 kw_693 kw_5 kw_694) rfl (by decide +kernel) ⟨by decide, by decide⟩) (q_cons (q_callS (k := 1) (qStOK tv) (M_M_size l D cI tv) (gS kw_678 kw_679 kw_5 kw_680) rfl (by decide +kernel) ⟨by decide, by decide⟩) (q_nil))), nw_M_ok, Or.inl (by decide +kernel)⟩
def c_M_findSteps : q_C := [(19, [(0, .iconst 0), (1, .istore_n 2), (2, .iload_n 2), (3, .bipush 27), (5, .if_icmp .ge 161), (8, .iconst 0), (9, .istore_n 3), (10, .iload_n 3), (11, .bipush 27), (13, .if_icmp .ge 147), (16, .iconst 0), (17, .istore 4)]), (40, [(19, .iconst 0), (20, .istore 5), (22, .iload 5), (24, .aload_n 0), (25, .getfield 22), (28, .iload_n 1), (29, .iaload), (30, .if_icmp .ge 111), (33, .iload 5), (35, .aload_n 0), (36, .getfield 22), (39, .iload_n 1)]), (57, [(40, .iconst 1), (41, .isub), (42, .iaload), (43, .if_icmp .ge 98), (46, .aload_n 0), (47, .getfield 47), (50, .iconst 3), (51, .iload_n 2), (52, .imul), (53, .iload 5), (55, .iadd), (56, .iaload)]), (77, [(57, .istore 6), (59, .aload_n 0), (60, .getfield 44), (63, .iconst 3), (64, .iload_n 3), (65, .imul), (66, .iload 5), (68, .iadd), (69, .iaload), (70, .istore 7), (72, .iload 6), (74, .ifCond .lt 61)]), (98, [(77, .iload 7), (79, .ifCond .lt 56), (82, .iload 4), (84, .iload 6), (86, .aload_n 0), (87, .getfield 7), (90, .aload_n 0), (91, .getfield 19), (94, .iload_n 1), (95, .iconst 1), (96, .isub), (97, .iaload)]), (117, [(98, .iload 5), (100, .iadd), (101, .iaload), (102, .iload 7), (104, .aload_n 0), (105, .getfield 7), (108, .aload_n 0), (109, .getfield 19), (112, .iload_n 1), (113, .iaload), (114, .iload 5), (116, .iadd)]), (142, [(117, .iaload), (118, .invokestatic 137), (121, .ifCond .eq 10), (124, .aload_n 0), (125, .getfield 38), (128, .goto 4), (131, .iconst 0), (132, .iadd), (133, .istore 4), (135, .iinc 5 1), (138, .goto (-116)), (141, .aload_n 0)]), (166, [(142, .getfield 50), (145, .bipush 27), (147, .iload_n 2), (148, .imul), (149, .iload_n 3), (150, .iadd), (151, .iload 4), (153, .iastore), (154, .iinc 3 1), (157, .goto (-147)), (160, .iinc 2 1), (163, .goto (-161))]), (170, [(166, .return_)])]
theorem ct_M_findSteps : c_M_findSteps.all (fun x => x.2.all (q_dec prog_6_method_20_code)) = true := by decide +kernel
def rm_M_findSteps : Room := { frames := 4, cells := 0, slots := 0, locals := 87 }
def kV_M_findSteps (cI : ClassId) (tv : Nat) : List (Nat × (Nat × Nat × Nat × q_T)) := []
def kI_M_findSteps (cI : ClassId) (tv : Nat) : List (Nat × (Nat × Nat × Nat × q_T)) := []
def kS_M_findSteps (cI : ClassId) (tv : Nat) : List (Nat × (Nat × Nat × Nat × q_T)) := [(137, 4, 0, 0, T_M_isStep cI tv)]
def F_M_findSteps (cI : ClassId) (tv : Nat) : q_K → q_G → q_G := q_F c_M_findSteps (q_as fl_M) (q_as []) (q_as lc_M) (q_cal (kV_M_findSteps cI tv) (kI_M_findSteps cI tv) (kS_M_findSteps cI tv)) (q_as nw_M) cI (q_tb tv) 8 0 0 (none)
def T_M_findSteps (cI : ClassId) (tv : Nat) : q_T := fun as w K => (lg_sl as).length ≤ 8 ∧ q_wp (F_M_findSteps cI tv) as w K
theorem M_M_findSteps (l : Launch) (D : va_G) (cI : ClassId) (tv : Nat) : q_Met l y_M_findSteps (Cond.code y_M_findSteps prog_6_method_20_code 8 (none) :: aW) rm_M_findSteps D cls5 [(cI, .int)] (qSt tv) (T_M_findSteps cI tv) := q_contract (cc := prog_6_method_20_code) (nL := 8) (own := "SpellPitchModel") (ini := false) (by decide +kernel) rfl rfl (nofun) ⟨ct_M_findSteps, fl_M_ok, (fun n v h => by cases h), lc_M_ok, q_tb_ok tv, q_cal_ok (q_nil) (q_nil) (q_cons (q_callS (k := 4) (qStOK tv) (M_M_isStep l D cI tv) (gS kw_689 kw_690 kw_5 kw_691) rfl (by decide +kernel) ⟨by decide, by decide⟩) (q_nil)), nw_M_ok, Or.inl (by decide +kernel)⟩
def c_M_keysCost : q_C := [(21, [(0, .iload_n 1), (1, .iload_n 2), (2, .isub), (3, .invokestatic 134), (6, .istore_n 3), (7, .iload_n 3), (8, .bipush 12), (10, .if_icmp .ne 10), (13, .aload_n 0), (14, .getfield 41), (17, .goto 9), (20, .aload_n 0)]), (30, [(21, .getfield 41), (24, .iload_n 3), (25, .imul), (26, .ireturn)])]
theorem ct_M_keysCost : c_M_keysCost.all (fun x => x.2.all (q_dec prog_6_method_22_code)) = true := by decide +kernel
def rm_M_keysCost : Room := { frames := 1, cells := 0, slots := 0, locals := 20 }
def kV_M_keysCost (cI : ClassId) (tv : Nat) : List (Nat × (Nat × Nat × Nat × q_T)) := []
def kI_M_keysCost (cI : ClassId) (tv : Nat) : List (Nat × (Nat × Nat × Nat × q_T)) := []
def kS_M_keysCost (cI : ClassId) (tv : Nat) : List (Nat × (Nat × Nat × Nat × q_T)) := [(134, 1, 0, 0, T_M_size cI tv)]
def F_M_keysCost (cI : ClassId) (tv : Nat) : q_K → q_G → q_G := q_F c_M_keysCost (q_as fl_M) (q_as []) (q_as lc_M) (q_cal (kV_M_keysCost cI tv) (kI_M_keysCost cI tv) (kS_M_keysCost cI tv)) (q_as nw_M) cI (q_tb tv) 4 0 0 (some FieldType.int)
def T_M_keysCost (cI : ClassId) (tv : Nat) : q_T := fun as w K => (lg_sl as).length ≤ 4 ∧ q_wp (F_M_keysCost cI tv) as w K
theorem M_M_keysCost (l : Launch) (D : va_G) (cI : ClassId) (tv : Nat) : q_Met l y_M_keysCost (Cond.code y_M_keysCost prog_6_method_22_code 4 (some FieldType.int) :: aW) rm_M_keysCost D cls5 [(cI, .int)] (qSt tv) (T_M_keysCost cI tv) := q_contract (cc := prog_6_method_22_code) (nL := 4) (own := "SpellPitchModel") (ini := false) (by decide +kernel) rfl rfl (nofun) ⟨ct_M_keysCost, fl_M_ok, (fun n v h => by cases h), lc_M_ok, q_tb_ok tv, q_cal_ok (q_nil) (q_nil) (q_cons (q_callS (k := 1) (qStOK tv) (M_M_size l D cI tv) (gS kw_678 kw_679 kw_5 kw_680) rfl (by decide +kernel) ⟨by decide, by decide⟩) (q_nil)), nw_M_ok, Or.inl (by decide +kernel)⟩
def c_M_most : q_C := [(16, [(0, .iload_n 0), (1, .ldc 144), (3, .if_icmp .le 8), (6, .ldc 144), (8, .goto 4), (11, .iload_n 0), (12, .ireturn)])]
theorem ct_M_most : c_M_most.all (fun x => x.2.all (q_dec prog_6_method_23_code)) = true := by decide +kernel
def rm_M_most : Room := { frames := 0, cells := 0, slots := 0, locals := 0 }
def kV_M_most (cI : ClassId) (tv : Nat) : List (Nat × (Nat × Nat × Nat × q_T)) := []
def kI_M_most (cI : ClassId) (tv : Nat) : List (Nat × (Nat × Nat × Nat × q_T)) := []
def kS_M_most (cI : ClassId) (tv : Nat) : List (Nat × (Nat × Nat × Nat × q_T)) := []
def F_M_most (cI : ClassId) (tv : Nat) : q_K → q_G → q_G := q_F c_M_most (q_as fl_M) (q_as []) (q_as lc_M) (q_cal (kV_M_most cI tv) (kI_M_most cI tv) (kS_M_most cI tv)) (q_as nw_M) cI (q_tb tv) 1 0 0 (some FieldType.int)
def T_M_most (cI : ClassId) (tv : Nat) : q_T := fun as w K => (lg_sl as).length ≤ 1 ∧ q_wp (F_M_most cI tv) as w K
theorem M_M_most (l : Launch) (D : va_G) (cI : ClassId) (tv : Nat) : q_Met l y_M_most (Cond.code y_M_most prog_6_method_23_code 1 (some FieldType.int) :: aW) rm_M_most D cls5 [(cI, .int)] (qSt tv) (T_M_most cI tv) := q_contract (cc := prog_6_method_23_code) (nL := 1) (own := "SpellPitchModel") (ini := false) (by decide +kernel) rfl rfl (nofun) ⟨ct_M_most, fl_M_ok, (fun n v h => by cases h), lc_M_ok, q_tb_ok tv, q_cal_ok (q_nil) (q_nil) (q_nil), nw_M_ok, Or.inl (by decide +kernel)⟩
def c_M_begin : q_C := [(19, [(0, .aload_n 0), (1, .iconst 0), (2, .invokevirtual 145), (5, .iconst 0), (6, .istore_n 1), (7, .iload_n 1), (8, .sipush 405), (11, .if_icmp .ge 65), (14, .aload_n 0), (15, .iconst 0), (16, .iload_n 1), (17, .bipush 27)]), (38, [(19, .idiv), (20, .iload_n 1), (21, .bipush 27), (23, .irem), (24, .invokevirtual 149), (27, .istore_n 2), (28, .aload_n 0), (29, .getfield 53), (32, .iload_n 1), (33, .iload_n 2), (34, .ifCond .eq 10), (37, .aload_n 0)]), (60, [(38, .getfield 128), (41, .goto 4), (44, .iconst (-1)), (45, .iastore), (46, .aload_n 0), (47, .getfield 56), (50, .iload_n 1), (51, .aload_n 0), (52, .getfield 131), (55, .iastore), (56, .aload_n 0), (57, .getfield 59)]), (80, [(60, .iload_n 1), (61, .iload_n 1), (62, .iastore), (63, .aload_n 0), (64, .getfield 62), (67, .iload_n 1), (68, .iconst 1), (69, .iastore), (70, .iinc 1 1), (73, .goto (-66)), (76, .return_)])]
theorem ct_M_begin : c_M_begin.all (fun x => x.2.all (q_dec prog_6_method_24_code)) = true := by decide +kernel
def rm_M_begin : Room := { frames := 3, cells := 0, slots := 0, locals := 70 }
def kV_M_begin (cI : ClassId) (tv : Nat) : List (Nat × (Nat × Nat × Nat × q_T)) := [(145, 2, 0, 0, q_V 4 (T_M_findNames cI tv)), (149, 4, 0, 0, q_V 4 (T_M_judge cI tv))]
def kI_M_begin (cI : ClassId) (tv : Nat) : List (Nat × (Nat × Nat × Nat × q_T)) := []
def kS_M_begin (cI : ClassId) (tv : Nat) : List (Nat × (Nat × Nat × Nat × q_T)) := []
def F_M_begin (cI : ClassId) (tv : Nat) : q_K → q_G → q_G := q_F c_M_begin (q_as fl_M) (q_as []) (q_as lc_M) (q_cal (kV_M_begin cI tv) (kI_M_begin cI tv) (kS_M_begin cI tv)) (q_as nw_M) cI (q_tb tv) 3 0 0 (none)
def T_M_begin (cI : ClassId) (tv : Nat) : q_T := fun as w K => (lg_sl as).length ≤ 3 ∧ q_wp (F_M_begin cI tv) as w K
theorem M_M_begin (l : Launch) (D : va_G) (cI : ClassId) (tv : Nat) : q_Met l y_M_begin (Cond.code y_M_begin prog_6_method_24_code 3 (none) :: aW) rm_M_begin D cls5 [(cI, .int)] (qSt tv) (T_M_begin cI tv) := q_contract (cc := prog_6_method_24_code) (nL := 3) (own := "SpellPitchModel") (ini := false) (by decide +kernel) rfl rfl (nofun) ⟨ct_M_begin, fl_M_ok, (fun n v h => by cases h), lc_M_ok, q_tb_ok tv, q_cal_ok (q_cons (q_callV (k := 1) (T' := tt_M) (qStOK tv) (M_M_findNames l D cI tv) (gV kw_663 kw_665 ks_24 kw_5 kw_666) rfl (by decide +kernel) ⟨by decide, by decide⟩ rfl) (q_cons (q_callV (k := 3) (T' := tt_M) (qStOK tv) (M_M_judge l D cI tv) (gV kw_671 kw_673 ks_26 kw_5 kw_674) rfl (by decide +kernel) ⟨by decide, by decide⟩ rfl) (q_nil))) (q_nil) (q_nil), nw_M_ok, Or.inl (by decide +kernel)⟩
def c_M_reach : q_C := [(16, [(0, .aload_n 0), (1, .getfield 65), (4, .iload_n 2), (5, .iconst (-1)), (6, .iastore), (7, .aload_n 0), (8, .iload_n 1), (9, .iload_n 2), (10, .bipush 27), (12, .idiv), (13, .iload_n 2), (14, .bipush 27)]), (35, [(16, .irem), (17, .invokevirtual 149), (20, .ifCond .ne 4), (23, .return_), (24, .iconst (-1)), (25, .istore_n 3), (26, .iconst 0), (27, .istore 4), (29, .iconst 0), (30, .istore 5), (32, .iconst 0), (33, .istore 6)]), (62, [(35, .iload 6), (37, .sipush 405), (40, .if_icmp .ge 178), (43, .aload_n 0), (44, .getfield 53), (47, .iload 6), (49, .iaload), (50, .ifCond .ge 6), (53, .goto 159), (56, .aload_n 0), (57, .getfield 53), (60, .iload 6)]), (81, [(62, .iaload), (63, .aload_n 0), (64, .iload 6), (66, .bipush 27), (68, .idiv), (69, .iload_n 2), (70, .bipush 27), (72, .idiv), (73, .invokevirtual 153), (76, .iadd), (77, .aload_n 0), (78, .getfield 50)]), (98, [(81, .bipush 27), (83, .iload 6), (85, .bipush 27), (87, .irem), (88, .imul), (89, .iload_n 2), (90, .bipush 27), (92, .irem), (93, .iadd), (94, .iaload), (95, .iadd), (96, .istore 7)]), (123, [(98, .iload_n 3), (99, .ifCond .lt 10), (102, .iload 7), (104, .iload 4), (106, .if_icmp .ge 6), (109, .iconst 0), (110, .istore 5), (112, .iload_n 3), (113, .ifCond .lt 65), (116, .iload 7), (118, .iload 4), (120, .if_icmp .lt 58)]), (146, [(123, .iload 7), (125, .iload 4), (127, .if_icmp .ne 58), (130, .aload_n 0), (131, .getfield 56), (134, .iload 6), (136, .iaload), (137, .aload_n 0), (138, .getfield 56), (141, .iload_n 3), (142, .iaload), (143, .if_icmp .lt 35)]), (168, [(146, .aload_n 0), (147, .getfield 56), (150, .iload 6), (152, .iaload), (153, .aload_n 0), (154, .getfield 56), (157, .iload_n 3), (158, .iaload), (159, .if_icmp .ne 26), (162, .aload_n 0), (163, .getfield 59), (166, .iload 6)]), (189, [(168, .iaload), (169, .aload_n 0), (170, .getfield 59), (173, .iload_n 3), (174, .iaload), (175, .if_icmp .ge 10), (178, .iload 6), (180, .istore_n 3), (181, .iload 7), (183, .istore 4), (185, .iload 7), (187, .iload 4)]), (215, [(189, .if_icmp .ne 19), (192, .iload 5), (194, .aload_n 0), (195, .getfield 62), (198, .iload 6), (200, .iaload), (201, .iadd), (202, .invokestatic 156), (205, .goto 5), (208, .iload 5), (210, .istore 5), (212, .iinc 6 1)]), (236, [(215, .goto (-180)), (218, .aload_n 0), (219, .getfield 65), (222, .iload_n 2), (223, .iload 4), (225, .aload_n 0), (226, .getfield 128), (229, .iadd), (230, .iastore), (231, .aload_n 0), (232, .getfield 68), (235, .iload_n 2)]), (256, [(236, .aload_n 0), (237, .getfield 56), (240, .iload_n 3), (241, .iaload), (242, .aload_n 0), (243, .getfield 131), (246, .iadd), (247, .iastore), (248, .aload_n 0), (249, .getfield 71), (252, .iload_n 2), (253, .sipush 405)]), (273, [(256, .aload_n 0), (257, .getfield 59), (260, .iload_n 3), (261, .iaload), (262, .imul), (263, .iload_n 2), (264, .iadd), (265, .iastore), (266, .aload_n 0), (267, .getfield 74), (270, .iload_n 2), (271, .iload 5)]), (291, [(273, .iastore), (274, .aload_n 0), (275, .getfield 77), (278, .sipush 405), (281, .iload_n 1), (282, .imul), (283, .iload_n 2), (284, .iadd), (285, .iload_n 3), (286, .iastore), (287, .return_)])]
theorem ct_M_reach : c_M_reach.all (fun x => x.2.all (q_dec prog_6_method_25_code)) = true := by decide +kernel
def rm_M_reach : Room := { frames := 2, cells := 0, slots := 0, locals := 50 }
def kV_M_reach (cI : ClassId) (tv : Nat) : List (Nat × (Nat × Nat × Nat × q_T)) := [(149, 4, 0, 0, q_V 4 (T_M_judge cI tv)), (153, 3, 0, 0, q_V 4 (T_M_keysCost cI tv))]
def kI_M_reach (cI : ClassId) (tv : Nat) : List (Nat × (Nat × Nat × Nat × q_T)) := []
def kS_M_reach (cI : ClassId) (tv : Nat) : List (Nat × (Nat × Nat × Nat × q_T)) := [(156, 1, 0, 0, T_M_most cI tv)]
def F_M_reach (cI : ClassId) (tv : Nat) : q_K → q_G → q_G := q_F c_M_reach (q_as fl_M) (q_as []) (q_as lc_M) (q_cal (kV_M_reach cI tv) (kI_M_reach cI tv) (kS_M_reach cI tv)) (q_as nw_M) cI (q_tb tv) 8 0 0 (none)
def T_M_reach (cI : ClassId) (tv : Nat) : q_T := fun as w K => (lg_sl as).length ≤ 8 ∧ q_wp (F_M_reach cI tv) as w K
theorem M_M_reach (l : Launch) (D : va_G) (cI : ClassId) (tv : Nat) : q_Met l y_M_reach (Cond.code y_M_reach prog_6_method_25_code 8 (none) :: aW) rm_M_reach D cls5 [(cI, .int)] (qSt tv) (T_M_reach cI tv) := q_contract (cc := prog_6_method_25_code) (nL := 8) (own := "SpellPitchModel") (ini := false) (by decide +kernel) rfl rfl (nofun) ⟨ct_M_reach, fl_M_ok, (fun n v h => by cases h), lc_M_ok, q_tb_ok tv, q_cal_ok (q_cons (q_callV (k := 3) (T' := tt_M) (qStOK tv) (M_M_judge l D cI tv) (gV kw_671 kw_673 ks_26 kw_5 kw_674) rfl (by decide +kernel) ⟨by decide, by decide⟩ rfl) (q_cons (q_callV (k := 2) (T' := tt_M) (qStOK tv) (M_M_keysCost l D cI tv) (gV kw_708 kw_710 ks_30 kw_5 kw_711) rfl (by decide +kernel) ⟨by decide, by decide⟩ rfl) (q_nil))) (q_nil) (q_cons (q_callS (k := 1) (qStOK tv) (M_M_most l D cI tv) (gS kw_712 kw_713 kw_5 kw_714) rfl (by decide +kernel) ⟨by decide, by decide⟩) (q_nil)), nw_M_ok, Or.inl (by decide +kernel)⟩
def c_M_goOn : q_C := [(19, [(0, .iconst 0), (1, .istore_n 2), (2, .iload_n 2), (3, .bipush 81), (5, .if_icmp .ge 21), (8, .aload_n 0), (9, .getfield 47), (12, .iload_n 2), (13, .aload_n 0), (14, .getfield 44), (17, .iload_n 2), (18, .iaload)]), (39, [(19, .iastore), (20, .iinc 2 1), (23, .goto (-21)), (26, .aload_n 0), (27, .iload_n 1), (28, .invokevirtual 145), (31, .aload_n 0), (32, .iload_n 1), (33, .invokevirtual 159), (36, .iconst 0), (37, .istore_n 2), (38, .iload_n 2)]), (63, [(39, .sipush 405), (42, .if_icmp .ge 15), (45, .aload_n 0), (46, .iload_n 1), (47, .iload_n 2), (48, .invokevirtual 162), (51, .iinc 2 1), (54, .goto (-16)), (57, .iconst 0), (58, .istore_n 2), (59, .iload_n 2), (60, .sipush 405)]), (83, [(63, .if_icmp .ge 114), (66, .aload_n 0), (67, .getfield 53), (70, .iload_n 2), (71, .aload_n 0), (72, .getfield 65), (75, .iload_n 2), (76, .iaload), (77, .iastore), (78, .aload_n 0), (79, .getfield 56), (82, .iload_n 2)]), (101, [(83, .aload_n 0), (84, .getfield 68), (87, .iload_n 2), (88, .iaload), (89, .iastore), (90, .aload_n 0), (91, .getfield 62), (94, .iload_n 2), (95, .aload_n 0), (96, .getfield 74), (99, .iload_n 2), (100, .iaload)]), (119, [(101, .iastore), (102, .aload_n 0), (103, .getfield 59), (106, .iload_n 2), (107, .iconst 0), (108, .iastore), (109, .iconst 0), (110, .istore_n 3), (111, .iload_n 3), (112, .sipush 405), (115, .if_icmp .ge 56), (118, .aload_n 0)]), (139, [(119, .getfield 65), (122, .iload_n 2), (123, .iaload), (124, .ifCond .lt 47), (127, .aload_n 0), (128, .getfield 59), (131, .iload_n 2), (132, .dup2), (133, .iaload), (134, .aload_n 0), (135, .getfield 65), (138, .iload_n 3)]), (159, [(139, .iaload), (140, .ifCond .lt 22), (143, .aload_n 0), (144, .getfield 71), (147, .iload_n 3), (148, .iaload), (149, .aload_n 0), (150, .getfield 71), (153, .iload_n 2), (154, .iaload), (155, .if_icmp .ge 7), (158, .iconst 1)]), (181, [(159, .goto 4), (162, .iconst 0), (163, .iadd), (164, .iastore), (165, .iinc 3 1), (168, .goto (-57)), (171, .iinc 2 1), (174, .goto (-115)), (177, .return_)])]
theorem ct_M_goOn : c_M_goOn.all (fun x => x.2.all (q_dec prog_6_method_26_code)) = true := by decide +kernel
def rm_M_goOn : Room := { frames := 5, cells := 0, slots := 0, locals := 114 }
def kV_M_goOn (cI : ClassId) (tv : Nat) : List (Nat × (Nat × Nat × Nat × q_T)) := [(145, 2, 0, 0, q_V 4 (T_M_findNames cI tv)), (159, 2, 0, 0, q_V 4 (T_M_findSteps cI tv)), (162, 3, 0, 0, q_V 4 (T_M_reach cI tv))]
def kI_M_goOn (cI : ClassId) (tv : Nat) : List (Nat × (Nat × Nat × Nat × q_T)) := []
def kS_M_goOn (cI : ClassId) (tv : Nat) : List (Nat × (Nat × Nat × Nat × q_T)) := []
def F_M_goOn (cI : ClassId) (tv : Nat) : q_K → q_G → q_G := q_F c_M_goOn (q_as fl_M) (q_as []) (q_as lc_M) (q_cal (kV_M_goOn cI tv) (kI_M_goOn cI tv) (kS_M_goOn cI tv)) (q_as nw_M) cI (q_tb tv) 4 0 0 (none)
def T_M_goOn (cI : ClassId) (tv : Nat) : q_T := fun as w K => (lg_sl as).length ≤ 4 ∧ q_wp (F_M_goOn cI tv) as w K
theorem M_M_goOn (l : Launch) (D : va_G) (cI : ClassId) (tv : Nat) : q_Met l y_M_goOn (Cond.code y_M_goOn prog_6_method_26_code 4 (none) :: aW) rm_M_goOn D cls5 [(cI, .int)] (qSt tv) (T_M_goOn cI tv) := q_contract (cc := prog_6_method_26_code) (nL := 4) (own := "SpellPitchModel") (ini := false) (by decide +kernel) rfl rfl (nofun) ⟨ct_M_goOn, fl_M_ok, (fun n v h => by cases h), lc_M_ok, q_tb_ok tv, q_cal_ok (q_cons (q_callV (k := 1) (T' := tt_M) (qStOK tv) (M_M_findNames l D cI tv) (gV kw_663 kw_665 ks_24 kw_5 kw_666) rfl (by decide +kernel) ⟨by decide, by decide⟩ rfl) (q_cons (q_callV (k := 1) (T' := tt_M) (qStOK tv) (M_M_findSteps l D cI tv) (gV kw_685 kw_687 ks_28 kw_5 kw_688) rfl (by decide +kernel) ⟨by decide, by decide⟩ rfl) (q_cons (q_callV (k := 2) (T' := tt_M) (qStOK tv) (M_M_reach l D cI tv) (gV kw_704 kw_706 ks_29 kw_5 kw_707) rfl (by decide +kernel) ⟨by decide, by decide⟩ rfl) (q_nil)))) (q_nil) (q_nil), nw_M_ok, Or.inl (by decide +kernel)⟩
def c_M_find : q_C := [(20, [(0, .aload_n 0), (1, .getfield 95), (4, .ifCond .eq 4), (7, .return_), (8, .aload_n 0), (9, .iconst 1), (10, .putfield 95), (13, .aload_n 0), (14, .iconst 0), (15, .putfield 166), (18, .aload_n 0), (19, .iconst 0)]), (42, [(20, .putfield 169), (23, .aload_n 0), (24, .iconst 1), (25, .putfield 172), (28, .aload_n 0), (29, .getfield 89), (32, .ifCond .ne 4), (35, .return_), (36, .aload_n 0), (37, .invokevirtual 175), (40, .iconst 1), (41, .istore_n 1)]), (64, [(42, .iload_n 1), (43, .aload_n 0), (44, .getfield 92), (47, .if_icmp .ge 14), (50, .aload_n 0), (51, .iload_n 1), (52, .invokevirtual 178), (55, .iinc 1 1), (58, .goto (-16)), (61, .iconst (-1)), (62, .istore_n 1), (63, .iconst 0)]), (86, [(64, .istore_n 2), (65, .iload_n 2), (66, .sipush 405), (69, .if_icmp .ge 99), (72, .aload_n 0), (73, .getfield 53), (76, .iload_n 2), (77, .iaload), (78, .ifCond .lt 84), (81, .iload_n 1), (82, .ifCond .lt 78), (85, .aload_n 0)]), (106, [(86, .getfield 53), (89, .iload_n 2), (90, .iaload), (91, .aload_n 0), (92, .getfield 53), (95, .iload_n 1), (96, .iaload), (97, .if_icmp .lt 63), (100, .aload_n 0), (101, .getfield 53), (104, .iload_n 2), (105, .iaload)]), (126, [(106, .aload_n 0), (107, .getfield 53), (110, .iload_n 1), (111, .iaload), (112, .if_icmp .ne 50), (115, .aload_n 0), (116, .getfield 56), (119, .iload_n 2), (120, .iaload), (121, .aload_n 0), (122, .getfield 56), (125, .iload_n 1)]), (146, [(126, .iaload), (127, .if_icmp .lt 33), (130, .aload_n 0), (131, .getfield 56), (134, .iload_n 2), (135, .iaload), (136, .aload_n 0), (137, .getfield 56), (140, .iload_n 1), (141, .iaload), (142, .if_icmp .ne 20), (145, .aload_n 0)]), (168, [(146, .getfield 59), (149, .iload_n 2), (150, .iaload), (151, .aload_n 0), (152, .getfield 59), (155, .iload_n 1), (156, .iaload), (157, .if_icmp .ge 5), (160, .iload_n 2), (161, .istore_n 1), (162, .iinc 2 1), (165, .goto (-100))]), (188, [(168, .aload_n 0), (169, .aload_n 0), (170, .getfield 53), (173, .iload_n 1), (174, .iaload), (175, .putfield 166), (178, .aload_n 0), (179, .aload_n 0), (180, .getfield 56), (183, .iload_n 1), (184, .iaload), (185, .putfield 169)]), (208, [(188, .aload_n 0), (189, .iconst 0), (190, .putfield 172), (193, .iconst 0), (194, .istore_n 2), (195, .iload_n 2), (196, .sipush 405), (199, .if_icmp .ge 47), (202, .aload_n 0), (203, .aload_n 0), (204, .getfield 53), (207, .iload_n 2)]), (230, [(208, .iaload), (209, .aload_n 0), (210, .getfield 166), (213, .if_icmp .ne 20), (216, .aload_n 0), (217, .getfield 172), (220, .aload_n 0), (221, .getfield 62), (224, .iload_n 2), (225, .iaload), (226, .iadd), (227, .invokestatic 156)]), (254, [(230, .goto 7), (233, .aload_n 0), (234, .getfield 172), (237, .putfield 172), (240, .iinc 2 1), (243, .goto (-48)), (246, .aload_n 0), (247, .getfield 92), (250, .iconst 1), (251, .isub), (252, .istore_n 2), (253, .iload_n 2)]), (271, [(254, .ifCond .lt 73), (257, .aload_n 0), (258, .getfield 80), (261, .iload_n 2), (262, .iload_n 1), (263, .bipush 27), (265, .idiv), (266, .iastore), (267, .iconst 0), (268, .istore_n 3), (269, .iload_n 3), (270, .aload_n 0)]), (291, [(271, .getfield 22), (274, .iload_n 2), (275, .iaload), (276, .if_icmp .ge 32), (279, .aload_n 0), (280, .getfield 83), (283, .aload_n 0), (284, .getfield 19), (287, .iload_n 2), (288, .iaload), (289, .iload_n 3), (290, .iadd)]), (312, [(291, .aload_n 0), (292, .iload_n 1), (293, .bipush 27), (295, .irem), (296, .iload_n 2), (297, .iload_n 3), (298, .invokevirtual 124), (301, .iastore), (302, .iinc 3 1), (305, .goto (-36)), (308, .aload_n 0), (309, .getfield 77)]), (331, [(312, .sipush 405), (315, .iload_n 2), (316, .imul), (317, .iload_n 1), (318, .iadd), (319, .iaload), (320, .istore_n 1), (321, .iinc 2 (-1)), (324, .goto (-71)), (327, .return_)])]
theorem ct_M_find : c_M_find.all (fun x => x.2.all (q_dec prog_6_method_27_code)) = true := by decide +kernel
def rm_M_find : Room := { frames := 6, cells := 0, slots := 0, locals := 137 }
def kV_M_find (cI : ClassId) (tv : Nat) : List (Nat × (Nat × Nat × Nat × q_T)) := [(175, 1, 0, 0, q_V 4 (T_M_begin cI tv)), (178, 2, 0, 0, q_V 4 (T_M_goOn cI tv)), (124, 4, 0, 0, q_V 4 (T_M_nameIn cI tv))]
def kI_M_find (cI : ClassId) (tv : Nat) : List (Nat × (Nat × Nat × Nat × q_T)) := []
def kS_M_find (cI : ClassId) (tv : Nat) : List (Nat × (Nat × Nat × Nat × q_T)) := [(156, 1, 0, 0, T_M_most cI tv)]
def F_M_find (cI : ClassId) (tv : Nat) : q_K → q_G → q_G := q_F c_M_find (q_as fl_M) (q_as []) (q_as lc_M) (q_cal (kV_M_find cI tv) (kI_M_find cI tv) (kS_M_find cI tv)) (q_as nw_M) cI (q_tb tv) 4 0 0 (none)
def T_M_find (cI : ClassId) (tv : Nat) : q_T := fun as w K => (lg_sl as).length ≤ 4 ∧ q_wp (F_M_find cI tv) as w K
theorem M_M_find (l : Launch) (D : va_G) (cI : ClassId) (tv : Nat) : q_Met l y_M_find (Cond.code y_M_find prog_6_method_27_code 4 (none) :: aW) rm_M_find D cls5 [(cI, .int)] (qSt tv) (T_M_find cI tv) := q_contract (cc := prog_6_method_27_code) (nL := 4) (own := "SpellPitchModel") (ini := false) (by decide +kernel) rfl rfl (nofun) ⟨ct_M_find, fl_M_ok, (fun n v h => by cases h), lc_M_ok, q_tb_ok tv, q_cal_ok (q_cons (q_callV (k := 0) (T' := tt_M) (qStOK tv) (M_M_begin l D cI tv) (gV kw_659 kw_661 ks_23 kw_5 kw_662) rfl (by decide +kernel) ⟨by decide, by decide⟩ rfl) (q_cons (q_callV (k := 1) (T' := tt_M) (qStOK tv) (M_M_goOn l D cI tv) (gV kw_681 kw_683 ks_27 kw_5 kw_684) rfl (by decide +kernel) ⟨by decide, by decide⟩ rfl) (q_cons (q_callV (k := 3) (T' := tt_M) (qStOK tv) (M_M_nameIn l D cI tv) (gV kw_667 kw_669 ks_25 kw_5 kw_670) rfl (by decide +kernel) ⟨by decide, by decide⟩ rfl) (q_nil)))) (q_nil) (q_cons (q_callS (k := 1) (qStOK tv) (M_M_most l D cI tv) (gS kw_712 kw_713 kw_5 kw_714) rfl (by decide +kernel) ⟨by decide, by decide⟩) (q_nil)), nw_M_ok, Or.inl (by decide +kernel)⟩
def c_M_sum : q_C := [(17, [(0, .aload_n 0), (1, .iconst 0), (2, .putfield 86), (5, .aload_n 0), (6, .invokevirtual 181), (9, .aload_n 0), (10, .getfield 166), (13, .ireturn)])]
theorem ct_M_sum : c_M_sum.all (fun x => x.2.all (q_dec prog_6_method_28_code)) = true := by decide +kernel
def rm_M_sum : Room := { frames := 7, cells := 0, slots := 0, locals := 160 }
def kV_M_sum (cI : ClassId) (tv : Nat) : List (Nat × (Nat × Nat × Nat × q_T)) := [(181, 1, 0, 0, q_V 4 (T_M_find cI tv))]
def kI_M_sum (cI : ClassId) (tv : Nat) : List (Nat × (Nat × Nat × Nat × q_T)) := []
def kS_M_sum (cI : ClassId) (tv : Nat) : List (Nat × (Nat × Nat × Nat × q_T)) := []
def F_M_sum (cI : ClassId) (tv : Nat) : q_K → q_G → q_G := q_F c_M_sum (q_as fl_M) (q_as []) (q_as lc_M) (q_cal (kV_M_sum cI tv) (kI_M_sum cI tv) (kS_M_sum cI tv)) (q_as nw_M) cI (q_tb tv) 1 0 0 (some FieldType.int)
def T_M_sum (cI : ClassId) (tv : Nat) : q_T := fun as w K => (lg_sl as).length ≤ 1 ∧ q_wp (F_M_sum cI tv) as w K
theorem M_M_sum (l : Launch) (D : va_G) (cI : ClassId) (tv : Nat) : q_Met l y_M_sum (Cond.code y_M_sum prog_6_method_28_code 1 (some FieldType.int) :: aW) rm_M_sum D cls5 [(cI, .int)] (qSt tv) (T_M_sum cI tv) := q_contract (cc := prog_6_method_28_code) (nL := 1) (own := "SpellPitchModel") (ini := false) (by decide +kernel) rfl rfl (nofun) ⟨ct_M_sum, fl_M_ok, (fun n v h => by cases h), lc_M_ok, q_tb_ok tv, q_cal_ok (q_cons (q_callV (k := 0) (T' := tt_M) (qStOK tv) (M_M_find l D cI tv) (gV kw_655 kw_657 ks_22 kw_5 kw_658) rfl (by decide +kernel) ⟨by decide, by decide⟩ rfl) (q_nil)) (q_nil) (q_nil), nw_M_ok, Or.inl (by decide +kernel)⟩
def c_M_signs : q_C := [(17, [(0, .aload_n 0), (1, .iconst 0), (2, .putfield 86), (5, .aload_n 0), (6, .invokevirtual 181), (9, .aload_n 0), (10, .getfield 169), (13, .ireturn)])]
theorem ct_M_signs : c_M_signs.all (fun x => x.2.all (q_dec prog_6_method_29_code)) = true := by decide +kernel
def rm_M_signs : Room := { frames := 7, cells := 0, slots := 0, locals := 160 }
def kV_M_signs (cI : ClassId) (tv : Nat) : List (Nat × (Nat × Nat × Nat × q_T)) := [(181, 1, 0, 0, q_V 4 (T_M_find cI tv))]
def kI_M_signs (cI : ClassId) (tv : Nat) : List (Nat × (Nat × Nat × Nat × q_T)) := []
def kS_M_signs (cI : ClassId) (tv : Nat) : List (Nat × (Nat × Nat × Nat × q_T)) := []
def F_M_signs (cI : ClassId) (tv : Nat) : q_K → q_G → q_G := q_F c_M_signs (q_as fl_M) (q_as []) (q_as lc_M) (q_cal (kV_M_signs cI tv) (kI_M_signs cI tv) (kS_M_signs cI tv)) (q_as nw_M) cI (q_tb tv) 1 0 0 (some FieldType.int)
def T_M_signs (cI : ClassId) (tv : Nat) : q_T := fun as w K => (lg_sl as).length ≤ 1 ∧ q_wp (F_M_signs cI tv) as w K
theorem M_M_signs (l : Launch) (D : va_G) (cI : ClassId) (tv : Nat) : q_Met l y_M_signs (Cond.code y_M_signs prog_6_method_29_code 1 (some FieldType.int) :: aW) rm_M_signs D cls5 [(cI, .int)] (qSt tv) (T_M_signs cI tv) := q_contract (cc := prog_6_method_29_code) (nL := 1) (own := "SpellPitchModel") (ini := false) (by decide +kernel) rfl rfl (nofun) ⟨ct_M_signs, fl_M_ok, (fun n v h => by cases h), lc_M_ok, q_tb_ok tv, q_cal_ok (q_cons (q_callV (k := 0) (T' := tt_M) (qStOK tv) (M_M_find l D cI tv) (gV kw_655 kw_657 ks_22 kw_5 kw_658) rfl (by decide +kernel) ⟨by decide, by decide⟩ rfl) (q_nil)) (q_nil) (q_nil), nw_M_ok, Or.inl (by decide +kernel)⟩
def c_M_ties : q_C := [(17, [(0, .aload_n 0), (1, .iconst 0), (2, .putfield 86), (5, .aload_n 0), (6, .invokevirtual 181), (9, .aload_n 0), (10, .getfield 172), (13, .ireturn)])]
theorem ct_M_ties : c_M_ties.all (fun x => x.2.all (q_dec prog_6_method_30_code)) = true := by decide +kernel
def rm_M_ties : Room := { frames := 7, cells := 0, slots := 0, locals := 160 }
def kV_M_ties (cI : ClassId) (tv : Nat) : List (Nat × (Nat × Nat × Nat × q_T)) := [(181, 1, 0, 0, q_V 4 (T_M_find cI tv))]
def kI_M_ties (cI : ClassId) (tv : Nat) : List (Nat × (Nat × Nat × Nat × q_T)) := []
def kS_M_ties (cI : ClassId) (tv : Nat) : List (Nat × (Nat × Nat × Nat × q_T)) := []
def F_M_ties (cI : ClassId) (tv : Nat) : q_K → q_G → q_G := q_F c_M_ties (q_as fl_M) (q_as []) (q_as lc_M) (q_cal (kV_M_ties cI tv) (kI_M_ties cI tv) (kS_M_ties cI tv)) (q_as nw_M) cI (q_tb tv) 1 0 0 (some FieldType.int)
def T_M_ties (cI : ClassId) (tv : Nat) : q_T := fun as w K => (lg_sl as).length ≤ 1 ∧ q_wp (F_M_ties cI tv) as w K
theorem M_M_ties (l : Launch) (D : va_G) (cI : ClassId) (tv : Nat) : q_Met l y_M_ties (Cond.code y_M_ties prog_6_method_30_code 1 (some FieldType.int) :: aW) rm_M_ties D cls5 [(cI, .int)] (qSt tv) (T_M_ties cI tv) := q_contract (cc := prog_6_method_30_code) (nL := 1) (own := "SpellPitchModel") (ini := false) (by decide +kernel) rfl rfl (nofun) ⟨ct_M_ties, fl_M_ok, (fun n v h => by cases h), lc_M_ok, q_tb_ok tv, q_cal_ok (q_cons (q_callV (k := 0) (T' := tt_M) (qStOK tv) (M_M_find l D cI tv) (gV kw_655 kw_657 ks_22 kw_5 kw_658) rfl (by decide +kernel) ⟨by decide, by decide⟩ rfl) (q_nil)) (q_nil) (q_nil), nw_M_ok, Or.inl (by decide +kernel)⟩
def c_M_name : q_C := [(20, [(0, .aload_n 0), (1, .iconst 0), (2, .putfield 86), (5, .aload_n 0), (6, .iload_n 1), (7, .invokevirtual 99), (10, .ifCond .ne 5), (13, .iconst (-1)), (14, .ireturn), (15, .iload_n 2), (16, .ifCond .lt 8), (19, .iload_n 2)]), (39, [(20, .iconst 3), (21, .if_icmp .le 6), (24, .bipush (-2)), (26, .ireturn), (27, .aload_n 0), (28, .invokevirtual 181), (31, .aload_n 0), (32, .getfield 83), (35, .iload_n 1), (36, .iaload), (37, .istore_n 3), (38, .iload_n 2)]), (63, [(39, .ifCond .ne 7), (42, .iload_n 3), (43, .goto 39), (46, .iload_n 2), (47, .iconst 1), (48, .if_icmp .ne 10), (51, .iload_n 3), (52, .invokestatic 121), (55, .goto 27), (58, .iload_n 2), (59, .iconst 2), (60, .if_icmp .ne 12)]), (86, [(63, .iload_n 3), (64, .invokestatic 114), (67, .iconst 2), (68, .iadd), (69, .goto 13), (72, .iload_n 3), (73, .aload_n 0), (74, .getfield 7), (77, .iload_n 1), (78, .iaload), (79, .invokestatic 118), (82, .ireturn)])]
theorem ct_M_name : c_M_name.all (fun x => x.2.all (q_dec prog_6_method_31_code)) = true := by decide +kernel
def rm_M_name : Room := { frames := 7, cells := 0, slots := 0, locals := 160 }
def kV_M_name (cI : ClassId) (tv : Nat) : List (Nat × (Nat × Nat × Nat × q_T)) := [(99, 2, 0, 0, q_V 4 (T_M_isSound cI tv)), (181, 1, 0, 0, q_V 4 (T_M_find cI tv))]
def kI_M_name (cI : ClassId) (tv : Nat) : List (Nat × (Nat × Nat × Nat × q_T)) := []
def kS_M_name (cI : ClassId) (tv : Nat) : List (Nat × (Nat × Nat × Nat × q_T)) := [(121, 1, 0, 0, T_M_letterOf cI tv), (114, 1, 0, 0, T_M_signsOf cI tv), (118, 2, 0, 0, T_M_octaveOf cI tv)]
def F_M_name (cI : ClassId) (tv : Nat) : q_K → q_G → q_G := q_F c_M_name (q_as fl_M) (q_as []) (q_as lc_M) (q_cal (kV_M_name cI tv) (kI_M_name cI tv) (kS_M_name cI tv)) (q_as nw_M) cI (q_tb tv) 4 0 0 (some FieldType.int)
def T_M_name (cI : ClassId) (tv : Nat) : q_T := fun as w K => (lg_sl as).length ≤ 4 ∧ q_wp (F_M_name cI tv) as w K
theorem M_M_name (l : Launch) (D : va_G) (cI : ClassId) (tv : Nat) : q_Met l y_M_name (Cond.code y_M_name prog_6_method_31_code 4 (some FieldType.int) :: aW) rm_M_name D cls5 [(cI, .int)] (qSt tv) (T_M_name cI tv) := q_contract (cc := prog_6_method_31_code) (nL := 4) (own := "SpellPitchModel") (ini := false) (by decide +kernel) rfl rfl (nofun) ⟨ct_M_name, fl_M_ok, (fun n v h => by cases h), lc_M_ok, q_tb_ok tv, q_cal_ok (q_cons (q_callV (k := 1) (T' := tt_M) (qStOK tv) (M_M_isSound l D cI tv) (gV kw_629 kw_631 ks_21 kw_5 kw_632) rfl (by decide +kernel) ⟨by decide, by decide⟩ rfl) (q_cons (q_callV (k := 0) (T' := tt_M) (qStOK tv) (M_M_find l D cI tv) (gV kw_655 kw_657 ks_22 kw_5 kw_658) rfl (by decide +kernel) ⟨by decide, by decide⟩ rfl) (q_nil))) (q_nil) (q_cons (q_callS (k := 1) (qStOK tv) (M_M_letterOf l D cI tv) (gS kw_698 kw_699 kw_5 kw_700) rfl (by decide +kernel) ⟨by decide, by decide⟩) (q_cons (q_callS (k := 1) (qStOK tv) (M_M_signsOf l D cI tv) (gS kw_675 kw_676 kw_5 kw_677) rfl (by decide +kernel) ⟨by decide, by decide⟩) (q_cons (q_callS (k := 2) (qStOK tv) (M_M_octaveOf l D cI tv) (gS kw_695 kw_696 kw_5 kw_697) rfl (by decide +kernel) ⟨by decide, by decide⟩) (q_nil)))), nw_M_ok, Or.inl (by decide +kernel)⟩
def c_M_keyOf : q_C := [(20, [(0, .aload_n 0), (1, .iconst 0), (2, .putfield 86), (5, .aload_n 0), (6, .iload_n 1), (7, .invokevirtual 99), (10, .ifCond .ne 5), (13, .iconst (-1)), (14, .ireturn), (15, .aload_n 0), (16, .invokevirtual 181), (19, .aload_n 0)]), (34, [(20, .getfield 80), (23, .aload_n 0), (24, .getfield 13), (27, .iload_n 1), (28, .iaload), (29, .iaload), (30, .ireturn)])]
theorem ct_M_keyOf : c_M_keyOf.all (fun x => x.2.all (q_dec prog_6_method_32_code)) = true := by decide +kernel
def rm_M_keyOf : Room := { frames := 7, cells := 0, slots := 0, locals := 160 }
def kV_M_keyOf (cI : ClassId) (tv : Nat) : List (Nat × (Nat × Nat × Nat × q_T)) := [(99, 2, 0, 0, q_V 4 (T_M_isSound cI tv)), (181, 1, 0, 0, q_V 4 (T_M_find cI tv))]
def kI_M_keyOf (cI : ClassId) (tv : Nat) : List (Nat × (Nat × Nat × Nat × q_T)) := []
def kS_M_keyOf (cI : ClassId) (tv : Nat) : List (Nat × (Nat × Nat × Nat × q_T)) := []
def F_M_keyOf (cI : ClassId) (tv : Nat) : q_K → q_G → q_G := q_F c_M_keyOf (q_as fl_M) (q_as []) (q_as lc_M) (q_cal (kV_M_keyOf cI tv) (kI_M_keyOf cI tv) (kS_M_keyOf cI tv)) (q_as nw_M) cI (q_tb tv) 2 0 0 (some FieldType.int)
def T_M_keyOf (cI : ClassId) (tv : Nat) : q_T := fun as w K => (lg_sl as).length ≤ 2 ∧ q_wp (F_M_keyOf cI tv) as w K
theorem M_M_keyOf (l : Launch) (D : va_G) (cI : ClassId) (tv : Nat) : q_Met l y_M_keyOf (Cond.code y_M_keyOf prog_6_method_32_code 2 (some FieldType.int) :: aW) rm_M_keyOf D cls5 [(cI, .int)] (qSt tv) (T_M_keyOf cI tv) := q_contract (cc := prog_6_method_32_code) (nL := 2) (own := "SpellPitchModel") (ini := false) (by decide +kernel) rfl rfl (nofun) ⟨ct_M_keyOf, fl_M_ok, (fun n v h => by cases h), lc_M_ok, q_tb_ok tv, q_cal_ok (q_cons (q_callV (k := 1) (T' := tt_M) (qStOK tv) (M_M_isSound l D cI tv) (gV kw_629 kw_631 ks_21 kw_5 kw_632) rfl (by decide +kernel) ⟨by decide, by decide⟩ rfl) (q_cons (q_callV (k := 0) (T' := tt_M) (qStOK tv) (M_M_find l D cI tv) (gV kw_655 kw_657 ks_22 kw_5 kw_658) rfl (by decide +kernel) ⟨by decide, by decide⟩ rfl) (q_nil))) (q_nil) (q_nil), nw_M_ok, Or.inl (by decide +kernel)⟩
def c_M_isTurn : q_C := [(18, [(0, .aload_n 0), (1, .getfield 80), (4, .iload_n 1), (5, .iaload), (6, .aload_n 0), (7, .getfield 80), (10, .iload_n 1), (11, .iconst 1), (12, .isub), (13, .iaload), (14, .isub), (15, .invokestatic 134)]), (32, [(18, .bipush 12), (20, .if_icmp .ne 7), (23, .iconst 1), (24, .goto 4), (27, .iconst 0), (28, .ireturn)])]
theorem ct_M_isTurn : c_M_isTurn.all (fun x => x.2.all (q_dec prog_6_method_33_code)) = true := by decide +kernel
def rm_M_isTurn : Room := { frames := 1, cells := 0, slots := 0, locals := 20 }
def kV_M_isTurn (cI : ClassId) (tv : Nat) : List (Nat × (Nat × Nat × Nat × q_T)) := []
def kI_M_isTurn (cI : ClassId) (tv : Nat) : List (Nat × (Nat × Nat × Nat × q_T)) := []
def kS_M_isTurn (cI : ClassId) (tv : Nat) : List (Nat × (Nat × Nat × Nat × q_T)) := [(134, 1, 0, 0, T_M_size cI tv)]
def F_M_isTurn (cI : ClassId) (tv : Nat) : q_K → q_G → q_G := q_F c_M_isTurn (q_as fl_M) (q_as []) (q_as lc_M) (q_cal (kV_M_isTurn cI tv) (kI_M_isTurn cI tv) (kS_M_isTurn cI tv)) (q_as nw_M) cI (q_tb tv) 2 0 0 (some FieldType.boolean)
def T_M_isTurn (cI : ClassId) (tv : Nat) : q_T := fun as w K => (lg_sl as).length ≤ 2 ∧ q_wp (F_M_isTurn cI tv) as w K
theorem M_M_isTurn (l : Launch) (D : va_G) (cI : ClassId) (tv : Nat) : q_Met l y_M_isTurn (Cond.code y_M_isTurn prog_6_method_33_code 2 (some FieldType.boolean) :: aW) rm_M_isTurn D cls5 [(cI, .int)] (qSt tv) (T_M_isTurn cI tv) := q_contract (cc := prog_6_method_33_code) (nL := 2) (own := "SpellPitchModel") (ini := false) (by decide +kernel) rfl rfl (nofun) ⟨ct_M_isTurn, fl_M_ok, (fun n v h => by cases h), lc_M_ok, q_tb_ok tv, q_cal_ok (q_nil) (q_nil) (q_cons (q_callS (k := 1) (qStOK tv) (M_M_size l D cI tv) (gS kw_678 kw_679 kw_5 kw_680) rfl (by decide +kernel) ⟨by decide, by decide⟩) (q_nil)), nw_M_ok, Or.inl (by decide +kernel)⟩
def c_M_turned : q_C := [(18, [(0, .aload_n 0), (1, .iconst 0), (2, .putfield 86), (5, .aload_n 0), (6, .invokevirtual 181), (9, .iconst 0), (10, .istore_n 1), (11, .iconst 1), (12, .istore_n 2), (13, .iload_n 2), (14, .aload_n 0), (15, .getfield 92)]), (40, [(18, .if_icmp .ge 25), (21, .iload_n 1), (22, .aload_n 0), (23, .iload_n 2), (24, .invokevirtual 184), (27, .ifCond .eq 7), (30, .iconst 1), (31, .goto 4), (34, .iconst 0), (35, .iadd), (36, .istore_n 1), (37, .iinc 2 1)]), (48, [(40, .goto (-27)), (43, .iload_n 1), (44, .ireturn)])]
theorem ct_M_turned : c_M_turned.all (fun x => x.2.all (q_dec prog_6_method_34_code)) = true := by decide +kernel
def rm_M_turned : Room := { frames := 7, cells := 0, slots := 0, locals := 160 }
def kV_M_turned (cI : ClassId) (tv : Nat) : List (Nat × (Nat × Nat × Nat × q_T)) := [(181, 1, 0, 0, q_V 4 (T_M_find cI tv)), (184, 2, 0, 0, q_V 4 (T_M_isTurn cI tv))]
def kI_M_turned (cI : ClassId) (tv : Nat) : List (Nat × (Nat × Nat × Nat × q_T)) := []
def kS_M_turned (cI : ClassId) (tv : Nat) : List (Nat × (Nat × Nat × Nat × q_T)) := []
def F_M_turned (cI : ClassId) (tv : Nat) : q_K → q_G → q_G := q_F c_M_turned (q_as fl_M) (q_as []) (q_as lc_M) (q_cal (kV_M_turned cI tv) (kI_M_turned cI tv) (kS_M_turned cI tv)) (q_as nw_M) cI (q_tb tv) 3 0 0 (some FieldType.int)
def T_M_turned (cI : ClassId) (tv : Nat) : q_T := fun as w K => (lg_sl as).length ≤ 3 ∧ q_wp (F_M_turned cI tv) as w K
theorem M_M_turned (l : Launch) (D : va_G) (cI : ClassId) (tv : Nat) : q_Met l y_M_turned (Cond.code y_M_turned prog_6_method_34_code 3 (some FieldType.int) :: aW) rm_M_turned D cls5 [(cI, .int)] (qSt tv) (T_M_turned cI tv) := q_contract (cc := prog_6_method_34_code) (nL := 3) (own := "SpellPitchModel") (ini := false) (by decide +kernel) rfl rfl (nofun) ⟨ct_M_turned, fl_M_ok, (fun n v h => by cases h), lc_M_ok, q_tb_ok tv, q_cal_ok (q_cons (q_callV (k := 0) (T' := tt_M) (qStOK tv) (M_M_find l D cI tv) (gV kw_655 kw_657 ks_22 kw_5 kw_658) rfl (by decide +kernel) ⟨by decide, by decide⟩ rfl) (q_cons (q_callV (k := 1) (T' := tt_M) (qStOK tv) (M_M_isTurn l D cI tv) (gV kw_736 kw_738 ks_31 kw_5 kw_739) rfl (by decide +kernel) ⟨by decide, by decide⟩ rfl) (q_nil))) (q_nil) (q_nil), nw_M_ok, Or.inl (by decide +kernel)⟩
def c_M_turn : q_C := [(18, [(0, .aload_n 0), (1, .iconst 0), (2, .putfield 86), (5, .aload_n 0), (6, .invokevirtual 181), (9, .iconst 0), (10, .istore_n 2), (11, .iconst 1), (12, .istore_n 3), (13, .iload_n 3), (14, .aload_n 0), (15, .getfield 92)]), (42, [(18, .if_icmp .ge 27), (21, .aload_n 0), (22, .iload_n 3), (23, .invokevirtual 184), (26, .ifCond .eq 13), (29, .iload_n 2), (30, .iload_n 1), (31, .if_icmp .ne 5), (34, .iload_n 3), (35, .ireturn), (36, .iinc 2 1), (39, .iinc 3 1)]), (50, [(42, .goto (-29)), (45, .iconst (-1)), (46, .ireturn)])]
theorem ct_M_turn : c_M_turn.all (fun x => x.2.all (q_dec prog_6_method_35_code)) = true := by decide +kernel
def rm_M_turn : Room := { frames := 7, cells := 0, slots := 0, locals := 160 }
def kV_M_turn (cI : ClassId) (tv : Nat) : List (Nat × (Nat × Nat × Nat × q_T)) := [(181, 1, 0, 0, q_V 4 (T_M_find cI tv)), (184, 2, 0, 0, q_V 4 (T_M_isTurn cI tv))]
def kI_M_turn (cI : ClassId) (tv : Nat) : List (Nat × (Nat × Nat × Nat × q_T)) := []
def kS_M_turn (cI : ClassId) (tv : Nat) : List (Nat × (Nat × Nat × Nat × q_T)) := []
def F_M_turn (cI : ClassId) (tv : Nat) : q_K → q_G → q_G := q_F c_M_turn (q_as fl_M) (q_as []) (q_as lc_M) (q_cal (kV_M_turn cI tv) (kI_M_turn cI tv) (kS_M_turn cI tv)) (q_as nw_M) cI (q_tb tv) 4 0 0 (some FieldType.int)
def T_M_turn (cI : ClassId) (tv : Nat) : q_T := fun as w K => (lg_sl as).length ≤ 4 ∧ q_wp (F_M_turn cI tv) as w K
theorem M_M_turn (l : Launch) (D : va_G) (cI : ClassId) (tv : Nat) : q_Met l y_M_turn (Cond.code y_M_turn prog_6_method_35_code 4 (some FieldType.int) :: aW) rm_M_turn D cls5 [(cI, .int)] (qSt tv) (T_M_turn cI tv) := q_contract (cc := prog_6_method_35_code) (nL := 4) (own := "SpellPitchModel") (ini := false) (by decide +kernel) rfl rfl (nofun) ⟨ct_M_turn, fl_M_ok, (fun n v h => by cases h), lc_M_ok, q_tb_ok tv, q_cal_ok (q_cons (q_callV (k := 0) (T' := tt_M) (qStOK tv) (M_M_find l D cI tv) (gV kw_655 kw_657 ks_22 kw_5 kw_658) rfl (by decide +kernel) ⟨by decide, by decide⟩ rfl) (q_cons (q_callV (k := 1) (T' := tt_M) (qStOK tv) (M_M_isTurn l D cI tv) (gV kw_736 kw_738 ks_31 kw_5 kw_739) rfl (by decide +kernel) ⟨by decide, by decide⟩ rfl) (q_nil))) (q_nil) (q_nil), nw_M_ok, Or.inl (by decide +kernel)⟩
def c_M_isInterval : q_C := [(19, [(0, .iload_n 0), (1, .ifCond .lt 13), (4, .iload_n 0), (5, .bipush 38), (7, .if_icmp .gt 7), (10, .iconst 1), (11, .goto 4), (14, .iconst 0), (15, .ireturn)])]
theorem ct_M_isInterval : c_M_isInterval.all (fun x => x.2.all (q_dec prog_6_method_36_code)) = true := by decide +kernel
def rm_M_isInterval : Room := { frames := 0, cells := 0, slots := 0, locals := 0 }
def kV_M_isInterval (cI : ClassId) (tv : Nat) : List (Nat × (Nat × Nat × Nat × q_T)) := []
def kI_M_isInterval (cI : ClassId) (tv : Nat) : List (Nat × (Nat × Nat × Nat × q_T)) := []
def kS_M_isInterval (cI : ClassId) (tv : Nat) : List (Nat × (Nat × Nat × Nat × q_T)) := []
def F_M_isInterval (cI : ClassId) (tv : Nat) : q_K → q_G → q_G := q_F c_M_isInterval (q_as fl_M) (q_as []) (q_as lc_M) (q_cal (kV_M_isInterval cI tv) (kI_M_isInterval cI tv) (kS_M_isInterval cI tv)) (q_as nw_M) cI (q_tb tv) 1 0 0 (some FieldType.boolean)
def T_M_isInterval (cI : ClassId) (tv : Nat) : q_T := fun as w K => (lg_sl as).length ≤ 1 ∧ q_wp (F_M_isInterval cI tv) as w K
theorem M_M_isInterval (l : Launch) (D : va_G) (cI : ClassId) (tv : Nat) : q_Met l y_M_isInterval (Cond.code y_M_isInterval prog_6_method_36_code 1 (some FieldType.boolean) :: aW) rm_M_isInterval D cls5 [(cI, .int)] (qSt tv) (T_M_isInterval cI tv) := q_contract (cc := prog_6_method_36_code) (nL := 1) (own := "SpellPitchModel") (ini := false) (by decide +kernel) rfl rfl (nofun) ⟨ct_M_isInterval, fl_M_ok, (fun n v h => by cases h), lc_M_ok, q_tb_ok tv, q_cal_ok (q_nil) (q_nil) (q_nil), nw_M_ok, Or.inl (by decide +kernel)⟩
def c_M_stepsOf : q_C := [(15, [(0, .iconst 4), (1, .iload_n 0), (2, .bipush 19), (4, .isub), (5, .imul), (6, .bipush 7), (8, .invokestatic 110), (11, .ireturn)])]
theorem ct_M_stepsOf : c_M_stepsOf.all (fun x => x.2.all (q_dec prog_6_method_37_code)) = true := by decide +kernel
def rm_M_stepsOf : Room := { frames := 1, cells := 0, slots := 0, locals := 22 }
def kV_M_stepsOf (cI : ClassId) (tv : Nat) : List (Nat × (Nat × Nat × Nat × q_T)) := []
def kI_M_stepsOf (cI : ClassId) (tv : Nat) : List (Nat × (Nat × Nat × Nat × q_T)) := []
def kS_M_stepsOf (cI : ClassId) (tv : Nat) : List (Nat × (Nat × Nat × Nat × q_T)) := [(110, 2, 0, 0, T_M_modulo cI tv)]
def F_M_stepsOf (cI : ClassId) (tv : Nat) : q_K → q_G → q_G := q_F c_M_stepsOf (q_as fl_M) (q_as []) (q_as lc_M) (q_cal (kV_M_stepsOf cI tv) (kI_M_stepsOf cI tv) (kS_M_stepsOf cI tv)) (q_as nw_M) cI (q_tb tv) 1 0 0 (some FieldType.int)
def T_M_stepsOf (cI : ClassId) (tv : Nat) : q_T := fun as w K => (lg_sl as).length ≤ 1 ∧ q_wp (F_M_stepsOf cI tv) as w K
theorem M_M_stepsOf (l : Launch) (D : va_G) (cI : ClassId) (tv : Nat) : q_Met l y_M_stepsOf (Cond.code y_M_stepsOf prog_6_method_37_code 1 (some FieldType.int) :: aW) rm_M_stepsOf D cls5 [(cI, .int)] (qSt tv) (T_M_stepsOf cI tv) := q_contract (cc := prog_6_method_37_code) (nL := 1) (own := "SpellPitchModel") (ini := false) (by decide +kernel) rfl rfl (nofun) ⟨ct_M_stepsOf, fl_M_ok, (fun n v h => by cases h), lc_M_ok, q_tb_ok tv, q_cal_ok (q_nil) (q_nil) (q_cons (q_callS (k := 2) (qStOK tv) (M_M_modulo l D cI tv) (gS kw_701 kw_702 kw_5 kw_703) rfl (by decide +kernel) ⟨by decide, by decide⟩) (q_nil)), nw_M_ok, Or.inl (by decide +kernel)⟩
def c_M_halvesOf : q_C := [(16, [(0, .iload_n 0), (1, .bipush 19), (3, .isub), (4, .istore_n 1), (5, .iconst 4), (6, .iload_n 1), (7, .imul), (8, .iconst 4), (9, .iload_n 1), (10, .imul), (11, .bipush 7), (13, .invokestatic 110)]), (34, [(16, .isub), (17, .bipush 7), (19, .idiv), (20, .istore_n 2), (21, .bipush 7), (23, .iload_n 1), (24, .imul), (25, .bipush 12), (27, .iload_n 2), (28, .imul), (29, .isub), (30, .ireturn)])]
theorem ct_M_halvesOf : c_M_halvesOf.all (fun x => x.2.all (q_dec prog_6_method_38_code)) = true := by decide +kernel
def rm_M_halvesOf : Room := { frames := 1, cells := 0, slots := 0, locals := 22 }
def kV_M_halvesOf (cI : ClassId) (tv : Nat) : List (Nat × (Nat × Nat × Nat × q_T)) := []
def kI_M_halvesOf (cI : ClassId) (tv : Nat) : List (Nat × (Nat × Nat × Nat × q_T)) := []
def kS_M_halvesOf (cI : ClassId) (tv : Nat) : List (Nat × (Nat × Nat × Nat × q_T)) := [(110, 2, 0, 0, T_M_modulo cI tv)]
def F_M_halvesOf (cI : ClassId) (tv : Nat) : q_K → q_G → q_G := q_F c_M_halvesOf (q_as fl_M) (q_as []) (q_as lc_M) (q_cal (kV_M_halvesOf cI tv) (kI_M_halvesOf cI tv) (kS_M_halvesOf cI tv)) (q_as nw_M) cI (q_tb tv) 3 0 0 (some FieldType.int)
def T_M_halvesOf (cI : ClassId) (tv : Nat) : q_T := fun as w K => (lg_sl as).length ≤ 3 ∧ q_wp (F_M_halvesOf cI tv) as w K
theorem M_M_halvesOf (l : Launch) (D : va_G) (cI : ClassId) (tv : Nat) : q_Met l y_M_halvesOf (Cond.code y_M_halvesOf prog_6_method_38_code 3 (some FieldType.int) :: aW) rm_M_halvesOf D cls5 [(cI, .int)] (qSt tv) (T_M_halvesOf cI tv) := q_contract (cc := prog_6_method_38_code) (nL := 3) (own := "SpellPitchModel") (ini := false) (by decide +kernel) rfl rfl (nofun) ⟨ct_M_halvesOf, fl_M_ok, (fun n v h => by cases h), lc_M_ok, q_tb_ok tv, q_cal_ok (q_nil) (q_nil) (q_cons (q_callS (k := 2) (qStOK tv) (M_M_modulo l D cI tv) (gS kw_701 kw_702 kw_5 kw_703) rfl (by decide +kernel) ⟨by decide, by decide⟩) (q_nil)), nw_M_ok, Or.inl (by decide +kernel)⟩
def c_M_interval : q_C := [(22, [(0, .aload_n 0), (1, .iconst 0), (2, .putfield 86), (5, .aload_n 0), (6, .iload_n 1), (7, .invokevirtual 99), (10, .ifCond .eq 11), (13, .aload_n 0), (14, .iload_n 2), (15, .invokevirtual 99), (18, .ifCond .ne 5), (21, .iconst (-1))]), (43, [(22, .ireturn), (23, .iload_n 3), (24, .ifCond .eq 11), (27, .iload_n 3), (28, .iconst 1), (29, .if_icmp .eq 6), (32, .bipush (-2)), (34, .ireturn), (35, .aload_n 0), (36, .invokevirtual 181), (39, .aload_n 0), (40, .getfield 83)]), (62, [(43, .iload_n 2), (44, .iaload), (45, .aload_n 0), (46, .getfield 83), (49, .iload_n 1), (50, .iaload), (51, .isub), (52, .bipush 19), (54, .iadd), (55, .istore 4), (57, .iload 4), (59, .invokestatic 187)]), (83, [(62, .ifCond .ne 6), (65, .bipush (-3)), (67, .ireturn), (68, .aload_n 0), (69, .getfield 83), (72, .iload_n 2), (73, .iaload), (74, .aload_n 0), (75, .getfield 7), (78, .iload_n 2), (79, .iaload), (80, .invokestatic 141)]), (102, [(83, .aload_n 0), (84, .getfield 83), (87, .iload_n 1), (88, .iaload), (89, .aload_n 0), (90, .getfield 7), (93, .iload_n 1), (94, .iaload), (95, .invokestatic 141), (98, .isub), (99, .istore 5), (101, .iload_n 3)]), (128, [(102, .ifCond .ne 8), (105, .iload 4), (107, .goto 17), (110, .iload 5), (112, .iload 4), (114, .invokestatic 190), (117, .isub), (118, .bipush 7), (120, .idiv), (121, .bipush 12), (123, .iadd), (124, .ireturn)])]
theorem ct_M_interval : c_M_interval.all (fun x => x.2.all (q_dec prog_6_method_39_code)) = true := by decide +kernel
def rm_M_interval : Room := { frames := 7, cells := 0, slots := 0, locals := 160 }
def kV_M_interval (cI : ClassId) (tv : Nat) : List (Nat × (Nat × Nat × Nat × q_T)) := [(99, 2, 0, 0, q_V 4 (T_M_isSound cI tv)), (181, 1, 0, 0, q_V 4 (T_M_find cI tv))]
def kI_M_interval (cI : ClassId) (tv : Nat) : List (Nat × (Nat × Nat × Nat × q_T)) := []
def kS_M_interval (cI : ClassId) (tv : Nat) : List (Nat × (Nat × Nat × Nat × q_T)) := [(187, 1, 0, 0, T_M_isInterval cI tv), (141, 2, 0, 0, T_M_placeOf cI tv), (190, 1, 0, 0, T_M_stepsOf cI tv)]
def F_M_interval (cI : ClassId) (tv : Nat) : q_K → q_G → q_G := q_F c_M_interval (q_as fl_M) (q_as []) (q_as lc_M) (q_cal (kV_M_interval cI tv) (kI_M_interval cI tv) (kS_M_interval cI tv)) (q_as nw_M) cI (q_tb tv) 6 0 0 (some FieldType.int)
def T_M_interval (cI : ClassId) (tv : Nat) : q_T := fun as w K => (lg_sl as).length ≤ 6 ∧ q_wp (F_M_interval cI tv) as w K
theorem M_M_interval (l : Launch) (D : va_G) (cI : ClassId) (tv : Nat) : q_Met l y_M_interval (Cond.code y_M_interval prog_6_method_39_code 6 (some FieldType.int) :: aW) rm_M_interval D cls5 [(cI, .int)] (qSt tv) (T_M_interval cI tv) := q_contract (cc := prog_6_method_39_code) (nL := 6) (own := "SpellPitchModel") (ini := false) (by decide +kernel) rfl rfl (nofun) ⟨ct_M_interval, fl_M_ok, (fun n v h => by cases h), lc_M_ok, q_tb_ok tv, q_cal_ok (q_cons (q_callV (k := 1) (T' := tt_M) (qStOK tv) (M_M_isSound l D cI tv) (gV kw_629 kw_631 ks_21 kw_5 kw_632) rfl (by decide +kernel) ⟨by decide, by decide⟩ rfl) (q_cons (q_callV (k := 0) (T' := tt_M) (qStOK tv) (M_M_find l D cI tv) (gV kw_655 kw_657 ks_22 kw_5 kw_658) rfl (by decide +kernel) ⟨by decide, by decide⟩ rfl) (q_nil))) (q_nil) (q_cons (q_callS (k := 1) (qStOK tv) (M_M_isInterval l D cI tv) (gS kw_748 kw_749 kw_5 kw_750) rfl (by decide +kernel) ⟨by decide, by decide⟩) (q_cons (q_callS (k := 2) (qStOK tv) (M_M_placeOf l D cI tv) (gS kw_692 kw_693 kw_5 kw_694) rfl (by decide +kernel) ⟨by decide, by decide⟩) (q_cons (q_callS (k := 1) (qStOK tv) (M_M_stepsOf l D cI tv) (gS kw_751 kw_752 kw_5 kw_753) rfl (by decide +kernel) ⟨by decide, by decide⟩) (q_nil)))), nw_M_ok, Or.inl (by decide +kernel)⟩
def c_M_quality : q_C := [(23, [(0, .aload_n 0), (1, .iconst 0), (2, .putfield 86), (5, .iload_n 1), (6, .invokestatic 187), (9, .ifCond .eq 12), (12, .iload_n 2), (13, .ifCond .lt 8), (16, .iload_n 2), (17, .iconst 2), (18, .if_icmp .le 6), (21, .bipush (-2))]), (45, [(23, .ireturn), (24, .iload_n 2), (25, .iconst 2), (26, .if_icmp .ge 21), (29, .iload_n 2), (30, .ifCond .ne 10), (33, .iload_n 1), (34, .invokestatic 190), (37, .goto 9), (40, .iload_n 1), (41, .invokestatic 193), (44, .iconst 2)]), (65, [(45, .iadd), (46, .ireturn), (47, .iload_n 1), (48, .bipush 19), (50, .isub), (51, .invokestatic 134), (54, .istore_n 3), (55, .iload_n 1), (56, .bipush 19), (58, .if_icmp .lt 7), (61, .iconst 1), (62, .goto 4)]), (87, [(65, .iconst 0), (66, .istore 4), (68, .iload_n 3), (69, .iconst 1), (70, .if_icmp .gt 7), (73, .iconst 0), (74, .goto 51), (77, .iload_n 3), (78, .iconst 5), (79, .if_icmp .gt 16), (82, .iload 4), (84, .ifCond .eq 7)]), (111, [(87, .iconst 1), (88, .goto 37), (91, .iconst 2), (92, .goto 33), (95, .iload_n 3), (96, .bipush 12), (98, .if_icmp .gt 16), (101, .iload 4), (103, .ifCond .eq 7), (106, .iconst 3), (107, .goto 18), (110, .iconst 4)]), (129, [(111, .goto 14), (114, .iload 4), (116, .ifCond .eq 7), (119, .iconst 5), (120, .goto 5), (123, .bipush 6), (125, .ireturn)])]
theorem ct_M_quality : c_M_quality.all (fun x => x.2.all (q_dec prog_6_method_40_code)) = true := by decide +kernel
def rm_M_quality : Room := { frames := 2, cells := 0, slots := 0, locals := 44 }
def kV_M_quality (cI : ClassId) (tv : Nat) : List (Nat × (Nat × Nat × Nat × q_T)) := []
def kI_M_quality (cI : ClassId) (tv : Nat) : List (Nat × (Nat × Nat × Nat × q_T)) := []
def kS_M_quality (cI : ClassId) (tv : Nat) : List (Nat × (Nat × Nat × Nat × q_T)) := [(187, 1, 0, 0, T_M_isInterval cI tv), (190, 1, 0, 0, T_M_stepsOf cI tv), (193, 1, 0, 0, T_M_halvesOf cI tv), (134, 1, 0, 0, T_M_size cI tv)]
def F_M_quality (cI : ClassId) (tv : Nat) : q_K → q_G → q_G := q_F c_M_quality (q_as fl_M) (q_as []) (q_as lc_M) (q_cal (kV_M_quality cI tv) (kI_M_quality cI tv) (kS_M_quality cI tv)) (q_as nw_M) cI (q_tb tv) 5 0 0 (some FieldType.int)
def T_M_quality (cI : ClassId) (tv : Nat) : q_T := fun as w K => (lg_sl as).length ≤ 5 ∧ q_wp (F_M_quality cI tv) as w K
theorem M_M_quality (l : Launch) (D : va_G) (cI : ClassId) (tv : Nat) : q_Met l y_M_quality (Cond.code y_M_quality prog_6_method_40_code 5 (some FieldType.int) :: aW) rm_M_quality D cls5 [(cI, .int)] (qSt tv) (T_M_quality cI tv) := q_contract (cc := prog_6_method_40_code) (nL := 5) (own := "SpellPitchModel") (ini := false) (by decide +kernel) rfl rfl (nofun) ⟨ct_M_quality, fl_M_ok, (fun n v h => by cases h), lc_M_ok, q_tb_ok tv, q_cal_ok (q_nil) (q_nil) (q_cons (q_callS (k := 1) (qStOK tv) (M_M_isInterval l D cI tv) (gS kw_748 kw_749 kw_5 kw_750) rfl (by decide +kernel) ⟨by decide, by decide⟩) (q_cons (q_callS (k := 1) (qStOK tv) (M_M_stepsOf l D cI tv) (gS kw_751 kw_752 kw_5 kw_753) rfl (by decide +kernel) ⟨by decide, by decide⟩) (q_cons (q_callS (k := 1) (qStOK tv) (M_M_halvesOf l D cI tv) (gS kw_758 kw_759 kw_5 kw_760) rfl (by decide +kernel) ⟨by decide, by decide⟩) (q_cons (q_callS (k := 1) (qStOK tv) (M_M_size l D cI tv) (gS kw_678 kw_679 kw_5 kw_680) rfl (by decide +kernel) ⟨by decide, by decide⟩) (q_nil))))), nw_M_ok, Or.inl (by decide +kernel)⟩
def c_M_add : q_C := [(23, [(0, .aload_n 0), (1, .iconst 0), (2, .putfield 86), (5, .iload_n 1), (6, .invokestatic 187), (9, .ifCond .eq 10), (12, .iload_n 2), (13, .invokestatic 187), (16, .ifCond .ne 6), (19, .bipush (-2)), (21, .ireturn), (22, .iload_n 1)]), (46, [(23, .bipush 19), (25, .isub), (26, .iload_n 2), (27, .iadd), (28, .istore_n 3), (29, .iload_n 3), (30, .invokestatic 187), (33, .ifCond .eq 7), (36, .iload_n 3), (37, .goto 5), (40, .bipush (-3)), (42, .ireturn)])]
theorem ct_M_add : c_M_add.all (fun x => x.2.all (q_dec prog_6_method_41_code)) = true := by decide +kernel
def rm_M_add : Room := { frames := 1, cells := 0, slots := 0, locals := 20 }
def kV_M_add (cI : ClassId) (tv : Nat) : List (Nat × (Nat × Nat × Nat × q_T)) := []
def kI_M_add (cI : ClassId) (tv : Nat) : List (Nat × (Nat × Nat × Nat × q_T)) := []
def kS_M_add (cI : ClassId) (tv : Nat) : List (Nat × (Nat × Nat × Nat × q_T)) := [(187, 1, 0, 0, T_M_isInterval cI tv)]
def F_M_add (cI : ClassId) (tv : Nat) : q_K → q_G → q_G := q_F c_M_add (q_as fl_M) (q_as []) (q_as lc_M) (q_cal (kV_M_add cI tv) (kI_M_add cI tv) (kS_M_add cI tv)) (q_as nw_M) cI (q_tb tv) 4 0 0 (some FieldType.int)
def T_M_add (cI : ClassId) (tv : Nat) : q_T := fun as w K => (lg_sl as).length ≤ 4 ∧ q_wp (F_M_add cI tv) as w K
theorem M_M_add (l : Launch) (D : va_G) (cI : ClassId) (tv : Nat) : q_Met l y_M_add (Cond.code y_M_add prog_6_method_41_code 4 (some FieldType.int) :: aW) rm_M_add D cls5 [(cI, .int)] (qSt tv) (T_M_add cI tv) := q_contract (cc := prog_6_method_41_code) (nL := 4) (own := "SpellPitchModel") (ini := false) (by decide +kernel) rfl rfl (nofun) ⟨ct_M_add, fl_M_ok, (fun n v h => by cases h), lc_M_ok, q_tb_ok tv, q_cal_ok (q_nil) (q_nil) (q_cons (q_callS (k := 1) (qStOK tv) (M_M_isInterval l D cI tv) (gS kw_748 kw_749 kw_5 kw_750) rfl (by decide +kernel) ⟨by decide, by decide⟩) (q_nil)), nw_M_ok, Or.inl (by decide +kernel)⟩
def c_M_transpose : q_C := [(22, [(0, .aload_n 0), (1, .iconst 0), (2, .putfield 86), (5, .aload_n 0), (6, .iload_n 1), (7, .invokevirtual 99), (10, .ifCond .ne 5), (13, .iconst (-1)), (14, .ireturn), (15, .iload_n 2), (16, .invokestatic 187), (19, .ifCond .eq 12)]), (43, [(22, .iload_n 3), (23, .ifCond .eq 11), (26, .iload_n 3), (27, .iconst 1), (28, .if_icmp .eq 6), (31, .bipush (-2)), (33, .ireturn), (34, .aload_n 0), (35, .invokevirtual 181), (38, .aload_n 0), (39, .getfield 83), (42, .iload_n 1)]), (61, [(43, .iaload), (44, .iload_n 2), (45, .iadd), (46, .bipush 19), (48, .isub), (49, .istore 4), (51, .aload_n 0), (52, .getfield 7), (55, .iload_n 1), (56, .iaload), (57, .iload_n 2), (58, .invokestatic 193)]), (88, [(61, .iadd), (62, .istore 5), (64, .iload 4), (66, .ifCond .lt 22), (69, .iload 4), (71, .bipush 34), (73, .if_icmp .gt 15), (76, .iload 5), (78, .ifCond .lt 10), (81, .iload 5), (83, .bipush 127), (85, .if_icmp .le 6)]), (106, [(88, .bipush (-3)), (90, .ireturn), (91, .iload_n 3), (92, .ifCond .ne 8), (95, .iload 4), (97, .goto 5), (100, .iload 5), (102, .ireturn)])]
theorem ct_M_transpose : c_M_transpose.all (fun x => x.2.all (q_dec prog_6_method_42_code)) = true := by decide +kernel
def rm_M_transpose : Room := { frames := 7, cells := 0, slots := 0, locals := 160 }
def kV_M_transpose (cI : ClassId) (tv : Nat) : List (Nat × (Nat × Nat × Nat × q_T)) := [(99, 2, 0, 0, q_V 4 (T_M_isSound cI tv)), (181, 1, 0, 0, q_V 4 (T_M_find cI tv))]
def kI_M_transpose (cI : ClassId) (tv : Nat) : List (Nat × (Nat × Nat × Nat × q_T)) := []
def kS_M_transpose (cI : ClassId) (tv : Nat) : List (Nat × (Nat × Nat × Nat × q_T)) := [(187, 1, 0, 0, T_M_isInterval cI tv), (193, 1, 0, 0, T_M_halvesOf cI tv)]
def F_M_transpose (cI : ClassId) (tv : Nat) : q_K → q_G → q_G := q_F c_M_transpose (q_as fl_M) (q_as []) (q_as lc_M) (q_cal (kV_M_transpose cI tv) (kI_M_transpose cI tv) (kS_M_transpose cI tv)) (q_as nw_M) cI (q_tb tv) 6 0 0 (some FieldType.int)
def T_M_transpose (cI : ClassId) (tv : Nat) : q_T := fun as w K => (lg_sl as).length ≤ 6 ∧ q_wp (F_M_transpose cI tv) as w K
theorem M_M_transpose (l : Launch) (D : va_G) (cI : ClassId) (tv : Nat) : q_Met l y_M_transpose (Cond.code y_M_transpose prog_6_method_42_code 6 (some FieldType.int) :: aW) rm_M_transpose D cls5 [(cI, .int)] (qSt tv) (T_M_transpose cI tv) := q_contract (cc := prog_6_method_42_code) (nL := 6) (own := "SpellPitchModel") (ini := false) (by decide +kernel) rfl rfl (nofun) ⟨ct_M_transpose, fl_M_ok, (fun n v h => by cases h), lc_M_ok, q_tb_ok tv, q_cal_ok (q_cons (q_callV (k := 1) (T' := tt_M) (qStOK tv) (M_M_isSound l D cI tv) (gV kw_629 kw_631 ks_21 kw_5 kw_632) rfl (by decide +kernel) ⟨by decide, by decide⟩ rfl) (q_cons (q_callV (k := 0) (T' := tt_M) (qStOK tv) (M_M_find l D cI tv) (gV kw_655 kw_657 ks_22 kw_5 kw_658) rfl (by decide +kernel) ⟨by decide, by decide⟩ rfl) (q_nil))) (q_nil) (q_cons (q_callS (k := 1) (qStOK tv) (M_M_isInterval l D cI tv) (gS kw_748 kw_749 kw_5 kw_750) rfl (by decide +kernel) ⟨by decide, by decide⟩) (q_cons (q_callS (k := 1) (qStOK tv) (M_M_halvesOf l D cI tv) (gS kw_758 kw_759 kw_5 kw_760) rfl (by decide +kernel) ⟨by decide, by decide⟩) (q_nil))), nw_M_ok, Or.inl (by decide +kernel)⟩
def c_M_micro : q_C := [(21, [(0, .aload_n 0), (1, .iconst 0), (2, .putfield 86), (5, .aload_n 0), (6, .iload_n 1), (7, .invokevirtual 99), (10, .ifCond .ne 5), (13, .iconst (-1)), (14, .ireturn), (15, .iload_n 2), (16, .bipush (-6)), (18, .if_icmp .lt 19)]), (41, [(21, .iload_n 2), (22, .bipush 6), (24, .if_icmp .gt 13), (27, .iload_n 3), (28, .iconst 2), (29, .if_icmp .eq 11), (32, .iload_n 3), (33, .iconst 3), (34, .if_icmp .eq 6), (37, .bipush (-2)), (39, .ireturn), (40, .aload_n 0)]), (62, [(41, .invokevirtual 181), (44, .bipush 6), (46, .aload_n 0), (47, .getfield 83), (50, .iload_n 1), (51, .iaload), (52, .invokestatic 114), (55, .imul), (56, .iload_n 2), (57, .iadd), (58, .istore 4), (60, .bipush (-9))]), (85, [(62, .istore 5), (64, .bipush (-9)), (66, .istore 6), (68, .iload 6), (70, .bipush 9), (72, .if_icmp .gt 41), (75, .iload_n 3), (76, .iload 6), (78, .imul), (79, .iload 4), (81, .isub), (82, .invokestatic 134)]), (110, [(85, .iload_n 3), (86, .iload 5), (88, .imul), (89, .iload 4), (91, .isub), (92, .invokestatic 134), (95, .if_icmp .ge 8), (98, .iload 6), (100, .goto 5), (103, .iload 5), (105, .istore 5), (107, .iinc 6 1)]), (122, [(110, .goto (-42)), (113, .iload 5), (115, .bipush 9), (117, .iadd), (118, .ireturn)])]
theorem ct_M_micro : c_M_micro.all (fun x => x.2.all (q_dec prog_6_method_43_code)) = true := by decide +kernel
def rm_M_micro : Room := { frames := 7, cells := 0, slots := 0, locals := 160 }
def kV_M_micro (cI : ClassId) (tv : Nat) : List (Nat × (Nat × Nat × Nat × q_T)) := [(99, 2, 0, 0, q_V 4 (T_M_isSound cI tv)), (181, 1, 0, 0, q_V 4 (T_M_find cI tv))]
def kI_M_micro (cI : ClassId) (tv : Nat) : List (Nat × (Nat × Nat × Nat × q_T)) := []
def kS_M_micro (cI : ClassId) (tv : Nat) : List (Nat × (Nat × Nat × Nat × q_T)) := [(114, 1, 0, 0, T_M_signsOf cI tv), (134, 1, 0, 0, T_M_size cI tv)]
def F_M_micro (cI : ClassId) (tv : Nat) : q_K → q_G → q_G := q_F c_M_micro (q_as fl_M) (q_as []) (q_as lc_M) (q_cal (kV_M_micro cI tv) (kI_M_micro cI tv) (kS_M_micro cI tv)) (q_as nw_M) cI (q_tb tv) 7 0 0 (some FieldType.int)
def T_M_micro (cI : ClassId) (tv : Nat) : q_T := fun as w K => (lg_sl as).length ≤ 7 ∧ q_wp (F_M_micro cI tv) as w K
theorem M_M_micro (l : Launch) (D : va_G) (cI : ClassId) (tv : Nat) : q_Met l y_M_micro (Cond.code y_M_micro prog_6_method_43_code 7 (some FieldType.int) :: aW) rm_M_micro D cls5 [(cI, .int)] (qSt tv) (T_M_micro cI tv) := q_contract (cc := prog_6_method_43_code) (nL := 7) (own := "SpellPitchModel") (ini := false) (by decide +kernel) rfl rfl (nofun) ⟨ct_M_micro, fl_M_ok, (fun n v h => by cases h), lc_M_ok, q_tb_ok tv, q_cal_ok (q_cons (q_callV (k := 1) (T' := tt_M) (qStOK tv) (M_M_isSound l D cI tv) (gV kw_629 kw_631 ks_21 kw_5 kw_632) rfl (by decide +kernel) ⟨by decide, by decide⟩ rfl) (q_cons (q_callV (k := 0) (T' := tt_M) (qStOK tv) (M_M_find l D cI tv) (gV kw_655 kw_657 ks_22 kw_5 kw_658) rfl (by decide +kernel) ⟨by decide, by decide⟩ rfl) (q_nil))) (q_nil) (q_cons (q_callS (k := 1) (qStOK tv) (M_M_signsOf l D cI tv) (gS kw_675 kw_676 kw_5 kw_677) rfl (by decide +kernel) ⟨by decide, by decide⟩) (q_cons (q_callS (k := 1) (qStOK tv) (M_M_size l D cI tv) (gS kw_678 kw_679 kw_5 kw_680) rfl (by decide +kernel) ⟨by decide, by decide⟩) (q_nil))), nw_M_ok, Or.inl (by decide +kernel)⟩
def c_M_step : q_C := [(20, [(0, .aload_n 0), (1, .iload_n 2), (2, .ifCond .ne 7), (5, .iconst 1), (6, .goto 4), (9, .iconst 0), (10, .putfield 86), (13, .iload_n 2), (14, .ifCond .ne 5), (17, .iconst 0), (18, .ireturn), (19, .iload_n 1)]), (40, [(20, .iload_n 2), (21, .irem), (22, .istore_n 3), (23, .iload_n 3), (24, .ifCond .eq 30), (27, .iload_n 3), (28, .ifCond .ge 7), (31, .iconst 1), (32, .goto 4), (35, .iconst 0), (36, .iload_n 2), (37, .ifCond .ge 7)]), (59, [(40, .iconst 1), (41, .goto 4), (44, .iconst 0), (45, .if_icmp .eq 9), (48, .iload_n 3), (49, .iload_n 2), (50, .iadd), (51, .goto 4), (54, .iload_n 3), (55, .ireturn)])]
theorem ct_M_step : c_M_step.all (fun x => x.2.all (q_dec prog_6_method_44_code)) = true := by decide +kernel
def rm_M_step : Room := { frames := 0, cells := 0, slots := 0, locals := 0 }
def kV_M_step (cI : ClassId) (tv : Nat) : List (Nat × (Nat × Nat × Nat × q_T)) := []
def kI_M_step (cI : ClassId) (tv : Nat) : List (Nat × (Nat × Nat × Nat × q_T)) := []
def kS_M_step (cI : ClassId) (tv : Nat) : List (Nat × (Nat × Nat × Nat × q_T)) := []
def F_M_step (cI : ClassId) (tv : Nat) : q_K → q_G → q_G := q_F c_M_step (q_as fl_M) (q_as []) (q_as lc_M) (q_cal (kV_M_step cI tv) (kI_M_step cI tv) (kS_M_step cI tv)) (q_as nw_M) cI (q_tb tv) 4 0 0 (some FieldType.int)
def T_M_step (cI : ClassId) (tv : Nat) : q_T := fun as w K => (lg_sl as).length ≤ 4 ∧ q_wp (F_M_step cI tv) as w K
theorem M_M_step (l : Launch) (D : va_G) (cI : ClassId) (tv : Nat) : q_Met l y_M_step (Cond.code y_M_step prog_6_method_44_code 4 (some FieldType.int) :: aW) rm_M_step D cls5 [(cI, .int)] (qSt tv) (T_M_step cI tv) := q_contract (cc := prog_6_method_44_code) (nL := 4) (own := "SpellPitchModel") (ini := false) (by decide +kernel) rfl rfl (nofun) ⟨ct_M_step, fl_M_ok, (fun n v h => by cases h), lc_M_ok, q_tb_ok tv, q_cal_ok (q_nil) (q_nil) (q_nil), nw_M_ok, Or.inl (by decide +kernel)⟩
def c_M_isName : q_C := [(19, [(0, .iload_n 0), (1, .ifCond .lt 13), (4, .iload_n 0), (5, .bipush 34), (7, .if_icmp .gt 7), (10, .iconst 1), (11, .goto 4), (14, .iconst 0), (15, .ireturn)])]
theorem ct_M_isName : c_M_isName.all (fun x => x.2.all (q_dec prog_6_method_45_code)) = true := by decide +kernel
def rm_M_isName : Room := { frames := 0, cells := 0, slots := 0, locals := 0 }
def kV_M_isName (cI : ClassId) (tv : Nat) : List (Nat × (Nat × Nat × Nat × q_T)) := []
def kI_M_isName (cI : ClassId) (tv : Nat) : List (Nat × (Nat × Nat × Nat × q_T)) := []
def kS_M_isName (cI : ClassId) (tv : Nat) : List (Nat × (Nat × Nat × Nat × q_T)) := []
def F_M_isName (cI : ClassId) (tv : Nat) : q_K → q_G → q_G := q_F c_M_isName (q_as fl_M) (q_as []) (q_as lc_M) (q_cal (kV_M_isName cI tv) (kI_M_isName cI tv) (kS_M_isName cI tv)) (q_as nw_M) cI (q_tb tv) 1 0 0 (some FieldType.boolean)
def T_M_isName (cI : ClassId) (tv : Nat) : q_T := fun as w K => (lg_sl as).length ≤ 1 ∧ q_wp (F_M_isName cI tv) as w K
theorem M_M_isName (l : Launch) (D : va_G) (cI : ClassId) (tv : Nat) : q_Met l y_M_isName (Cond.code y_M_isName prog_6_method_45_code 1 (some FieldType.boolean) :: aW) rm_M_isName D cls5 [(cI, .int)] (qSt tv) (T_M_isName cI tv) := q_contract (cc := prog_6_method_45_code) (nL := 1) (own := "SpellPitchModel") (ini := false) (by decide +kernel) rfl rfl (nofun) ⟨ct_M_isName, fl_M_ok, (fun n v h => by cases h), lc_M_ok, q_tb_ok tv, q_cal_ok (q_nil) (q_nil) (q_nil), nw_M_ok, Or.inl (by decide +kernel)⟩
def c_M_equal : q_C := [(23, [(0, .aload_n 0), (1, .iconst 0), (2, .putfield 86), (5, .iload_n 1), (6, .invokestatic 196), (9, .ifCond .eq 10), (12, .iload_n 2), (13, .invokestatic 196), (16, .ifCond .ne 6), (19, .bipush (-2)), (21, .ireturn), (22, .iload_n 1)]), (44, [(23, .iload_n 2), (24, .if_icmp .ne 7), (27, .iconst 2), (28, .goto 17), (31, .iload_n 1), (32, .iload_n 2), (33, .isub), (34, .bipush 12), (36, .irem), (37, .ifCond .ne 7), (40, .iconst 1), (41, .goto 4)]), (49, [(44, .iconst 0), (45, .ireturn)])]
theorem ct_M_equal : c_M_equal.all (fun x => x.2.all (q_dec prog_6_method_46_code)) = true := by decide +kernel
def rm_M_equal : Room := { frames := 1, cells := 0, slots := 0, locals := 20 }
def kV_M_equal (cI : ClassId) (tv : Nat) : List (Nat × (Nat × Nat × Nat × q_T)) := []
def kI_M_equal (cI : ClassId) (tv : Nat) : List (Nat × (Nat × Nat × Nat × q_T)) := []
def kS_M_equal (cI : ClassId) (tv : Nat) : List (Nat × (Nat × Nat × Nat × q_T)) := [(196, 1, 0, 0, T_M_isName cI tv)]
def F_M_equal (cI : ClassId) (tv : Nat) : q_K → q_G → q_G := q_F c_M_equal (q_as fl_M) (q_as []) (q_as lc_M) (q_cal (kV_M_equal cI tv) (kI_M_equal cI tv) (kS_M_equal cI tv)) (q_as nw_M) cI (q_tb tv) 3 0 0 (some FieldType.int)
def T_M_equal (cI : ClassId) (tv : Nat) : q_T := fun as w K => (lg_sl as).length ≤ 3 ∧ q_wp (F_M_equal cI tv) as w K
theorem M_M_equal (l : Launch) (D : va_G) (cI : ClassId) (tv : Nat) : q_Met l y_M_equal (Cond.code y_M_equal prog_6_method_46_code 3 (some FieldType.int) :: aW) rm_M_equal D cls5 [(cI, .int)] (qSt tv) (T_M_equal cI tv) := q_contract (cc := prog_6_method_46_code) (nL := 3) (own := "SpellPitchModel") (ini := false) (by decide +kernel) rfl rfl (nofun) ⟨ct_M_equal, fl_M_ok, (fun n v h => by cases h), lc_M_ok, q_tb_ok tv, q_cal_ok (q_nil) (q_nil) (q_cons (q_callS (k := 1) (qStOK tv) (M_M_isName l D cI tv) (gS kw_781 kw_782 kw_5 kw_783) rfl (by decide +kernel) ⟨by decide, by decide⟩) (q_nil)), nw_M_ok, Or.inl (by decide +kernel)⟩
def c_M_scale : q_C := [(22, [(0, .aload_n 0), (1, .iconst 0), (2, .putfield 86), (5, .iload_n 1), (6, .ifCond .lt 19), (9, .iload_n 1), (10, .bipush 14), (12, .if_icmp .gt 13), (15, .iload_n 2), (16, .ifCond .lt 9), (19, .iload_n 2), (20, .bipush 6)]), (44, [(22, .if_icmp .le 6), (25, .bipush (-2)), (27, .ireturn), (28, .iload_n 1), (29, .bipush 7), (31, .iadd), (32, .istore_n 3), (33, .iload_n 3), (34, .invokestatic 121), (37, .iload_n 2), (38, .if_icmp .eq 9), (41, .iinc 3 1)]), (57, [(44, .goto (-11)), (47, .iload_n 3), (48, .invokestatic 114), (51, .iconst 2), (52, .iadd), (53, .ireturn)])]
theorem ct_M_scale : c_M_scale.all (fun x => x.2.all (q_dec prog_6_method_47_code)) = true := by decide +kernel
def rm_M_scale : Room := { frames := 2, cells := 0, slots := 0, locals := 42 }
def kV_M_scale (cI : ClassId) (tv : Nat) : List (Nat × (Nat × Nat × Nat × q_T)) := []
def kI_M_scale (cI : ClassId) (tv : Nat) : List (Nat × (Nat × Nat × Nat × q_T)) := []
def kS_M_scale (cI : ClassId) (tv : Nat) : List (Nat × (Nat × Nat × Nat × q_T)) := [(121, 1, 0, 0, T_M_letterOf cI tv), (114, 1, 0, 0, T_M_signsOf cI tv)]
def F_M_scale (cI : ClassId) (tv : Nat) : q_K → q_G → q_G := q_F c_M_scale (q_as fl_M) (q_as []) (q_as lc_M) (q_cal (kV_M_scale cI tv) (kI_M_scale cI tv) (kS_M_scale cI tv)) (q_as nw_M) cI (q_tb tv) 4 0 0 (some FieldType.int)
def T_M_scale (cI : ClassId) (tv : Nat) : q_T := fun as w K => (lg_sl as).length ≤ 4 ∧ q_wp (F_M_scale cI tv) as w K
theorem M_M_scale (l : Launch) (D : va_G) (cI : ClassId) (tv : Nat) : q_Met l y_M_scale (Cond.code y_M_scale prog_6_method_47_code 4 (some FieldType.int) :: aW) rm_M_scale D cls5 [(cI, .int)] (qSt tv) (T_M_scale cI tv) := q_contract (cc := prog_6_method_47_code) (nL := 4) (own := "SpellPitchModel") (ini := false) (by decide +kernel) rfl rfl (nofun) ⟨ct_M_scale, fl_M_ok, (fun n v h => by cases h), lc_M_ok, q_tb_ok tv, q_cal_ok (q_nil) (q_nil) (q_cons (q_callS (k := 1) (qStOK tv) (M_M_letterOf l D cI tv) (gS kw_698 kw_699 kw_5 kw_700) rfl (by decide +kernel) ⟨by decide, by decide⟩) (q_cons (q_callS (k := 1) (qStOK tv) (M_M_signsOf l D cI tv) (gS kw_675 kw_676 kw_5 kw_677) rfl (by decide +kernel) ⟨by decide, by decide⟩) (q_nil))), nw_M_ok, Or.inl (by decide +kernel)⟩
end
section
def c_S_init : q_C := [(23, [(0, .aload_n 0), (1, .invokespecial 3), (4, .aload_n 0), (5, .bipush 18), (7, .newarray .int), (9, .putfield 9), (12, .aload_n 0), (13, .bipush 18), (15, .newarray .int), (17, .putfield 15), (20, .aload_n 0), (21, .bipush 18)]), (47, [(23, .newarray .int), (25, .putfield 18), (28, .aload_n 0), (29, .bipush 18), (31, .newarray .int), (33, .putfield 21), (36, .aload_n 0), (37, .bipush 18), (39, .newarray .int), (41, .putfield 24), (44, .aload_n 0), (45, .bipush 18)]), (70, [(47, .newarray .int), (49, .putfield 27), (52, .aload_n 0), (53, .bipush 54), (55, .newarray .int), (57, .putfield 30), (60, .aload_n 0), (61, .bipush 54), (63, .newarray .int), (65, .putfield 33), (68, .aload_n 0), (69, .iconst 0)]), (82, [(70, .putfield 36), (73, .aload_n 0), (74, .iconst 0), (75, .putfield 40), (78, .return_)])]
theorem ct_S_init : c_S_init.all (fun x => x.2.all (q_dec prog_2_method_1_code)) = true := by decide +kernel
def rm_S_init : Room := { frames := 1, cells := 8, slots := 216, locals := 20 }
def kV_S_init (cI : ClassId) (tv : Nat) : List (Nat × (Nat × Nat × Nat × q_T)) := []
def kI_S_init (cI : ClassId) (tv : Nat) : List (Nat × (Nat × Nat × Nat × q_T)) := [(3, 1, 0, 0, q_obj)]
def kS_S_init (cI : ClassId) (tv : Nat) : List (Nat × (Nat × Nat × Nat × q_T)) := []
def F_S_init (cI : ClassId) (tv : Nat) : q_K → q_G → q_G := q_F c_S_init (q_as fi_S) (q_as []) (q_as lc_S) (q_cal (kV_S_init cI tv) (kI_S_init cI tv) (kS_S_init cI tv)) (q_as nw_S) cI (q_tb tv) 1 8 216 (none)
def T_S_init (cI : ClassId) (tv : Nat) : q_T := fun as w K => (lg_sl as).length ≤ 1 ∧ q_wp (F_S_init cI tv) as w K
theorem M_S_init (l : Launch) (D : va_G) (cI : ClassId) (tv : Nat) : q_Met l y_S_init (Cond.code y_S_init prog_2_method_1_code 1 (none) :: aW) rm_S_init D cls5 [(cI, .int)] (qSt tv) (T_S_init cI tv) := q_contract (cc := prog_2_method_1_code) (nL := 1) (own := "SpellPitch$Score") (ini := true) (by decide +kernel) rfl rfl (fun _ => rfl) ⟨ct_S_init, fi_S_ok, (fun n v h => by cases h), lc_S_ok, q_tb_ok tv, q_cal_ok (q_nil) (q_cons (q_callO (aW_in kw_31) (aW_in kw_18) (aW_in kw_19) ⟨by decide, by decide⟩) (q_nil)) (q_nil), nw_S_ok, Or.inr (aW_in kw_75)⟩
def c_G_init : q_C := [(20, [(0, .aload_n 0), (1, .invokespecial 1), (4, .aload_n 0), (5, .iconst 2), (6, .putfield 7), (9, .aload_n 0), (10, .iconst 4), (11, .putfield 13), (14, .aload_n 0), (15, .iconst 2), (16, .putfield 16), (19, .aload_n 0)]), (33, [(20, .iconst 3), (21, .putfield 19), (24, .aload_n 0), (25, .iconst 5), (26, .putfield 22), (29, .return_)])]
theorem ct_G_init : c_G_init.all (fun x => x.2.all (q_dec prog_4_method_1_code)) = true := by decide +kernel
def rm_G_init : Room := { frames := 1, cells := 0, slots := 0, locals := 20 }
def kV_G_init (cI : ClassId) (tv : Nat) : List (Nat × (Nat × Nat × Nat × q_T)) := []
def kI_G_init (cI : ClassId) (tv : Nat) : List (Nat × (Nat × Nat × Nat × q_T)) := [(1, 1, 0, 0, q_obj)]
def kS_G_init (cI : ClassId) (tv : Nat) : List (Nat × (Nat × Nat × Nat × q_T)) := []
def F_G_init (cI : ClassId) (tv : Nat) : q_K → q_G → q_G := q_F c_G_init (q_as fi_G) (q_as []) (q_as lc_G) (q_cal (kV_G_init cI tv) (kI_G_init cI tv) (kS_G_init cI tv)) (q_as nw_G) cI (q_tb tv) 1 0 0 (none)
def T_G_init (cI : ClassId) (tv : Nat) : q_T := fun as w K => (lg_sl as).length ≤ 1 ∧ q_wp (F_G_init cI tv) as w K
theorem M_G_init (l : Launch) (D : va_G) (cI : ClassId) (tv : Nat) : q_Met l y_G_init (Cond.code y_G_init prog_4_method_1_code 1 (none) :: aW) rm_G_init D cls5 [(cI, .int)] (qSt tv) (T_G_init cI tv) := q_contract (cc := prog_4_method_1_code) (nL := 1) (own := "SpellPitch$Weights") (ini := true) (by decide +kernel) rfl rfl (fun _ => rfl) ⟨ct_G_init, fi_G_ok, (fun n v h => by cases h), lc_G_ok, q_tb_ok tv, q_cal_ok (q_nil) (q_cons (q_callO (aW_in kw_81) (aW_in kw_18) (aW_in kw_19) ⟨by decide, by decide⟩) (q_nil)) (q_nil), nw_G_ok, Or.inl (by decide +kernel)⟩
def c_R_init : q_C := [(22, [(0, .aload_n 0), (1, .invokespecial 3), (4, .aload_n 0), (5, .bipush 18), (7, .newarray .int), (9, .putfield 9), (12, .aload_n 0), (13, .bipush 18), (15, .newarray .int), (17, .putfield 15), (20, .aload_n 0), (21, .iconst 0)]), (46, [(22, .putfield 18), (25, .aload_n 0), (26, .iconst 0), (27, .putfield 22), (30, .aload_n 0), (31, .iconst 1), (32, .putfield 25), (35, .aload_n 0), (36, .new 28), (39, .dup), (40, .invokespecial 30), (43, .putfield 31)]), (71, [(46, .aload_n 0), (47, .new 35), (50, .dup), (51, .invokespecial 37), (54, .putfield 38), (57, .aload_n 0), (58, .sipush 2430), (61, .newarray .int), (63, .putfield 42), (66, .aload_n 0), (67, .bipush 18), (69, .newarray .int)]), (98, [(71, .putfield 45), (74, .aload_n 0), (75, .sipush 405), (78, .newarray .int), (80, .putfield 48), (83, .aload_n 0), (84, .sipush 405), (87, .newarray .int), (89, .putfield 51), (92, .aload_n 0), (93, .sipush 405), (96, .newarray .int)]), (123, [(98, .putfield 54), (101, .aload_n 0), (102, .bipush 15), (104, .newarray .int), (106, .putfield 57), (109, .aload_n 0), (110, .bipush 15), (112, .newarray .int), (114, .putfield 60), (117, .aload_n 0), (118, .sipush 225), (121, .newarray .int)]), (146, [(123, .putfield 63), (126, .aload_n 0), (127, .bipush 27), (129, .newarray .int), (131, .putfield 66), (134, .aload_n 0), (135, .iconst 3), (136, .newarray .int), (138, .putfield 69), (141, .aload_n 0), (142, .iconst 1), (143, .putfield 72)]), (150, [(146, .return_)])]
theorem ct_R_init : c_R_init.all (fun x => x.2.all (q_dec prog_3_method_1_code)) = true := by decide +kernel
def rm_R_init : Room := { frames := 2, cells := 22, slots := 4215, locals := 40 }
def kV_R_init (cI : ClassId) (tv : Nat) : List (Nat × (Nat × Nat × Nat × q_T)) := []
def kI_R_init (cI : ClassId) (tv : Nat) : List (Nat × (Nat × Nat × Nat × q_T)) := [(3, 1, 0, 0, q_obj), (30, 1, 8, 216, q_V 0 (T_S_init cI tv)), (37, 1, 0, 0, q_V 2 (T_G_init cI tv))]
def kS_R_init (cI : ClassId) (tv : Nat) : List (Nat × (Nat × Nat × Nat × q_T)) := []
def F_R_init (cI : ClassId) (tv : Nat) : q_K → q_G → q_G := q_F c_R_init (q_as fi_R) (q_as [(100, .ref tv)]) (q_as lc_R) (q_cal (kV_R_init cI tv) (kI_R_init cI tv) (kS_R_init cI tv)) (q_as nw_R) cI (q_tb tv) 1 22 4215 (none)
def T_R_init (cI : ClassId) (tv : Nat) : q_T := fun as w K => (lg_sl as).length ≤ 1 ∧ q_wp (F_R_init cI tv) as w K
theorem M_R_init (l : Launch) (D : va_G) (cI : ClassId) (tv : Nat) : q_Met l y_R_init (Cond.code y_R_init prog_3_method_1_code 1 (none) :: aW) rm_R_init D cls5 [(cI, .int)] (qSt tv) (T_R_init cI tv) := q_contract (cc := prog_3_method_1_code) (nL := 1) (own := "SpellPitch$Search") (ini := true) (by decide +kernel) rfl rfl (fun _ => rfl) ⟨ct_R_init, fi_R_ok, (fun n v h => ⟨"SpellPitch$Search", "PICKS", "[I", fun A U H hs => by cases (List.mem_singleton.mp (q_as_in h)); exact hs.1, by cases (List.mem_singleton.mp (q_as_in h)); exact aW_in kw_271⟩), lc_R_ok, q_tb_ok tv, q_cal_ok (q_nil) (q_cons (q_callO (aW_in kw_25) (aW_in kw_18) (aW_in kw_19) ⟨by decide, by decide⟩) (q_cons (q_callIN (k := 0) (ci := 0) (qStOK tv) (M_S_init l D cI tv) (gW kw_30) rfl (qSt_1 (tv := tv)) (aW_in kw_3) (aW_in kw_29) rfl (by decide +kernel) ⟨by decide, by decide⟩) (q_cons (q_callIN (k := 0) (ci := 2) (qStOK tv) (M_G_init l D cI tv) (gW kw_80) rfl (qSt_2 (tv := tv)) (aW_in kw_4) (aW_in kw_79) rfl (by decide +kernel) ⟨by decide, by decide⟩) (q_nil)))) (q_nil), nw_R_ok, Or.inr (aW_in kw_75)⟩
def c_X_init : q_C := [(26, [(0, .aload_n 0), (1, .invokespecial 3), (4, .aload_n 0), (5, .new 9), (8, .dup), (9, .invokespecial 11), (12, .putfield 12), (15, .aload_n 0), (16, .aload_n 0), (17, .getfield 12), (20, .getfield 16), (23, .putfield 20)]), (46, [(26, .aload_n 0), (27, .aload_n 0), (28, .getfield 12), (31, .getfield 21), (34, .putfield 25), (37, .aload_n 0), (38, .iconst 0), (39, .putfield 26), (42, .return_)])]
theorem ct_X_init : c_X_init.all (fun x => x.2.all (q_dec prog_1_method_1_code)) = true := by decide +kernel
def rm_X_init : Room := { frames := 3, cells := 23, slots := 4233, locals := 60 }
def kV_X_init (cI : ClassId) (tv : Nat) : List (Nat × (Nat × Nat × Nat × q_T)) := []
def kI_X_init (cI : ClassId) (tv : Nat) : List (Nat × (Nat × Nat × Nat × q_T)) := [(3, 1, 0, 0, q_obj), (11, 1, 22, 4215, q_V 1 (T_R_init cI tv))]
def kS_X_init (cI : ClassId) (tv : Nat) : List (Nat × (Nat × Nat × Nat × q_T)) := []
def F_X_init (cI : ClassId) (tv : Nat) : q_K → q_G → q_G := q_F c_X_init (q_as fi_X) (q_as []) (q_as lc_X) (q_cal (kV_X_init cI tv) (kI_X_init cI tv) (kS_X_init cI tv)) (q_as nw_X) cI (q_tb tv) 1 23 4233 (none)
def T_X_init (cI : ClassId) (tv : Nat) : q_T := fun as w K => (lg_sl as).length ≤ 1 ∧ q_wp (F_X_init cI tv) as w K
theorem M_X_init (l : Launch) (D : va_G) (cI : ClassId) (tv : Nat) : q_Met l y_X_init (Cond.code y_X_init prog_1_method_1_code 1 (none) :: aW) rm_X_init D cls5 [(cI, .int)] (qSt tv) (T_X_init cI tv) := q_contract (cc := prog_1_method_1_code) (nL := 1) (own := "SpellPitch") (ini := true) (by decide +kernel) rfl rfl (fun _ => rfl) ⟨ct_X_init, fi_X_ok, (fun n v h => by cases h), lc_X_ok, q_tb_ok tv, q_cal_ok (q_nil) (q_cons (q_callO (aW_in kw_17) (aW_in kw_18) (aW_in kw_19) ⟨by decide, by decide⟩) (q_cons (q_callIN (k := 0) (ci := 1) (qStOK tv) (M_R_init l D cI tv) (gW kw_24) rfl (qSt_0 (tv := tv)) (aW_in kw_2) (aW_in kw_23) rfl (by decide +kernel) ⟨by decide, by decide⟩) (q_nil))) (q_nil), nw_X_ok, Or.inl (by decide +kernel)⟩
def c_S_canJoin : q_C := [(22, [(0, .aload_n 0), (1, .getfield 40), (4, .ifCond .le 22), (7, .aload_n 0), (8, .getfield 24), (11, .aload_n 0), (12, .getfield 40), (15, .iconst 1), (16, .isub), (17, .iaload), (18, .iconst 3), (19, .if_icmp .ge 7)]), (31, [(22, .iconst 1), (23, .goto 4), (26, .iconst 0), (27, .ireturn)])]
theorem ct_S_canJoin : c_S_canJoin.all (fun x => x.2.all (q_dec prog_2_method_3_code)) = true := by decide +kernel
def rm_S_canJoin : Room := { frames := 0, cells := 0, slots := 0, locals := 0 }
def kV_S_canJoin (cI : ClassId) (tv : Nat) : List (Nat × (Nat × Nat × Nat × q_T)) := []
def kI_S_canJoin (cI : ClassId) (tv : Nat) : List (Nat × (Nat × Nat × Nat × q_T)) := []
def kS_S_canJoin (cI : ClassId) (tv : Nat) : List (Nat × (Nat × Nat × Nat × q_T)) := []
def F_S_canJoin (cI : ClassId) (tv : Nat) : q_K → q_G → q_G := q_F c_S_canJoin (q_as fl_S) (q_as []) (q_as lc_S) (q_cal (kV_S_canJoin cI tv) (kI_S_canJoin cI tv) (kS_S_canJoin cI tv)) (q_as nw_S) cI (q_tb tv) 1 0 0 (some FieldType.boolean)
def T_S_canJoin (cI : ClassId) (tv : Nat) : q_T := fun as w K => (lg_sl as).length ≤ 1 ∧ q_wp (F_S_canJoin cI tv) as w K
theorem M_S_canJoin (l : Launch) (D : va_G) (cI : ClassId) (tv : Nat) : q_Met l y_S_canJoin (Cond.code y_S_canJoin prog_2_method_3_code 1 (some FieldType.boolean) :: aW) rm_S_canJoin D cls5 [(cI, .int)] (qSt tv) (T_S_canJoin cI tv) := q_contract (cc := prog_2_method_3_code) (nL := 1) (own := "SpellPitch$Score") (ini := false) (by decide +kernel) rfl rfl (nofun) ⟨ct_S_canJoin, fl_S_ok, (fun n v h => by cases h), lc_S_ok, q_tb_ok tv, q_cal_ok (q_nil) (q_nil) (q_nil), nw_S_ok, Or.inl (by decide +kernel)⟩
def c_J_floorMod : q_C := [(16, [(0, .iload_n 0), (1, .iload_n 1), (2, .irem), (3, .istore_n 2), (4, .iload_n 0), (5, .iload_n 1), (6, .ixor), (7, .ifCond .ge 11), (10, .iload_n 2), (11, .ifCond .eq 7), (14, .iload_n 2), (15, .iload_n 1)]), (23, [(16, .iadd), (17, .ireturn), (18, .iload_n 2), (19, .ireturn)])]
theorem ct_J_floorMod : c_J_floorMod.all (fun x => x.2.all (q_dec prog_9_method_50_code)) = true := by decide +kernel
def rm_J_floorMod : Room := { frames := 0, cells := 0, slots := 0, locals := 0 }
def kV_J_floorMod (cI : ClassId) (tv : Nat) : List (Nat × (Nat × Nat × Nat × q_T)) := []
def kI_J_floorMod (cI : ClassId) (tv : Nat) : List (Nat × (Nat × Nat × Nat × q_T)) := []
def kS_J_floorMod (cI : ClassId) (tv : Nat) : List (Nat × (Nat × Nat × Nat × q_T)) := []
def F_J_floorMod (cI : ClassId) (tv : Nat) : q_K → q_G → q_G := q_F c_J_floorMod (q_as fl_J) (q_as []) (q_as lc_J) (q_cal (kV_J_floorMod cI tv) (kI_J_floorMod cI tv) (kS_J_floorMod cI tv)) (q_as nw_J) cI (q_tb tv) 3 0 0 (some FieldType.int)
def T_J_floorMod (cI : ClassId) (tv : Nat) : q_T := fun as w K => (lg_sl as).length ≤ 3 ∧ q_wp (F_J_floorMod cI tv) as w K
theorem M_J_floorMod (l : Launch) (D : va_G) (cI : ClassId) (tv : Nat) : q_Met l y_J_floorMod (Cond.code y_J_floorMod prog_9_method_50_code 3 (some FieldType.int) :: aW) rm_J_floorMod D cls5 [(cI, .int)] (qSt tv) (T_J_floorMod cI tv) := q_contract (cc := prog_9_method_50_code) (nL := 3) (own := "java/lang/Math") (ini := false) (by decide +kernel) rfl rfl (nofun) ⟨ct_J_floorMod, fl_J_ok, (fun n v h => by cases h), lc_J_ok, q_tb_ok tv, q_cal_ok (q_nil) (q_nil) (q_nil), nw_J_ok, Or.inl (by decide +kernel)⟩
def c_J_floorDiv : q_C := [(14, [(0, .iload_n 0), (1, .iload_n 1), (2, .idiv), (3, .istore_n 2), (4, .iload_n 0), (5, .iload_n 1), (6, .ixor), (7, .ifCond .ge 14), (10, .iload_n 2), (11, .iload_n 1), (12, .imul), (13, .iload_n 0)]), (26, [(14, .if_icmp .eq 7), (17, .iload_n 2), (18, .iconst 1), (19, .isub), (20, .ireturn), (21, .iload_n 2), (22, .ireturn)])]
theorem ct_J_floorDiv : c_J_floorDiv.all (fun x => x.2.all (q_dec prog_9_method_47_code)) = true := by decide +kernel
def rm_J_floorDiv : Room := { frames := 0, cells := 0, slots := 0, locals := 0 }
def kV_J_floorDiv (cI : ClassId) (tv : Nat) : List (Nat × (Nat × Nat × Nat × q_T)) := []
def kI_J_floorDiv (cI : ClassId) (tv : Nat) : List (Nat × (Nat × Nat × Nat × q_T)) := []
def kS_J_floorDiv (cI : ClassId) (tv : Nat) : List (Nat × (Nat × Nat × Nat × q_T)) := []
def F_J_floorDiv (cI : ClassId) (tv : Nat) : q_K → q_G → q_G := q_F c_J_floorDiv (q_as fl_J) (q_as []) (q_as lc_J) (q_cal (kV_J_floorDiv cI tv) (kI_J_floorDiv cI tv) (kS_J_floorDiv cI tv)) (q_as nw_J) cI (q_tb tv) 3 0 0 (some FieldType.int)
def T_J_floorDiv (cI : ClassId) (tv : Nat) : q_T := fun as w K => (lg_sl as).length ≤ 3 ∧ q_wp (F_J_floorDiv cI tv) as w K
theorem M_J_floorDiv (l : Launch) (D : va_G) (cI : ClassId) (tv : Nat) : q_Met l y_J_floorDiv (Cond.code y_J_floorDiv prog_9_method_47_code 3 (some FieldType.int) :: aW) rm_J_floorDiv D cls5 [(cI, .int)] (qSt tv) (T_J_floorDiv cI tv) := q_contract (cc := prog_9_method_47_code) (nL := 3) (own := "java/lang/Math") (ini := false) (by decide +kernel) rfl rfl (nofun) ⟨ct_J_floorDiv, fl_J_ok, (fun n v h => by cases h), lc_J_ok, q_tb_ok tv, q_cal_ok (q_nil) (q_nil) (q_nil), nw_J_ok, Or.inl (by decide +kernel)⟩
def c_X_signsOf : q_C := [(13, [(0, .iload_n 0), (1, .bipush 14), (3, .isub), (4, .bipush 7), (6, .invokestatic 133), (9, .ireturn)])]
theorem ct_X_signsOf : c_X_signsOf.all (fun x => x.2.all (q_dec prog_1_method_29_code)) = true := by decide +kernel
def rm_X_signsOf : Room := { frames := 1, cells := 0, slots := 0, locals := 22 }
def kV_X_signsOf (cI : ClassId) (tv : Nat) : List (Nat × (Nat × Nat × Nat × q_T)) := []
def kI_X_signsOf (cI : ClassId) (tv : Nat) : List (Nat × (Nat × Nat × Nat × q_T)) := []
def kS_X_signsOf (cI : ClassId) (tv : Nat) : List (Nat × (Nat × Nat × Nat × q_T)) := [(133, 2, 0, 0, T_J_floorDiv cI tv)]
def F_X_signsOf (cI : ClassId) (tv : Nat) : q_K → q_G → q_G := q_F c_X_signsOf (q_as fl_X) (q_as []) (q_as lc_X) (q_cal (kV_X_signsOf cI tv) (kI_X_signsOf cI tv) (kS_X_signsOf cI tv)) (q_as nw_X) cI (q_tb tv) 1 0 0 (some FieldType.int)
def T_X_signsOf (cI : ClassId) (tv : Nat) : q_T := fun as w K => (lg_sl as).length ≤ 1 ∧ q_wp (F_X_signsOf cI tv) as w K
theorem M_X_signsOf (l : Launch) (D : va_G) (cI : ClassId) (tv : Nat) : q_Met l y_X_signsOf (Cond.code y_X_signsOf prog_1_method_29_code 1 (some FieldType.int) :: aW) rm_X_signsOf D cls5 [(cI, .int)] (qSt tv) (T_X_signsOf cI tv) := q_contract (cc := prog_1_method_29_code) (nL := 1) (own := "SpellPitch") (ini := false) (by decide +kernel) rfl rfl (nofun) ⟨ct_X_signsOf, fl_X_ok, (fun n v h => by cases h), lc_X_ok, q_tb_ok tv, q_cal_ok (q_nil) (q_nil) (q_cons (q_callS (k := 2) (qStOK tv) (M_J_floorDiv l D cI tv) (gS kw_211 kw_212 kw_6 kw_213) rfl (by decide +kernel) ⟨by decide, by decide⟩) (q_nil)), nw_X_ok, Or.inl (by decide +kernel)⟩
def c_X_octaveOf : q_C := [(18, [(0, .iload_n 1), (1, .iload_n 0), (2, .invokestatic 111), (5, .isub), (6, .bipush 12), (8, .iadd), (9, .bipush 12), (11, .invokestatic 133), (14, .ireturn)])]
theorem ct_X_octaveOf : c_X_octaveOf.all (fun x => x.2.all (q_dec prog_1_method_30_code)) = true := by decide +kernel
def rm_X_octaveOf : Room := { frames := 2, cells := 0, slots := 0, locals := 42 }
def kV_X_octaveOf (cI : ClassId) (tv : Nat) : List (Nat × (Nat × Nat × Nat × q_T)) := []
def kI_X_octaveOf (cI : ClassId) (tv : Nat) : List (Nat × (Nat × Nat × Nat × q_T)) := []
def kS_X_octaveOf (cI : ClassId) (tv : Nat) : List (Nat × (Nat × Nat × Nat × q_T)) := [(111, 1, 0, 0, T_X_signsOf cI tv), (133, 2, 0, 0, T_J_floorDiv cI tv)]
def F_X_octaveOf (cI : ClassId) (tv : Nat) : q_K → q_G → q_G := q_F c_X_octaveOf (q_as fl_X) (q_as []) (q_as lc_X) (q_cal (kV_X_octaveOf cI tv) (kI_X_octaveOf cI tv) (kS_X_octaveOf cI tv)) (q_as nw_X) cI (q_tb tv) 2 0 0 (some FieldType.int)
def T_X_octaveOf (cI : ClassId) (tv : Nat) : q_T := fun as w K => (lg_sl as).length ≤ 2 ∧ q_wp (F_X_octaveOf cI tv) as w K
theorem M_X_octaveOf (l : Launch) (D : va_G) (cI : ClassId) (tv : Nat) : q_Met l y_X_octaveOf (Cond.code y_X_octaveOf prog_1_method_30_code 2 (some FieldType.int) :: aW) rm_X_octaveOf D cls5 [(cI, .int)] (qSt tv) (T_X_octaveOf cI tv) := q_contract (cc := prog_1_method_30_code) (nL := 2) (own := "SpellPitch") (ini := false) (by decide +kernel) rfl rfl (nofun) ⟨ct_X_octaveOf, fl_X_ok, (fun n v h => by cases h), lc_X_ok, q_tb_ok tv, q_cal_ok (q_nil) (q_nil) (q_cons (q_callS (k := 1) (qStOK tv) (M_X_signsOf l D cI tv) (gS kw_208 kw_209 kw_1 kw_210) rfl (by decide +kernel) ⟨by decide, by decide⟩) (q_cons (q_callS (k := 2) (qStOK tv) (M_J_floorDiv l D cI tv) (gS kw_211 kw_212 kw_6 kw_213) rfl (by decide +kernel) ⟨by decide, by decide⟩) (q_nil))), nw_X_ok, Or.inl (by decide +kernel)⟩
def c_X_letterOf : q_C := [(15, [(0, .iconst 4), (1, .iload_n 0), (2, .bipush 15), (4, .isub), (5, .imul), (6, .bipush 7), (8, .invokestatic 154), (11, .ireturn)])]
theorem ct_X_letterOf : c_X_letterOf.all (fun x => x.2.all (q_dec prog_1_method_28_code)) = true := by decide +kernel
def rm_X_letterOf : Room := { frames := 1, cells := 0, slots := 0, locals := 22 }
def kV_X_letterOf (cI : ClassId) (tv : Nat) : List (Nat × (Nat × Nat × Nat × q_T)) := []
def kI_X_letterOf (cI : ClassId) (tv : Nat) : List (Nat × (Nat × Nat × Nat × q_T)) := []
def kS_X_letterOf (cI : ClassId) (tv : Nat) : List (Nat × (Nat × Nat × Nat × q_T)) := [(154, 2, 0, 0, T_J_floorMod cI tv)]
def F_X_letterOf (cI : ClassId) (tv : Nat) : q_K → q_G → q_G := q_F c_X_letterOf (q_as fl_X) (q_as []) (q_as lc_X) (q_cal (kV_X_letterOf cI tv) (kI_X_letterOf cI tv) (kS_X_letterOf cI tv)) (q_as nw_X) cI (q_tb tv) 1 0 0 (some FieldType.int)
def T_X_letterOf (cI : ClassId) (tv : Nat) : q_T := fun as w K => (lg_sl as).length ≤ 1 ∧ q_wp (F_X_letterOf cI tv) as w K
theorem M_X_letterOf (l : Launch) (D : va_G) (cI : ClassId) (tv : Nat) : q_Met l y_X_letterOf (Cond.code y_X_letterOf prog_1_method_28_code 1 (some FieldType.int) :: aW) rm_X_letterOf D cls5 [(cI, .int)] (qSt tv) (T_X_letterOf cI tv) := q_contract (cc := prog_1_method_28_code) (nL := 1) (own := "SpellPitch") (ini := false) (by decide +kernel) rfl rfl (nofun) ⟨ct_X_letterOf, fl_X_ok, (fun n v h => by cases h), lc_X_ok, q_tb_ok tv, q_cal_ok (q_nil) (q_nil) (q_cons (q_callS (k := 2) (qStOK tv) (M_J_floorMod l D cI tv) (gS kw_217 kw_200 kw_6 kw_201) rfl (by decide +kernel) ⟨by decide, by decide⟩) (q_nil)), nw_X_ok, Or.inl (by decide +kernel)⟩
def c_X_placeOf : q_C := [(17, [(0, .bipush 7), (2, .iload_n 0), (3, .iload_n 1), (4, .invokestatic 114), (7, .imul), (8, .iload_n 0), (9, .invokestatic 107), (12, .iadd), (13, .ireturn)])]
theorem ct_X_placeOf : c_X_placeOf.all (fun x => x.2.all (q_dec prog_1_method_31_code)) = true := by decide +kernel
def rm_X_placeOf : Room := { frames := 3, cells := 0, slots := 0, locals := 63 }
def kV_X_placeOf (cI : ClassId) (tv : Nat) : List (Nat × (Nat × Nat × Nat × q_T)) := []
def kI_X_placeOf (cI : ClassId) (tv : Nat) : List (Nat × (Nat × Nat × Nat × q_T)) := []
def kS_X_placeOf (cI : ClassId) (tv : Nat) : List (Nat × (Nat × Nat × Nat × q_T)) := [(114, 2, 0, 0, T_X_octaveOf cI tv), (107, 1, 0, 0, T_X_letterOf cI tv)]
def F_X_placeOf (cI : ClassId) (tv : Nat) : q_K → q_G → q_G := q_F c_X_placeOf (q_as fl_X) (q_as []) (q_as lc_X) (q_cal (kV_X_placeOf cI tv) (kI_X_placeOf cI tv) (kS_X_placeOf cI tv)) (q_as nw_X) cI (q_tb tv) 2 0 0 (some FieldType.int)
def T_X_placeOf (cI : ClassId) (tv : Nat) : q_T := fun as w K => (lg_sl as).length ≤ 2 ∧ q_wp (F_X_placeOf cI tv) as w K
theorem M_X_placeOf (l : Launch) (D : va_G) (cI : ClassId) (tv : Nat) : q_Met l y_X_placeOf (Cond.code y_X_placeOf prog_1_method_31_code 2 (some FieldType.int) :: aW) rm_X_placeOf D cls5 [(cI, .int)] (qSt tv) (T_X_placeOf cI tv) := q_contract (cc := prog_1_method_31_code) (nL := 2) (own := "SpellPitch") (ini := false) (by decide +kernel) rfl rfl (nofun) ⟨ct_X_placeOf, fl_X_ok, (fun n v h => by cases h), lc_X_ok, q_tb_ok tv, q_cal_ok (q_nil) (q_nil) (q_cons (q_callS (k := 2) (qStOK tv) (M_X_octaveOf l D cI tv) (gS kw_205 kw_206 kw_1 kw_207) rfl (by decide +kernel) ⟨by decide, by decide⟩) (q_cons (q_callS (k := 1) (qStOK tv) (M_X_letterOf l D cI tv) (gS kw_214 kw_215 kw_1 kw_216) rfl (by decide +kernel) ⟨by decide, by decide⟩) (q_nil))), nw_X_ok, Or.inl (by decide +kernel)⟩
def c_S_listOptions : q_C := [(19, [(0, .bipush 7), (2, .aload_n 0), (3, .getfield 9), (6, .iload_n 1), (7, .iaload), (8, .imul), (9, .bipush 15), (11, .iadd), (12, .bipush 12), (14, .invokestatic 47), (17, .istore_n 2), (18, .iconst 0)]), (37, [(19, .istore_n 3), (20, .iload_n 3), (21, .iconst 3), (22, .if_icmp .ge 50), (25, .iload_n 2), (26, .bipush 12), (28, .iload_n 3), (29, .imul), (30, .iadd), (31, .istore 4), (33, .aload_n 0), (34, .getfield 30)]), (52, [(37, .iload_n 1), (38, .iconst 3), (39, .imul), (40, .iload_n 3), (41, .iadd), (42, .iload 4), (44, .iastore), (45, .aload_n 0), (46, .getfield 33), (49, .iload_n 1), (50, .iconst 3), (51, .imul)]), (76, [(52, .iload_n 3), (53, .iadd), (54, .iload 4), (56, .aload_n 0), (57, .getfield 9), (60, .iload_n 1), (61, .iaload), (62, .invokestatic 53), (65, .iastore), (66, .iinc 3 1), (69, .goto (-49)), (72, .return_)])]
theorem ct_S_listOptions : c_S_listOptions.all (fun x => x.2.all (q_dec prog_2_method_5_code)) = true := by decide +kernel
def rm_S_listOptions : Room := { frames := 4, cells := 0, slots := 0, locals := 84 }
def kV_S_listOptions (cI : ClassId) (tv : Nat) : List (Nat × (Nat × Nat × Nat × q_T)) := []
def kI_S_listOptions (cI : ClassId) (tv : Nat) : List (Nat × (Nat × Nat × Nat × q_T)) := []
def kS_S_listOptions (cI : ClassId) (tv : Nat) : List (Nat × (Nat × Nat × Nat × q_T)) := [(47, 2, 0, 0, T_J_floorMod cI tv), (53, 2, 0, 0, T_X_placeOf cI tv)]
def F_S_listOptions (cI : ClassId) (tv : Nat) : q_K → q_G → q_G := q_F c_S_listOptions (q_as fl_S) (q_as []) (q_as lc_S) (q_cal (kV_S_listOptions cI tv) (kI_S_listOptions cI tv) (kS_S_listOptions cI tv)) (q_as nw_S) cI (q_tb tv) 5 0 0 (none)
def T_S_listOptions (cI : ClassId) (tv : Nat) : q_T := fun as w K => (lg_sl as).length ≤ 5 ∧ q_wp (F_S_listOptions cI tv) as w K
theorem M_S_listOptions (l : Launch) (D : va_G) (cI : ClassId) (tv : Nat) : q_Met l y_S_listOptions (Cond.code y_S_listOptions prog_2_method_5_code 5 (none) :: aW) rm_S_listOptions D cls5 [(cI, .int)] (qSt tv) (T_S_listOptions cI tv) := q_contract (cc := prog_2_method_5_code) (nL := 5) (own := "SpellPitch$Score") (ini := false) (by decide +kernel) rfl rfl (nofun) ⟨ct_S_listOptions, fl_S_ok, (fun n v h => by cases h), lc_S_ok, q_tb_ok tv, q_cal_ok (q_nil) (q_nil) (q_cons (q_callS (k := 2) (qStOK tv) (M_J_floorMod l D cI tv) (gS kw_199 kw_200 kw_6 kw_201) rfl (by decide +kernel) ⟨by decide, by decide⟩) (q_cons (q_callSN (k := 2) (qStOK tv) (M_X_placeOf l D cI tv) (gW kw_204) rfl (qSt_3 (tv := tv)) (aW_in kw_1) (aW_in kw_203) (by decide +kernel) ⟨by decide, by decide⟩) (q_nil))), nw_S_ok, Or.inl (by decide +kernel)⟩
def c_S_put : q_C := [(20, [(0, .aload_n 0), (1, .getfield 36), (4, .istore_n 3), (5, .iload_n 2), (6, .ifCond .ne 44), (9, .aload_n 0), (10, .getfield 21), (13, .aload_n 0), (14, .getfield 40), (17, .iload_n 3), (18, .iastore), (19, .aload_n 0)]), (41, [(20, .getfield 24), (23, .aload_n 0), (24, .getfield 40), (27, .iconst 0), (28, .iastore), (29, .aload_n 0), (30, .getfield 27), (33, .aload_n 0), (34, .getfield 40), (37, .bipush 15), (39, .iastore), (40, .aload_n 0)]), (61, [(41, .dup), (42, .getfield 40), (45, .iconst 1), (46, .iadd), (47, .putfield 40), (50, .aload_n 0), (51, .getfield 9), (54, .iload_n 3), (55, .iload_n 1), (56, .iastore), (57, .aload_n 0), (58, .getfield 15)]), (78, [(61, .iload_n 3), (62, .bipush 35), (64, .iastore), (65, .aload_n 0), (66, .getfield 18), (69, .iload_n 3), (70, .aload_n 0), (71, .getfield 40), (74, .iconst 1), (75, .isub), (76, .iastore), (77, .aload_n 0)]), (94, [(78, .getfield 24), (81, .aload_n 0), (82, .getfield 40), (85, .iconst 1), (86, .isub), (87, .dup2), (88, .iaload), (89, .iconst 1), (90, .iadd), (91, .iastore), (92, .aload_n 0), (93, .dup)]), (112, [(94, .getfield 36), (97, .iconst 1), (98, .iadd), (99, .putfield 36), (102, .aload_n 0), (103, .iload_n 3), (104, .invokevirtual 43), (107, .iload_n 3), (108, .ireturn)])]
theorem ct_S_put : c_S_put.all (fun x => x.2.all (q_dec prog_2_method_4_code)) = true := by decide +kernel
def rm_S_put : Room := { frames := 5, cells := 0, slots := 0, locals := 108 }
def kV_S_put (cI : ClassId) (tv : Nat) : List (Nat × (Nat × Nat × Nat × q_T)) := [(43, 2, 0, 0, q_V 0 (T_S_listOptions cI tv))]
def kI_S_put (cI : ClassId) (tv : Nat) : List (Nat × (Nat × Nat × Nat × q_T)) := []
def kS_S_put (cI : ClassId) (tv : Nat) : List (Nat × (Nat × Nat × Nat × q_T)) := []
def F_S_put (cI : ClassId) (tv : Nat) : q_K → q_G → q_G := q_F c_S_put (q_as fl_S) (q_as []) (q_as lc_S) (q_cal (kV_S_put cI tv) (kI_S_put cI tv) (kS_S_put cI tv)) (q_as nw_S) cI (q_tb tv) 4 0 0 (some FieldType.int)
def T_S_put (cI : ClassId) (tv : Nat) : q_T := fun as w K => (lg_sl as).length ≤ 4 ∧ q_wp (F_S_put cI tv) as w K
theorem M_S_put (l : Launch) (D : va_G) (cI : ClassId) (tv : Nat) : q_Met l y_S_put (Cond.code y_S_put prog_2_method_4_code 4 (some FieldType.int) :: aW) rm_S_put D cls5 [(cI, .int)] (qSt tv) (T_S_put cI tv) := q_contract (cc := prog_2_method_4_code) (nL := 4) (own := "SpellPitch$Score") (ini := false) (by decide +kernel) rfl rfl (nofun) ⟨ct_S_put, fl_S_ok, (fun n v h => by cases h), lc_S_ok, q_tb_ok tv, q_cal_ok (q_cons (q_callV (k := 1) (T' := tt_S) (qStOK tv) (M_S_listOptions l D cI tv) (gV kw_195 kw_197 ks_0 kw_3 kw_198) rfl (by decide +kernel) ⟨by decide, by decide⟩ rfl) (q_nil)) (q_nil) (q_nil), nw_S_ok, Or.inl (by decide +kernel)⟩
def c_X_pitch : q_C := [(25, [(0, .iload_n 1), (1, .ifCond .lt 10), (4, .iload_n 1), (5, .sipush 128), (8, .if_icmp .lt 6), (11, .bipush (-2)), (13, .ireturn), (14, .iload_n 2), (15, .ifCond .eq 16), (18, .aload_n 0), (19, .getfield 20), (22, .invokevirtual 30)]), (48, [(25, .ifCond .ne 6), (28, .bipush (-3)), (30, .ireturn), (31, .aload_n 0), (32, .getfield 20), (35, .getfield 36), (38, .bipush 18), (40, .if_icmp .lt 6), (43, .bipush (-4)), (45, .ireturn), (46, .aload_n 0), (47, .iconst 0)]), (64, [(48, .putfield 26), (51, .aload_n 0), (52, .getfield 20), (55, .iload_n 1), (56, .iload_n 2), (57, .invokevirtual 40), (60, .ireturn)])]
theorem ct_X_pitch : c_X_pitch.all (fun x => x.2.all (q_dec prog_1_method_2_code)) = true := by decide +kernel
def rm_X_pitch : Room := { frames := 6, cells := 0, slots := 0, locals := 131 }
def kV_X_pitch (cI : ClassId) (tv : Nat) : List (Nat × (Nat × Nat × Nat × q_T)) := [(30, 1, 0, 0, q_V 0 (T_S_canJoin cI tv)), (40, 3, 0, 0, q_V 0 (T_S_put cI tv))]
def kI_X_pitch (cI : ClassId) (tv : Nat) : List (Nat × (Nat × Nat × Nat × q_T)) := []
def kS_X_pitch (cI : ClassId) (tv : Nat) : List (Nat × (Nat × Nat × Nat × q_T)) := []
def F_X_pitch (cI : ClassId) (tv : Nat) : q_K → q_G → q_G := q_F c_X_pitch (q_as fl_X) (q_as []) (q_as lc_X) (q_cal (kV_X_pitch cI tv) (kI_X_pitch cI tv) (kS_X_pitch cI tv)) (q_as nw_X) cI (q_tb tv) 3 0 0 (some FieldType.int)
def T_X_pitch (cI : ClassId) (tv : Nat) : q_T := fun as w K => (lg_sl as).length ≤ 3 ∧ q_wp (F_X_pitch cI tv) as w K
theorem M_X_pitch (l : Launch) (D : va_G) (cI : ClassId) (tv : Nat) : q_Met l y_X_pitch (Cond.code y_X_pitch prog_1_method_2_code 3 (some FieldType.int) :: aW) rm_X_pitch D cls5 [(cI, .int)] (qSt tv) (T_X_pitch cI tv) := q_contract (cc := prog_1_method_2_code) (nL := 3) (own := "SpellPitch") (ini := false) (by decide +kernel) rfl rfl (nofun) ⟨ct_X_pitch, fl_X_ok, (fun n v h => by cases h), lc_X_ok, q_tb_ok tv, q_cal_ok (q_cons (q_callV (k := 0) (T' := tt_S) (qStOK tv) (M_S_canJoin l D cI tv) (gV kw_187 kw_188 kw_189 kw_3 kw_190) rfl (by decide +kernel) ⟨by decide, by decide⟩ rfl) (q_cons (q_callV (k := 2) (T' := tt_S) (qStOK tv) (M_S_put l D cI tv) (gV kw_191 kw_192 kw_193 kw_3 kw_194) rfl (by decide +kernel) ⟨by decide, by decide⟩ rfl) (q_nil))) (q_nil) (q_nil), nw_X_ok, Or.inl (by decide +kernel)⟩
def c_S_has : q_C := [(21, [(0, .iload_n 1), (1, .ifCond .lt 15), (4, .iload_n 1), (5, .aload_n 0), (6, .getfield 36), (9, .if_icmp .ge 7), (12, .iconst 1), (13, .goto 4), (16, .iconst 0), (17, .ireturn)])]
theorem ct_S_has : c_S_has.all (fun x => x.2.all (q_dec prog_2_method_2_code)) = true := by decide +kernel
def rm_S_has : Room := { frames := 0, cells := 0, slots := 0, locals := 0 }
def kV_S_has (cI : ClassId) (tv : Nat) : List (Nat × (Nat × Nat × Nat × q_T)) := []
def kI_S_has (cI : ClassId) (tv : Nat) : List (Nat × (Nat × Nat × Nat × q_T)) := []
def kS_S_has (cI : ClassId) (tv : Nat) : List (Nat × (Nat × Nat × Nat × q_T)) := []
def F_S_has (cI : ClassId) (tv : Nat) : q_K → q_G → q_G := q_F c_S_has (q_as fl_S) (q_as []) (q_as lc_S) (q_cal (kV_S_has cI tv) (kI_S_has cI tv) (kS_S_has cI tv)) (q_as nw_S) cI (q_tb tv) 2 0 0 (some FieldType.boolean)
def T_S_has (cI : ClassId) (tv : Nat) : q_T := fun as w K => (lg_sl as).length ≤ 2 ∧ q_wp (F_S_has cI tv) as w K
theorem M_S_has (l : Launch) (D : va_G) (cI : ClassId) (tv : Nat) : q_Met l y_S_has (Cond.code y_S_has prog_2_method_2_code 2 (some FieldType.boolean) :: aW) rm_S_has D cls5 [(cI, .int)] (qSt tv) (T_S_has cI tv) := q_contract (cc := prog_2_method_2_code) (nL := 2) (own := "SpellPitch$Score") (ini := false) (by decide +kernel) rfl rfl (nofun) ⟨ct_S_has, fl_S_ok, (fun n v h => by cases h), lc_S_ok, q_tb_ok tv, q_cal_ok (q_nil) (q_nil) (q_nil), nw_S_ok, Or.inl (by decide +kernel)⟩
def c_X_key : q_C := [(23, [(0, .aload_n 0), (1, .getfield 20), (4, .iload_n 1), (5, .invokevirtual 44), (8, .ifCond .ne 5), (11, .iconst (-1)), (12, .ireturn), (13, .iload_n 2), (14, .ifCond .lt 9), (17, .iload_n 2), (18, .bipush 15), (20, .if_icmp .le 6)]), (44, [(23, .bipush (-2)), (25, .ireturn), (26, .aload_n 0), (27, .getfield 20), (30, .getfield 48), (33, .iload_n 1), (34, .iaload), (35, .istore_n 3), (36, .aload_n 0), (37, .getfield 20), (40, .getfield 52), (43, .iload_n 3)]), (65, [(44, .iaload), (45, .istore 4), (47, .aload_n 0), (48, .getfield 20), (51, .getfield 52), (54, .iload_n 3), (55, .iload_n 2), (56, .iastore), (57, .aload_n 0), (58, .aload_n 0), (59, .getfield 26), (62, .ifCond .eq 13)]), (85, [(65, .iload 4), (67, .iload_n 2), (68, .if_icmp .ne 7), (71, .iconst 1), (72, .goto 4), (75, .iconst 0), (76, .putfield 26), (79, .iload 4), (81, .ireturn)])]
theorem ct_X_key : c_X_key.all (fun x => x.2.all (q_dec prog_1_method_3_code)) = true := by decide +kernel
def rm_X_key : Room := { frames := 1, cells := 0, slots := 0, locals := 21 }
def kV_X_key (cI : ClassId) (tv : Nat) : List (Nat × (Nat × Nat × Nat × q_T)) := [(44, 2, 0, 0, q_V 0 (T_S_has cI tv))]
def kI_X_key (cI : ClassId) (tv : Nat) : List (Nat × (Nat × Nat × Nat × q_T)) := []
def kS_X_key (cI : ClassId) (tv : Nat) : List (Nat × (Nat × Nat × Nat × q_T)) := []
def F_X_key (cI : ClassId) (tv : Nat) : q_K → q_G → q_G := q_F c_X_key (q_as fl_X) (q_as []) (q_as lc_X) (q_cal (kV_X_key cI tv) (kI_X_key cI tv) (kS_X_key cI tv)) (q_as nw_X) cI (q_tb tv) 5 0 0 (some FieldType.int)
def T_X_key (cI : ClassId) (tv : Nat) : q_T := fun as w K => (lg_sl as).length ≤ 5 ∧ q_wp (F_X_key cI tv) as w K
theorem M_X_key (l : Launch) (D : va_G) (cI : ClassId) (tv : Nat) : q_Met l y_X_key (Cond.code y_X_key prog_1_method_3_code 5 (some FieldType.int) :: aW) rm_X_key D cls5 [(cI, .int)] (qSt tv) (T_X_key cI tv) := q_contract (cc := prog_1_method_3_code) (nL := 5) (own := "SpellPitch") (ini := false) (by decide +kernel) rfl rfl (nofun) ⟨ct_X_key, fl_X_ok, (fun n v h => by cases h), lc_X_ok, q_tb_ok tv, q_cal_ok (q_cons (q_callV (k := 1) (T' := tt_S) (qStOK tv) (M_S_has l D cI tv) (gV kw_222 kw_223 kw_224 kw_3 kw_225) rfl (by decide +kernel) ⟨by decide, by decide⟩ rfl) (q_nil)) (q_nil) (q_nil), nw_X_ok, Or.inl (by decide +kernel)⟩
def c_X_isName : q_C := [(19, [(0, .iload_n 0), (1, .ifCond .lt 13), (4, .iload_n 0), (5, .bipush 35), (7, .if_icmp .ge 7), (10, .iconst 1), (11, .goto 4), (14, .iconst 0), (15, .ireturn)])]
theorem ct_X_isName : c_X_isName.all (fun x => x.2.all (q_dec prog_1_method_23_code)) = true := by decide +kernel
def rm_X_isName : Room := { frames := 0, cells := 0, slots := 0, locals := 0 }
def kV_X_isName (cI : ClassId) (tv : Nat) : List (Nat × (Nat × Nat × Nat × q_T)) := []
def kI_X_isName (cI : ClassId) (tv : Nat) : List (Nat × (Nat × Nat × Nat × q_T)) := []
def kS_X_isName (cI : ClassId) (tv : Nat) : List (Nat × (Nat × Nat × Nat × q_T)) := []
def F_X_isName (cI : ClassId) (tv : Nat) : q_K → q_G → q_G := q_F c_X_isName (q_as fl_X) (q_as []) (q_as lc_X) (q_cal (kV_X_isName cI tv) (kI_X_isName cI tv) (kS_X_isName cI tv)) (q_as nw_X) cI (q_tb tv) 1 0 0 (some FieldType.boolean)
def T_X_isName (cI : ClassId) (tv : Nat) : q_T := fun as w K => (lg_sl as).length ≤ 1 ∧ q_wp (F_X_isName cI tv) as w K
theorem M_X_isName (l : Launch) (D : va_G) (cI : ClassId) (tv : Nat) : q_Met l y_X_isName (Cond.code y_X_isName prog_1_method_23_code 1 (some FieldType.boolean) :: aW) rm_X_isName D cls5 [(cI, .int)] (qSt tv) (T_X_isName cI tv) := q_contract (cc := prog_1_method_23_code) (nL := 1) (own := "SpellPitch") (ini := false) (by decide +kernel) rfl rfl (nofun) ⟨ct_X_isName, fl_X_ok, (fun n v h => by cases h), lc_X_ok, q_tb_ok tv, q_cal_ok (q_nil) (q_nil) (q_nil), nw_X_ok, Or.inl (by decide +kernel)⟩
def c_X_soundsAs : q_C := [(19, [(0, .bipush 7), (2, .iload_n 0), (3, .bipush 15), (5, .isub), (6, .imul), (7, .iload_n 1), (8, .isub), (9, .bipush 12), (11, .irem), (12, .ifCond .ne 7), (15, .iconst 1), (16, .goto 4)]), (24, [(19, .iconst 0), (20, .ireturn)])]
theorem ct_X_soundsAs : c_X_soundsAs.all (fun x => x.2.all (q_dec prog_1_method_27_code)) = true := by decide +kernel
def rm_X_soundsAs : Room := { frames := 0, cells := 0, slots := 0, locals := 0 }
def kV_X_soundsAs (cI : ClassId) (tv : Nat) : List (Nat × (Nat × Nat × Nat × q_T)) := []
def kI_X_soundsAs (cI : ClassId) (tv : Nat) : List (Nat × (Nat × Nat × Nat × q_T)) := []
def kS_X_soundsAs (cI : ClassId) (tv : Nat) : List (Nat × (Nat × Nat × Nat × q_T)) := []
def F_X_soundsAs (cI : ClassId) (tv : Nat) : q_K → q_G → q_G := q_F c_X_soundsAs (q_as fl_X) (q_as []) (q_as lc_X) (q_cal (kV_X_soundsAs cI tv) (kI_X_soundsAs cI tv) (kS_X_soundsAs cI tv)) (q_as nw_X) cI (q_tb tv) 2 0 0 (some FieldType.boolean)
def T_X_soundsAs (cI : ClassId) (tv : Nat) : q_T := fun as w K => (lg_sl as).length ≤ 2 ∧ q_wp (F_X_soundsAs cI tv) as w K
theorem M_X_soundsAs (l : Launch) (D : va_G) (cI : ClassId) (tv : Nat) : q_Met l y_X_soundsAs (Cond.code y_X_soundsAs prog_1_method_27_code 2 (some FieldType.boolean) :: aW) rm_X_soundsAs D cls5 [(cI, .int)] (qSt tv) (T_X_soundsAs cI tv) := q_contract (cc := prog_1_method_27_code) (nL := 2) (own := "SpellPitch") (ini := false) (by decide +kernel) rfl rfl (nofun) ⟨ct_X_soundsAs, fl_X_ok, (fun n v h => by cases h), lc_X_ok, q_tb_ok tv, q_cal_ok (q_nil) (q_nil) (q_nil), nw_X_ok, Or.inl (by decide +kernel)⟩
def c_X_fix : q_C := [(23, [(0, .aload_n 0), (1, .getfield 20), (4, .iload_n 1), (5, .invokevirtual 44), (8, .ifCond .ne 5), (11, .iconst (-1)), (12, .ireturn), (13, .iload_n 2), (14, .bipush 35), (16, .if_icmp .eq 29), (19, .iload_n 2), (20, .invokestatic 55)]), (46, [(23, .ifCond .eq 19), (26, .iload_n 2), (27, .aload_n 0), (28, .getfield 20), (31, .getfield 58), (34, .iload_n 1), (35, .iaload), (36, .invokestatic 61), (39, .ifCond .ne 6), (42, .bipush (-2)), (44, .ireturn), (45, .aload_n 0)]), (66, [(46, .getfield 20), (49, .getfield 65), (52, .iload_n 1), (53, .iaload), (54, .istore_n 3), (55, .aload_n 0), (56, .getfield 20), (59, .getfield 65), (62, .iload_n 1), (63, .iload_n 2), (64, .iastore), (65, .aload_n 0)]), (91, [(66, .aload_n 0), (67, .getfield 26), (70, .ifCond .eq 12), (73, .iload_n 3), (74, .iload_n 2), (75, .if_icmp .ne 7), (78, .iconst 1), (79, .goto 4), (82, .iconst 0), (83, .putfield 26), (86, .iload_n 3), (87, .ireturn)])]
theorem ct_X_fix : c_X_fix.all (fun x => x.2.all (q_dec prog_1_method_4_code)) = true := by decide +kernel
def rm_X_fix : Room := { frames := 1, cells := 0, slots := 0, locals := 21 }
def kV_X_fix (cI : ClassId) (tv : Nat) : List (Nat × (Nat × Nat × Nat × q_T)) := [(44, 2, 0, 0, q_V 0 (T_S_has cI tv))]
def kI_X_fix (cI : ClassId) (tv : Nat) : List (Nat × (Nat × Nat × Nat × q_T)) := []
def kS_X_fix (cI : ClassId) (tv : Nat) : List (Nat × (Nat × Nat × Nat × q_T)) := [(55, 1, 0, 0, T_X_isName cI tv), (61, 2, 0, 0, T_X_soundsAs cI tv)]
def F_X_fix (cI : ClassId) (tv : Nat) : q_K → q_G → q_G := q_F c_X_fix (q_as fl_X) (q_as []) (q_as lc_X) (q_cal (kV_X_fix cI tv) (kI_X_fix cI tv) (kS_X_fix cI tv)) (q_as nw_X) cI (q_tb tv) 4 0 0 (some FieldType.int)
def T_X_fix (cI : ClassId) (tv : Nat) : q_T := fun as w K => (lg_sl as).length ≤ 4 ∧ q_wp (F_X_fix cI tv) as w K
theorem M_X_fix (l : Launch) (D : va_G) (cI : ClassId) (tv : Nat) : q_Met l y_X_fix (Cond.code y_X_fix prog_1_method_4_code 4 (some FieldType.int) :: aW) rm_X_fix D cls5 [(cI, .int)] (qSt tv) (T_X_fix cI tv) := q_contract (cc := prog_1_method_4_code) (nL := 4) (own := "SpellPitch") (ini := false) (by decide +kernel) rfl rfl (nofun) ⟨ct_X_fix, fl_X_ok, (fun n v h => by cases h), lc_X_ok, q_tb_ok tv, q_cal_ok (q_cons (q_callV (k := 1) (T' := tt_S) (qStOK tv) (M_S_has l D cI tv) (gV kw_222 kw_223 kw_224 kw_3 kw_225) rfl (by decide +kernel) ⟨by decide, by decide⟩ rfl) (q_nil)) (q_nil) (q_cons (q_callS (k := 1) (qStOK tv) (M_X_isName l D cI tv) (gS kw_230 kw_231 kw_1 kw_232) rfl (by decide +kernel) ⟨by decide, by decide⟩) (q_cons (q_callS (k := 2) (qStOK tv) (M_X_soundsAs l D cI tv) (gS kw_233 kw_234 kw_1 kw_235) rfl (by decide +kernel) ⟨by decide, by decide⟩) (q_nil))), nw_X_ok, Or.inl (by decide +kernel)⟩
def c_X_isWeight : q_C := [(19, [(0, .iload_n 0), (1, .ifCond .lt 13), (4, .iload_n 0), (5, .bipush 20), (7, .if_icmp .gt 7), (10, .iconst 1), (11, .goto 4), (14, .iconst 0), (15, .ireturn)])]
theorem ct_X_isWeight : c_X_isWeight.all (fun x => x.2.all (q_dec prog_1_method_25_code)) = true := by decide +kernel
def rm_X_isWeight : Room := { frames := 0, cells := 0, slots := 0, locals := 0 }
def kV_X_isWeight (cI : ClassId) (tv : Nat) : List (Nat × (Nat × Nat × Nat × q_T)) := []
def kI_X_isWeight (cI : ClassId) (tv : Nat) : List (Nat × (Nat × Nat × Nat × q_T)) := []
def kS_X_isWeight (cI : ClassId) (tv : Nat) : List (Nat × (Nat × Nat × Nat × q_T)) := []
def F_X_isWeight (cI : ClassId) (tv : Nat) : q_K → q_G → q_G := q_F c_X_isWeight (q_as fl_X) (q_as []) (q_as lc_X) (q_cal (kV_X_isWeight cI tv) (kI_X_isWeight cI tv) (kS_X_isWeight cI tv)) (q_as nw_X) cI (q_tb tv) 1 0 0 (some FieldType.boolean)
def T_X_isWeight (cI : ClassId) (tv : Nat) : q_T := fun as w K => (lg_sl as).length ≤ 1 ∧ q_wp (F_X_isWeight cI tv) as w K
theorem M_X_isWeight (l : Launch) (D : va_G) (cI : ClassId) (tv : Nat) : q_Met l y_X_isWeight (Cond.code y_X_isWeight prog_1_method_25_code 1 (some FieldType.boolean) :: aW) rm_X_isWeight D cls5 [(cI, .int)] (qSt tv) (T_X_isWeight cI tv) := q_contract (cc := prog_1_method_25_code) (nL := 1) (own := "SpellPitch") (ini := false) (by decide +kernel) rfl rfl (nofun) ⟨ct_X_isWeight, fl_X_ok, (fun n v h => by cases h), lc_X_ok, q_tb_ok tv, q_cal_ok (q_nil) (q_nil) (q_nil), nw_X_ok, Or.inl (by decide +kernel)⟩
def c_X_weights : q_C := [(29, [(0, .iload_n 1), (1, .invokestatic 68), (4, .ifCond .eq 37), (7, .iload_n 2), (8, .invokestatic 68), (11, .ifCond .eq 30), (14, .iload_n 3), (15, .invokestatic 68), (18, .ifCond .eq 23), (21, .iload 4), (23, .invokestatic 68), (26, .ifCond .eq 15)]), (53, [(29, .iload 5), (31, .invokestatic 68), (34, .ifCond .eq 7), (37, .iconst 1), (38, .goto 4), (41, .iconst 0), (42, .istore 6), (44, .iload 6), (46, .ifCond .ne 6), (49, .bipush (-2)), (51, .ireturn), (52, .aload_n 0)]), (77, [(53, .getfield 25), (56, .iload_n 1), (57, .putfield 71), (60, .aload_n 0), (61, .getfield 25), (64, .iload_n 2), (65, .putfield 76), (68, .aload_n 0), (69, .getfield 25), (72, .iload_n 3), (73, .putfield 79), (76, .aload_n 0)]), (104, [(77, .getfield 25), (80, .iload 4), (82, .putfield 82), (85, .aload_n 0), (86, .getfield 25), (89, .iload 5), (91, .putfield 85), (94, .aload_n 0), (95, .iconst 0), (96, .putfield 26), (99, .iconst 1), (100, .ireturn)])]
theorem ct_X_weights : c_X_weights.all (fun x => x.2.all (q_dec prog_1_method_5_code)) = true := by decide +kernel
def rm_X_weights : Room := { frames := 1, cells := 0, slots := 0, locals := 20 }
def kV_X_weights (cI : ClassId) (tv : Nat) : List (Nat × (Nat × Nat × Nat × q_T)) := []
def kI_X_weights (cI : ClassId) (tv : Nat) : List (Nat × (Nat × Nat × Nat × q_T)) := []
def kS_X_weights (cI : ClassId) (tv : Nat) : List (Nat × (Nat × Nat × Nat × q_T)) := [(68, 1, 0, 0, T_X_isWeight cI tv)]
def F_X_weights (cI : ClassId) (tv : Nat) : q_K → q_G → q_G := q_F c_X_weights (q_as fl_X) (q_as []) (q_as lc_X) (q_cal (kV_X_weights cI tv) (kI_X_weights cI tv) (kS_X_weights cI tv)) (q_as nw_X) cI (q_tb tv) 7 0 0 (some FieldType.int)
def T_X_weights (cI : ClassId) (tv : Nat) : q_T := fun as w K => (lg_sl as).length ≤ 7 ∧ q_wp (F_X_weights cI tv) as w K
theorem M_X_weights (l : Launch) (D : va_G) (cI : ClassId) (tv : Nat) : q_Met l y_X_weights (Cond.code y_X_weights prog_1_method_5_code 7 (some FieldType.int) :: aW) rm_X_weights D cls5 [(cI, .int)] (qSt tv) (T_X_weights cI tv) := q_contract (cc := prog_1_method_5_code) (nL := 7) (own := "SpellPitch") (ini := false) (by decide +kernel) rfl rfl (nofun) ⟨ct_X_weights, fl_X_ok, (fun n v h => by cases h), lc_X_ok, q_tb_ok tv, q_cal_ok (q_nil) (q_nil) (q_cons (q_callS (k := 1) (qStOK tv) (M_X_isWeight l D cI tv) (gS kw_240 kw_241 kw_1 kw_242) rfl (by decide +kernel) ⟨by decide, by decide⟩) (q_nil)), nw_X_ok, Or.inl (by decide +kernel)⟩
def c_S_empty : q_C := [(14, [(0, .aload_n 0), (1, .iconst 0), (2, .putfield 36), (5, .aload_n 0), (6, .iconst 0), (7, .putfield 40), (10, .return_)])]
theorem ct_S_empty : c_S_empty.all (fun x => x.2.all (q_dec prog_2_method_6_code)) = true := by decide +kernel
def rm_S_empty : Room := { frames := 0, cells := 0, slots := 0, locals := 0 }
def kV_S_empty (cI : ClassId) (tv : Nat) : List (Nat × (Nat × Nat × Nat × q_T)) := []
def kI_S_empty (cI : ClassId) (tv : Nat) : List (Nat × (Nat × Nat × Nat × q_T)) := []
def kS_S_empty (cI : ClassId) (tv : Nat) : List (Nat × (Nat × Nat × Nat × q_T)) := []
def F_S_empty (cI : ClassId) (tv : Nat) : q_K → q_G → q_G := q_F c_S_empty (q_as fl_S) (q_as []) (q_as lc_S) (q_cal (kV_S_empty cI tv) (kI_S_empty cI tv) (kS_S_empty cI tv)) (q_as nw_S) cI (q_tb tv) 1 0 0 (none)
def T_S_empty (cI : ClassId) (tv : Nat) : q_T := fun as w K => (lg_sl as).length ≤ 1 ∧ q_wp (F_S_empty cI tv) as w K
theorem M_S_empty (l : Launch) (D : va_G) (cI : ClassId) (tv : Nat) : q_Met l y_S_empty (Cond.code y_S_empty prog_2_method_6_code 1 (none) :: aW) rm_S_empty D cls5 [(cI, .int)] (qSt tv) (T_S_empty cI tv) := q_contract (cc := prog_2_method_6_code) (nL := 1) (own := "SpellPitch$Score") (ini := false) (by decide +kernel) rfl rfl (nofun) ⟨ct_S_empty, fl_S_ok, (fun n v h => by cases h), lc_S_ok, q_tb_ok tv, q_cal_ok (q_nil) (q_nil) (q_nil), nw_S_ok, Or.inl (by decide +kernel)⟩
def c_X_clear : q_C := [(25, [(0, .aload_n 0), (1, .getfield 20), (4, .getfield 36), (7, .istore_n 1), (8, .aload_n 0), (9, .getfield 20), (12, .invokevirtual 88), (15, .aload_n 0), (16, .iconst 0), (17, .putfield 26), (20, .iload_n 1), (21, .ireturn)])]
theorem ct_X_clear : c_X_clear.all (fun x => x.2.all (q_dec prog_1_method_6_code)) = true := by decide +kernel
def rm_X_clear : Room := { frames := 1, cells := 0, slots := 0, locals := 20 }
def kV_X_clear (cI : ClassId) (tv : Nat) : List (Nat × (Nat × Nat × Nat × q_T)) := [(88, 1, 0, 0, q_V 0 (T_S_empty cI tv))]
def kI_X_clear (cI : ClassId) (tv : Nat) : List (Nat × (Nat × Nat × Nat × q_T)) := []
def kS_X_clear (cI : ClassId) (tv : Nat) : List (Nat × (Nat × Nat × Nat × q_T)) := []
def F_X_clear (cI : ClassId) (tv : Nat) : q_K → q_G → q_G := q_F c_X_clear (q_as fl_X) (q_as []) (q_as lc_X) (q_cal (kV_X_clear cI tv) (kI_X_clear cI tv) (kS_X_clear cI tv)) (q_as nw_X) cI (q_tb tv) 2 0 0 (some FieldType.int)
def T_X_clear (cI : ClassId) (tv : Nat) : q_T := fun as w K => (lg_sl as).length ≤ 2 ∧ q_wp (F_X_clear cI tv) as w K
theorem M_X_clear (l : Launch) (D : va_G) (cI : ClassId) (tv : Nat) : q_Met l y_X_clear (Cond.code y_X_clear prog_1_method_6_code 2 (some FieldType.int) :: aW) rm_X_clear D cls5 [(cI, .int)] (qSt tv) (T_X_clear cI tv) := q_contract (cc := prog_1_method_6_code) (nL := 2) (own := "SpellPitch") (ini := false) (by decide +kernel) rfl rfl (nofun) ⟨ct_X_clear, fl_X_ok, (fun n v h => by cases h), lc_X_ok, q_tb_ok tv, q_cal_ok (q_cons (q_callV (k := 0) (T' := tt_S) (qStOK tv) (M_S_empty l D cI tv) (gV kw_247 kw_248 kw_249 kw_3 kw_250) rfl (by decide +kernel) ⟨by decide, by decide⟩ rfl) (q_nil)) (q_nil) (q_nil), nw_X_ok, Or.inl (by decide +kernel)⟩
def c_R_picksAt : q_C := [(17, [(0, .getstatic 100), (3, .aload_n 0), (4, .getfield 31), (7, .getfield 103), (10, .iload_n 1), (11, .iaload), (12, .iaload), (13, .ireturn)])]
theorem ct_R_picksAt : c_R_picksAt.all (fun x => x.2.all (q_dec prog_3_method_3_code)) = true := by decide +kernel
def rm_R_picksAt : Room := { frames := 0, cells := 0, slots := 0, locals := 0 }
def kV_R_picksAt (cI : ClassId) (tv : Nat) : List (Nat × (Nat × Nat × Nat × q_T)) := []
def kI_R_picksAt (cI : ClassId) (tv : Nat) : List (Nat × (Nat × Nat × Nat × q_T)) := []
def kS_R_picksAt (cI : ClassId) (tv : Nat) : List (Nat × (Nat × Nat × Nat × q_T)) := []
def F_R_picksAt (cI : ClassId) (tv : Nat) : q_K → q_G → q_G := q_F c_R_picksAt (q_as fl_R) (q_as [(100, .ref tv)]) (q_as lc_R) (q_cal (kV_R_picksAt cI tv) (kI_R_picksAt cI tv) (kS_R_picksAt cI tv)) (q_as nw_R) cI (q_tb tv) 2 0 0 (some FieldType.int)
def T_R_picksAt (cI : ClassId) (tv : Nat) : q_T := fun as w K => (lg_sl as).length ≤ 2 ∧ q_wp (F_R_picksAt cI tv) as w K
theorem M_R_picksAt (l : Launch) (D : va_G) (cI : ClassId) (tv : Nat) : q_Met l y_R_picksAt (Cond.code y_R_picksAt prog_3_method_3_code 2 (some FieldType.int) :: aW) rm_R_picksAt D cls5 [(cI, .int)] (qSt tv) (T_R_picksAt cI tv) := q_contract (cc := prog_3_method_3_code) (nL := 2) (own := "SpellPitch$Search") (ini := false) (by decide +kernel) rfl rfl (nofun) ⟨ct_R_picksAt, fl_R_ok, (fun n v h => ⟨"SpellPitch$Search", "PICKS", "[I", fun A U H hs => by cases (List.mem_singleton.mp (q_as_in h)); exact hs.1, by cases (List.mem_singleton.mp (q_as_in h)); exact aW_in kw_271⟩), lc_R_ok, q_tb_ok tv, q_cal_ok (q_nil) (q_nil) (q_nil), nw_R_ok, Or.inl (by decide +kernel)⟩
def c_R_layOutStates : q_C := [(20, [(0, .iconst 0), (1, .istore_n 1), (2, .iconst 0), (3, .istore_n 2), (4, .iload_n 2), (5, .aload_n 0), (6, .getfield 31), (9, .getfield 75), (12, .if_icmp .ge 27), (15, .aload_n 0), (16, .getfield 45), (19, .iload_n 2)]), (39, [(20, .iload_n 1), (21, .iastore), (22, .iload_n 1), (23, .bipush 15), (25, .aload_n 0), (26, .iload_n 2), (27, .invokevirtual 106), (30, .imul), (31, .iadd), (32, .istore_n 1), (33, .iinc 2 1), (36, .goto (-32))]), (43, [(39, .return_)])]
theorem ct_R_layOutStates : c_R_layOutStates.all (fun x => x.2.all (q_dec prog_3_method_4_code)) = true := by decide +kernel
def rm_R_layOutStates : Room := { frames := 1, cells := 0, slots := 0, locals := 21 }
def kV_R_layOutStates (cI : ClassId) (tv : Nat) : List (Nat × (Nat × Nat × Nat × q_T)) := [(106, 2, 0, 0, q_V 1 (T_R_picksAt cI tv))]
def kI_R_layOutStates (cI : ClassId) (tv : Nat) : List (Nat × (Nat × Nat × Nat × q_T)) := []
def kS_R_layOutStates (cI : ClassId) (tv : Nat) : List (Nat × (Nat × Nat × Nat × q_T)) := []
def F_R_layOutStates (cI : ClassId) (tv : Nat) : q_K → q_G → q_G := q_F c_R_layOutStates (q_as fl_R) (q_as [(100, .ref tv)]) (q_as lc_R) (q_cal (kV_R_layOutStates cI tv) (kI_R_layOutStates cI tv) (kS_R_layOutStates cI tv)) (q_as nw_R) cI (q_tb tv) 3 0 0 (none)
def T_R_layOutStates (cI : ClassId) (tv : Nat) : q_T := fun as w K => (lg_sl as).length ≤ 3 ∧ q_wp (F_R_layOutStates cI tv) as w K
theorem M_R_layOutStates (l : Launch) (D : va_G) (cI : ClassId) (tv : Nat) : q_Met l y_R_layOutStates (Cond.code y_R_layOutStates prog_3_method_4_code 3 (none) :: aW) rm_R_layOutStates D cls5 [(cI, .int)] (qSt tv) (T_R_layOutStates cI tv) := q_contract (cc := prog_3_method_4_code) (nL := 3) (own := "SpellPitch$Search") (ini := false) (by decide +kernel) rfl rfl (nofun) ⟨ct_R_layOutStates, fl_R_ok, (fun n v h => ⟨"SpellPitch$Search", "PICKS", "[I", fun A U H hs => by cases (List.mem_singleton.mp (q_as_in h)); exact hs.1, by cases (List.mem_singleton.mp (q_as_in h)); exact aW_in kw_271⟩), lc_R_ok, q_tb_ok tv, q_cal_ok (q_cons (q_callV (k := 1) (T' := tt_R) (qStOK tv) (M_R_picksAt l D cI tv) (gV kw_267 kw_269 ks_3 kw_2 kw_270) rfl (by decide +kernel) ⟨by decide, by decide⟩ rfl) (q_nil)) (q_nil) (q_nil), nw_R_ok, Or.inl (by decide +kernel)⟩
def c_J_abs : q_C := [(14, [(0, .iload_n 0), (1, .ifCond .ge 8), (4, .iload_n 0), (5, .ineg), (6, .goto 4), (9, .iload_n 0), (10, .ireturn)])]
theorem ct_J_abs : c_J_abs.all (fun x => x.2.all (q_dec prog_9_method_59_code)) = true := by decide +kernel
def rm_J_abs : Room := { frames := 0, cells := 0, slots := 0, locals := 0 }
def kV_J_abs (cI : ClassId) (tv : Nat) : List (Nat × (Nat × Nat × Nat × q_T)) := []
def kI_J_abs (cI : ClassId) (tv : Nat) : List (Nat × (Nat × Nat × Nat × q_T)) := []
def kS_J_abs (cI : ClassId) (tv : Nat) : List (Nat × (Nat × Nat × Nat × q_T)) := []
def F_J_abs (cI : ClassId) (tv : Nat) : q_K → q_G → q_G := q_F c_J_abs (q_as fl_J) (q_as []) (q_as lc_J) (q_cal (kV_J_abs cI tv) (kI_J_abs cI tv) (kS_J_abs cI tv)) (q_as nw_J) cI (q_tb tv) 1 0 0 (some FieldType.int)
def T_J_abs (cI : ClassId) (tv : Nat) : q_T := fun as w K => (lg_sl as).length ≤ 1 ∧ q_wp (F_J_abs cI tv) as w K
theorem M_J_abs (l : Launch) (D : va_G) (cI : ClassId) (tv : Nat) : q_Met l y_J_abs (Cond.code y_J_abs prog_9_method_59_code 1 (some FieldType.int) :: aW) rm_J_abs D cls5 [(cI, .int)] (qSt tv) (T_J_abs cI tv) := q_contract (cc := prog_9_method_59_code) (nL := 1) (own := "java/lang/Math") (ini := false) (by decide +kernel) rfl rfl (nofun) ⟨ct_J_abs, fl_J_ok, (fun n v h => by cases h), lc_J_ok, q_tb_ok tv, q_cal_ok (q_nil) (q_nil) (q_nil), nw_J_ok, Or.inl (by decide +kernel)⟩
def c_X_isTurn : q_C := [(20, [(0, .iload_n 1), (1, .iload_n 0), (2, .isub), (3, .invokestatic 160), (6, .bipush 12), (8, .if_icmp .ne 7), (11, .iconst 1), (12, .goto 4), (15, .iconst 0), (16, .ireturn)])]
theorem ct_X_isTurn : c_X_isTurn.all (fun x => x.2.all (q_dec prog_1_method_26_code)) = true := by decide +kernel
def rm_X_isTurn : Room := { frames := 1, cells := 0, slots := 0, locals := 20 }
def kV_X_isTurn (cI : ClassId) (tv : Nat) : List (Nat × (Nat × Nat × Nat × q_T)) := []
def kI_X_isTurn (cI : ClassId) (tv : Nat) : List (Nat × (Nat × Nat × Nat × q_T)) := []
def kS_X_isTurn (cI : ClassId) (tv : Nat) : List (Nat × (Nat × Nat × Nat × q_T)) := [(160, 1, 0, 0, T_J_abs cI tv)]
def F_X_isTurn (cI : ClassId) (tv : Nat) : q_K → q_G → q_G := q_F c_X_isTurn (q_as fl_X) (q_as []) (q_as lc_X) (q_cal (kV_X_isTurn cI tv) (kI_X_isTurn cI tv) (kS_X_isTurn cI tv)) (q_as nw_X) cI (q_tb tv) 2 0 0 (some FieldType.boolean)
def T_X_isTurn (cI : ClassId) (tv : Nat) : q_T := fun as w K => (lg_sl as).length ≤ 2 ∧ q_wp (F_X_isTurn cI tv) as w K
theorem M_X_isTurn (l : Launch) (D : va_G) (cI : ClassId) (tv : Nat) : q_Met l y_X_isTurn (Cond.code y_X_isTurn prog_1_method_26_code 2 (some FieldType.boolean) :: aW) rm_X_isTurn D cls5 [(cI, .int)] (qSt tv) (T_X_isTurn cI tv) := q_contract (cc := prog_1_method_26_code) (nL := 2) (own := "SpellPitch") (ini := false) (by decide +kernel) rfl rfl (nofun) ⟨ct_X_isTurn, fl_X_ok, (fun n v h => by cases h), lc_X_ok, q_tb_ok tv, q_cal_ok (q_nil) (q_nil) (q_cons (q_callS (k := 1) (qStOK tv) (M_J_abs l D cI tv) (gS kw_280 kw_281 kw_6 kw_282) rfl (by decide +kernel) ⟨by decide, by decide⟩) (q_nil)), nw_X_ok, Or.inl (by decide +kernel)⟩
def c_R_linkKeys : q_C := [(18, [(0, .iconst 0), (1, .istore_n 1), (2, .iload_n 1), (3, .bipush 15), (5, .if_icmp .ge 65), (8, .iconst 0), (9, .istore_n 2), (10, .iload_n 2), (11, .bipush 15), (13, .if_icmp .ge 51), (16, .iload_n 1), (17, .iload_n 2)]), (40, [(18, .invokestatic 110), (21, .ifCond .eq 7), (24, .iconst 1), (25, .goto 9), (28, .iload_n 2), (29, .iload_n 1), (30, .isub), (31, .invokestatic 114), (34, .istore_n 3), (35, .aload_n 0), (36, .getfield 63), (39, .iload_n 1)]), (58, [(40, .bipush 15), (42, .imul), (43, .iload_n 2), (44, .iadd), (45, .bipush 64), (47, .aload_n 0), (48, .getfield 38), (51, .getfield 119), (54, .imul), (55, .iload_n 3), (56, .imul), (57, .iastore)]), (74, [(58, .iinc 2 1), (61, .goto (-51)), (64, .iinc 1 1), (67, .goto (-65)), (70, .return_)])]
theorem ct_R_linkKeys : c_R_linkKeys.all (fun x => x.2.all (q_dec prog_3_method_5_code)) = true := by decide +kernel
def rm_R_linkKeys : Room := { frames := 2, cells := 0, slots := 0, locals := 41 }
def kV_R_linkKeys (cI : ClassId) (tv : Nat) : List (Nat × (Nat × Nat × Nat × q_T)) := []
def kI_R_linkKeys (cI : ClassId) (tv : Nat) : List (Nat × (Nat × Nat × Nat × q_T)) := []
def kS_R_linkKeys (cI : ClassId) (tv : Nat) : List (Nat × (Nat × Nat × Nat × q_T)) := [(110, 2, 0, 0, T_X_isTurn cI tv), (114, 1, 0, 0, T_J_abs cI tv)]
def F_R_linkKeys (cI : ClassId) (tv : Nat) : q_K → q_G → q_G := q_F c_R_linkKeys (q_as fl_R) (q_as [(100, .ref tv)]) (q_as lc_R) (q_cal (kV_R_linkKeys cI tv) (kI_R_linkKeys cI tv) (kS_R_linkKeys cI tv)) (q_as nw_R) cI (q_tb tv) 4 0 0 (none)
def T_R_linkKeys (cI : ClassId) (tv : Nat) : q_T := fun as w K => (lg_sl as).length ≤ 4 ∧ q_wp (F_R_linkKeys cI tv) as w K
theorem M_R_linkKeys (l : Launch) (D : va_G) (cI : ClassId) (tv : Nat) : q_Met l y_R_linkKeys (Cond.code y_R_linkKeys prog_3_method_5_code 4 (none) :: aW) rm_R_linkKeys D cls5 [(cI, .int)] (qSt tv) (T_R_linkKeys cI tv) := q_contract (cc := prog_3_method_5_code) (nL := 4) (own := "SpellPitch$Search") (ini := false) (by decide +kernel) rfl rfl (nofun) ⟨ct_R_linkKeys, fl_R_ok, (fun n v h => ⟨"SpellPitch$Search", "PICKS", "[I", fun A U H hs => by cases (List.mem_singleton.mp (q_as_in h)); exact hs.1, by cases (List.mem_singleton.mp (q_as_in h)); exact aW_in kw_271⟩), lc_R_ok, q_tb_ok tv, q_cal_ok (q_nil) (q_nil) (q_cons (q_callSN (k := 2) (qStOK tv) (M_X_isTurn l D cI tv) (gW kw_279) rfl (qSt_4 (tv := tv)) (aW_in kw_1) (aW_in kw_278) (by decide +kernel) ⟨by decide, by decide⟩) (q_cons (q_callS (k := 1) (qStOK tv) (M_J_abs l D cI tv) (gS kw_283 kw_281 kw_6 kw_282) rfl (by decide +kernel) ⟨by decide, by decide⟩) (q_nil))), nw_R_ok, Or.inl (by decide +kernel)⟩
def c_R_lookAtTheEnd : q_C := [(19, [(0, .aload_n 0), (1, .iconst 1), (2, .putfield 72), (5, .iconst 0), (6, .istore_n 1), (7, .iload_n 1), (8, .bipush 15), (10, .if_icmp .ge 23), (13, .aload_n 0), (14, .getfield 51), (17, .iload_n 1), (18, .iconst 0)]), (37, [(19, .iastore), (20, .aload_n 0), (21, .getfield 54), (24, .iload_n 1), (25, .iconst 1), (26, .iastore), (27, .iinc 1 1), (30, .goto (-23)), (33, .return_)])]
theorem ct_R_lookAtTheEnd : c_R_lookAtTheEnd.all (fun x => x.2.all (q_dec prog_3_method_8_code)) = true := by decide +kernel
def rm_R_lookAtTheEnd : Room := { frames := 0, cells := 0, slots := 0, locals := 0 }
def kV_R_lookAtTheEnd (cI : ClassId) (tv : Nat) : List (Nat × (Nat × Nat × Nat × q_T)) := []
def kI_R_lookAtTheEnd (cI : ClassId) (tv : Nat) : List (Nat × (Nat × Nat × Nat × q_T)) := []
def kS_R_lookAtTheEnd (cI : ClassId) (tv : Nat) : List (Nat × (Nat × Nat × Nat × q_T)) := []
def F_R_lookAtTheEnd (cI : ClassId) (tv : Nat) : q_K → q_G → q_G := q_F c_R_lookAtTheEnd (q_as fl_R) (q_as [(100, .ref tv)]) (q_as lc_R) (q_cal (kV_R_lookAtTheEnd cI tv) (kI_R_lookAtTheEnd cI tv) (kS_R_lookAtTheEnd cI tv)) (q_as nw_R) cI (q_tb tv) 2 0 0 (none)
def T_R_lookAtTheEnd (cI : ClassId) (tv : Nat) : q_T := fun as w K => (lg_sl as).length ≤ 2 ∧ q_wp (F_R_lookAtTheEnd cI tv) as w K
theorem M_R_lookAtTheEnd (l : Launch) (D : va_G) (cI : ClassId) (tv : Nat) : q_Met l y_R_lookAtTheEnd (Cond.code y_R_lookAtTheEnd prog_3_method_8_code 2 (none) :: aW) rm_R_lookAtTheEnd D cls5 [(cI, .int)] (qSt tv) (T_R_lookAtTheEnd cI tv) := q_contract (cc := prog_3_method_8_code) (nL := 2) (own := "SpellPitch$Search") (ini := false) (by decide +kernel) rfl rfl (nofun) ⟨ct_R_lookAtTheEnd, fl_R_ok, (fun n v h => ⟨"SpellPitch$Search", "PICKS", "[I", fun A U H hs => by cases (List.mem_singleton.mp (q_as_in h)); exact hs.1, by cases (List.mem_singleton.mp (q_as_in h)); exact aW_in kw_271⟩), lc_R_ok, q_tb_ok tv, q_cal_ok (q_nil) (q_nil) (q_nil), nw_R_ok, Or.inl (by decide +kernel)⟩
def c_R_digit : q_C := [(17, [(0, .iload_n 0), (1, .getstatic 100), (4, .iload_n 1), (5, .iconst 1), (6, .isub), (7, .iload_n 2), (8, .isub), (9, .iaload), (10, .idiv), (11, .iconst 3), (12, .irem), (13, .ireturn)])]
theorem ct_R_digit : c_R_digit.all (fun x => x.2.all (q_dec prog_3_method_11_code)) = true := by decide +kernel
def rm_R_digit : Room := { frames := 0, cells := 0, slots := 0, locals := 0 }
def kV_R_digit (cI : ClassId) (tv : Nat) : List (Nat × (Nat × Nat × Nat × q_T)) := []
def kI_R_digit (cI : ClassId) (tv : Nat) : List (Nat × (Nat × Nat × Nat × q_T)) := []
def kS_R_digit (cI : ClassId) (tv : Nat) : List (Nat × (Nat × Nat × Nat × q_T)) := []
def F_R_digit (cI : ClassId) (tv : Nat) : q_K → q_G → q_G := q_F c_R_digit (q_as fl_R) (q_as [(100, .ref tv)]) (q_as lc_R) (q_cal (kV_R_digit cI tv) (kI_R_digit cI tv) (kS_R_digit cI tv)) (q_as nw_R) cI (q_tb tv) 3 0 0 (some FieldType.int)
def T_R_digit (cI : ClassId) (tv : Nat) : q_T := fun as w K => (lg_sl as).length ≤ 3 ∧ q_wp (F_R_digit cI tv) as w K
theorem M_R_digit (l : Launch) (D : va_G) (cI : ClassId) (tv : Nat) : q_Met l y_R_digit (Cond.code y_R_digit prog_3_method_11_code 3 (some FieldType.int) :: aW) rm_R_digit D cls5 [(cI, .int)] (qSt tv) (T_R_digit cI tv) := q_contract (cc := prog_3_method_11_code) (nL := 3) (own := "SpellPitch$Search") (ini := false) (by decide +kernel) rfl rfl (nofun) ⟨ct_R_digit, fl_R_ok, (fun n v h => ⟨"SpellPitch$Search", "PICKS", "[I", fun A U H hs => by cases (List.mem_singleton.mp (q_as_in h)); exact hs.1, by cases (List.mem_singleton.mp (q_as_in h)); exact aW_in kw_271⟩), lc_R_ok, q_tb_ok tv, q_cal_ok (q_nil) (q_nil) (q_nil), nw_R_ok, Or.inl (by decide +kernel)⟩
def c_S_allowsName : q_C := [(23, [(0, .iload_n 2), (1, .invokestatic 56), (4, .ifCond .eq 28), (7, .aload_n 0), (8, .getfield 15), (11, .iload_n 1), (12, .iaload), (13, .bipush 35), (15, .if_icmp .eq 13), (18, .aload_n 0), (19, .getfield 15), (22, .iload_n 1)]), (37, [(23, .iaload), (24, .iload_n 2), (25, .if_icmp .ne 7), (28, .iconst 1), (29, .goto 4), (32, .iconst 0), (33, .ireturn)])]
theorem ct_S_allowsName : c_S_allowsName.all (fun x => x.2.all (q_dec prog_2_method_7_code)) = true := by decide +kernel
def rm_S_allowsName : Room := { frames := 1, cells := 0, slots := 0, locals := 20 }
def kV_S_allowsName (cI : ClassId) (tv : Nat) : List (Nat × (Nat × Nat × Nat × q_T)) := []
def kI_S_allowsName (cI : ClassId) (tv : Nat) : List (Nat × (Nat × Nat × Nat × q_T)) := []
def kS_S_allowsName (cI : ClassId) (tv : Nat) : List (Nat × (Nat × Nat × Nat × q_T)) := [(56, 1, 0, 0, T_X_isName cI tv)]
def F_S_allowsName (cI : ClassId) (tv : Nat) : q_K → q_G → q_G := q_F c_S_allowsName (q_as fl_S) (q_as []) (q_as lc_S) (q_cal (kV_S_allowsName cI tv) (kI_S_allowsName cI tv) (kS_S_allowsName cI tv)) (q_as nw_S) cI (q_tb tv) 3 0 0 (some FieldType.boolean)
def T_S_allowsName (cI : ClassId) (tv : Nat) : q_T := fun as w K => (lg_sl as).length ≤ 3 ∧ q_wp (F_S_allowsName cI tv) as w K
theorem M_S_allowsName (l : Launch) (D : va_G) (cI : ClassId) (tv : Nat) : q_Met l y_S_allowsName (Cond.code y_S_allowsName prog_2_method_7_code 3 (some FieldType.boolean) :: aW) rm_S_allowsName D cls5 [(cI, .int)] (qSt tv) (T_S_allowsName cI tv) := q_contract (cc := prog_2_method_7_code) (nL := 3) (own := "SpellPitch$Score") (ini := false) (by decide +kernel) rfl rfl (nofun) ⟨ct_S_allowsName, fl_S_ok, (fun n v h => by cases h), lc_S_ok, q_tb_ok tv, q_cal_ok (q_nil) (q_nil) (q_cons (q_callSN (k := 1) (qStOK tv) (M_X_isName l D cI tv) (gW kw_232) rfl (qSt_5 (tv := tv)) (aW_in kw_1) (aW_in kw_231) (by decide +kernel) ⟨by decide, by decide⟩) (q_nil)), nw_S_ok, Or.inl (by decide +kernel)⟩
def c_R_tryNames : q_C := [(21, [(0, .aload_n 0), (1, .getfield 31), (4, .getfield 103), (7, .iload_n 1), (8, .iaload), (9, .istore_n 3), (10, .aload_n 0), (11, .getfield 31), (14, .getfield 122), (17, .iload_n 1), (18, .iaload), (19, .istore 4)]), (43, [(21, .iconst 1), (22, .istore 5), (24, .iconst 0), (25, .istore 6), (27, .iload 6), (29, .iload_n 3), (30, .if_icmp .ge 73), (33, .aload_n 0), (34, .getfield 69), (37, .iload 6), (39, .aload_n 0), (40, .getfield 31)]), (62, [(43, .getfield 155), (46, .iload 4), (48, .iload 6), (50, .iadd), (51, .iconst 3), (52, .imul), (53, .iload_n 2), (54, .iload_n 3), (55, .iload 6), (57, .invokestatic 158), (60, .iadd), (61, .iaload)]), (84, [(62, .iastore), (63, .iload 5), (65, .ifCond .eq 29), (68, .aload_n 0), (69, .getfield 31), (72, .iload 4), (74, .iload 6), (76, .iadd), (77, .aload_n 0), (78, .getfield 69), (81, .iload 6), (83, .iaload)]), (109, [(84, .invokevirtual 162), (87, .ifCond .eq 7), (90, .iconst 1), (91, .goto 4), (94, .iconst 0), (95, .istore 5), (97, .iinc 6 1), (100, .goto (-73)), (103, .iload 5), (105, .ireturn)])]
theorem ct_R_tryNames : c_R_tryNames.all (fun x => x.2.all (q_dec prog_3_method_10_code)) = true := by decide +kernel
def rm_R_tryNames : Room := { frames := 2, cells := 0, slots := 0, locals := 42 }
def kV_R_tryNames (cI : ClassId) (tv : Nat) : List (Nat × (Nat × Nat × Nat × q_T)) := [(162, 3, 0, 0, q_V 0 (T_S_allowsName cI tv))]
def kI_R_tryNames (cI : ClassId) (tv : Nat) : List (Nat × (Nat × Nat × Nat × q_T)) := []
def kS_R_tryNames (cI : ClassId) (tv : Nat) : List (Nat × (Nat × Nat × Nat × q_T)) := [(158, 3, 0, 0, T_R_digit cI tv)]
def F_R_tryNames (cI : ClassId) (tv : Nat) : q_K → q_G → q_G := q_F c_R_tryNames (q_as fl_R) (q_as [(100, .ref tv)]) (q_as lc_R) (q_cal (kV_R_tryNames cI tv) (kI_R_tryNames cI tv) (kS_R_tryNames cI tv)) (q_as nw_R) cI (q_tb tv) 7 0 0 (some FieldType.boolean)
def T_R_tryNames (cI : ClassId) (tv : Nat) : q_T := fun as w K => (lg_sl as).length ≤ 7 ∧ q_wp (F_R_tryNames cI tv) as w K
theorem M_R_tryNames (l : Launch) (D : va_G) (cI : ClassId) (tv : Nat) : q_Met l y_R_tryNames (Cond.code y_R_tryNames prog_3_method_10_code 7 (some FieldType.boolean) :: aW) rm_R_tryNames D cls5 [(cI, .int)] (qSt tv) (T_R_tryNames cI tv) := q_contract (cc := prog_3_method_10_code) (nL := 7) (own := "SpellPitch$Search") (ini := false) (by decide +kernel) rfl rfl (nofun) ⟨ct_R_tryNames, fl_R_ok, (fun n v h => ⟨"SpellPitch$Search", "PICKS", "[I", fun A U H hs => by cases (List.mem_singleton.mp (q_as_in h)); exact hs.1, by cases (List.mem_singleton.mp (q_as_in h)); exact aW_in kw_271⟩), lc_R_ok, q_tb_ok tv, q_cal_ok (q_cons (q_callV (k := 2) (T' := tt_S) (qStOK tv) (M_S_allowsName l D cI tv) (gV kw_299 kw_300 kw_301 kw_3 kw_302) rfl (by decide +kernel) ⟨by decide, by decide⟩ rfl) (q_nil)) (q_nil) (q_cons (q_callS (k := 3) (qStOK tv) (M_R_digit l D cI tv) (gS kw_296 kw_297 kw_2 kw_298) rfl (by decide +kernel) ⟨by decide, by decide⟩) (q_nil)), nw_R_ok, Or.inl (by decide +kernel)⟩
def c_J_max : q_C := [(14, [(0, .iload_n 0), (1, .iload_n 1), (2, .if_icmp .lt 7), (5, .iload_n 0), (6, .goto 4), (9, .iload_n 1), (10, .ireturn)])]
theorem ct_J_max : c_J_max.all (fun x => x.2.all (q_dec prog_9_method_65_code)) = true := by decide +kernel
def rm_J_max : Room := { frames := 0, cells := 0, slots := 0, locals := 0 }
def kV_J_max (cI : ClassId) (tv : Nat) : List (Nat × (Nat × Nat × Nat × q_T)) := []
def kI_J_max (cI : ClassId) (tv : Nat) : List (Nat × (Nat × Nat × Nat × q_T)) := []
def kS_J_max (cI : ClassId) (tv : Nat) : List (Nat × (Nat × Nat × Nat × q_T)) := []
def F_J_max (cI : ClassId) (tv : Nat) : q_K → q_G → q_G := q_F c_J_max (q_as fl_J) (q_as []) (q_as lc_J) (q_cal (kV_J_max cI tv) (kI_J_max cI tv) (kS_J_max cI tv)) (q_as nw_J) cI (q_tb tv) 2 0 0 (some FieldType.int)
def T_J_max (cI : ClassId) (tv : Nat) : q_T := fun as w K => (lg_sl as).length ≤ 2 ∧ q_wp (F_J_max cI tv) as w K
theorem M_J_max (l : Launch) (D : va_G) (cI : ClassId) (tv : Nat) : q_Met l y_J_max (Cond.code y_J_max prog_9_method_65_code 2 (some FieldType.int) :: aW) rm_J_max D cls5 [(cI, .int)] (qSt tv) (T_J_max cI tv) := q_contract (cc := prog_9_method_65_code) (nL := 2) (own := "java/lang/Math") (ini := false) (by decide +kernel) rfl rfl (nofun) ⟨ct_J_max, fl_J_ok, (fun n v h => by cases h), lc_J_ok, q_tb_ok tv, q_cal_ok (q_nil) (q_nil) (q_nil), nw_J_ok, Or.inl (by decide +kernel)⟩
def c_R_valueOfTried : q_C := [(18, [(0, .aload_n 0), (1, .getfield 31), (4, .getfield 103), (7, .iload_n 1), (8, .iaload), (9, .istore_n 2), (10, .iconst 0), (11, .istore_n 3), (12, .iconst 0), (13, .istore 4), (15, .iconst 0), (16, .istore 5)]), (43, [(18, .iload 5), (20, .iload_n 2), (21, .if_icmp .ge 107), (24, .aload_n 0), (25, .getfield 69), (28, .iload 5), (30, .iaload), (31, .invokestatic 165), (34, .invokestatic 114), (37, .istore 6), (39, .iload 4), (41, .iload 6)]), (65, [(43, .iadd), (44, .istore 4), (46, .iload_n 3), (47, .iload 6), (49, .iconst 2), (50, .if_icmp .ne 13), (53, .aload_n 0), (54, .getfield 38), (57, .getfield 168), (60, .goto 4), (63, .iconst 0), (64, .iadd)]), (87, [(65, .istore_n 3), (66, .iconst 0), (67, .istore 7), (69, .iload 7), (71, .iload 5), (73, .if_icmp .ge 49), (76, .aload_n 0), (77, .getfield 69), (80, .iload 5), (82, .iaload), (83, .aload_n 0), (84, .getfield 69)]), (109, [(87, .iload 7), (89, .iaload), (90, .isub), (91, .invokestatic 114), (94, .istore 8), (96, .iload_n 3), (97, .aload_n 0), (98, .getfield 38), (101, .getfield 171), (104, .iconst 0), (105, .iload 8), (107, .bipush 6)]), (132, [(109, .isub), (110, .invokestatic 174), (113, .imul), (114, .iadd), (115, .istore_n 3), (116, .iinc 7 1), (119, .goto (-50)), (122, .iinc 5 1), (125, .goto (-107)), (128, .bipush 64), (130, .iload_n 3), (131, .imul)]), (139, [(132, .iload 4), (134, .iadd), (135, .ireturn)])]
theorem ct_R_valueOfTried : c_R_valueOfTried.all (fun x => x.2.all (q_dec prog_3_method_12_code)) = true := by decide +kernel
def rm_R_valueOfTried : Room := { frames := 2, cells := 0, slots := 0, locals := 42 }
def kV_R_valueOfTried (cI : ClassId) (tv : Nat) : List (Nat × (Nat × Nat × Nat × q_T)) := []
def kI_R_valueOfTried (cI : ClassId) (tv : Nat) : List (Nat × (Nat × Nat × Nat × q_T)) := []
def kS_R_valueOfTried (cI : ClassId) (tv : Nat) : List (Nat × (Nat × Nat × Nat × q_T)) := [(165, 1, 0, 0, T_X_signsOf cI tv), (114, 1, 0, 0, T_J_abs cI tv), (174, 2, 0, 0, T_J_max cI tv)]
def F_R_valueOfTried (cI : ClassId) (tv : Nat) : q_K → q_G → q_G := q_F c_R_valueOfTried (q_as fl_R) (q_as [(100, .ref tv)]) (q_as lc_R) (q_cal (kV_R_valueOfTried cI tv) (kI_R_valueOfTried cI tv) (kS_R_valueOfTried cI tv)) (q_as nw_R) cI (q_tb tv) 9 0 0 (some FieldType.int)
def T_R_valueOfTried (cI : ClassId) (tv : Nat) : q_T := fun as w K => (lg_sl as).length ≤ 9 ∧ q_wp (F_R_valueOfTried cI tv) as w K
theorem M_R_valueOfTried (l : Launch) (D : va_G) (cI : ClassId) (tv : Nat) : q_Met l y_R_valueOfTried (Cond.code y_R_valueOfTried prog_3_method_12_code 9 (some FieldType.int) :: aW) rm_R_valueOfTried D cls5 [(cI, .int)] (qSt tv) (T_R_valueOfTried cI tv) := q_contract (cc := prog_3_method_12_code) (nL := 9) (own := "SpellPitch$Search") (ini := false) (by decide +kernel) rfl rfl (nofun) ⟨ct_R_valueOfTried, fl_R_ok, (fun n v h => ⟨"SpellPitch$Search", "PICKS", "[I", fun A U H hs => by cases (List.mem_singleton.mp (q_as_in h)); exact hs.1, by cases (List.mem_singleton.mp (q_as_in h)); exact aW_in kw_271⟩), lc_R_ok, q_tb_ok tv, q_cal_ok (q_nil) (q_nil) (q_cons (q_callSN (k := 1) (qStOK tv) (M_X_signsOf l D cI tv) (gW kw_210) rfl (qSt_6 (tv := tv)) (aW_in kw_1) (aW_in kw_209) (by decide +kernel) ⟨by decide, by decide⟩) (q_cons (q_callS (k := 1) (qStOK tv) (M_J_abs l D cI tv) (gS kw_283 kw_281 kw_6 kw_282) rfl (by decide +kernel) ⟨by decide, by decide⟩) (q_cons (q_callS (k := 2) (qStOK tv) (M_J_max l D cI tv) (gS kw_309 kw_310 kw_6 kw_311) rfl (by decide +kernel) ⟨by decide, by decide⟩) (q_nil)))), nw_R_ok, Or.inl (by decide +kernel)⟩
def c_S_allowsKey : q_C := [(21, [(0, .aload_n 0), (1, .getfield 27), (4, .iload_n 1), (5, .iaload), (6, .bipush 15), (8, .if_icmp .eq 13), (11, .aload_n 0), (12, .getfield 27), (15, .iload_n 1), (16, .iaload), (17, .iload_n 2), (18, .if_icmp .ne 7)]), (30, [(21, .iconst 1), (22, .goto 4), (25, .iconst 0), (26, .ireturn)])]
theorem ct_S_allowsKey : c_S_allowsKey.all (fun x => x.2.all (q_dec prog_2_method_8_code)) = true := by decide +kernel
def rm_S_allowsKey : Room := { frames := 0, cells := 0, slots := 0, locals := 0 }
def kV_S_allowsKey (cI : ClassId) (tv : Nat) : List (Nat × (Nat × Nat × Nat × q_T)) := []
def kI_S_allowsKey (cI : ClassId) (tv : Nat) : List (Nat × (Nat × Nat × Nat × q_T)) := []
def kS_S_allowsKey (cI : ClassId) (tv : Nat) : List (Nat × (Nat × Nat × Nat × q_T)) := []
def F_S_allowsKey (cI : ClassId) (tv : Nat) : q_K → q_G → q_G := q_F c_S_allowsKey (q_as fl_S) (q_as []) (q_as lc_S) (q_cal (kV_S_allowsKey cI tv) (kI_S_allowsKey cI tv) (kS_S_allowsKey cI tv)) (q_as nw_S) cI (q_tb tv) 3 0 0 (some FieldType.boolean)
def T_S_allowsKey (cI : ClassId) (tv : Nat) : q_T := fun as w K => (lg_sl as).length ≤ 3 ∧ q_wp (F_S_allowsKey cI tv) as w K
theorem M_S_allowsKey (l : Launch) (D : va_G) (cI : ClassId) (tv : Nat) : q_Met l y_S_allowsKey (Cond.code y_S_allowsKey prog_2_method_8_code 3 (some FieldType.boolean) :: aW) rm_S_allowsKey D cls5 [(cI, .int)] (qSt tv) (T_S_allowsKey cI tv) := q_contract (cc := prog_2_method_8_code) (nL := 3) (own := "SpellPitch$Score") (ini := false) (by decide +kernel) rfl rfl (nofun) ⟨ct_S_allowsKey, fl_S_ok, (fun n v h => by cases h), lc_S_ok, q_tb_ok tv, q_cal_ok (q_nil) (q_nil) (q_nil), nw_S_ok, Or.inl (by decide +kernel)⟩
def c_R_valueOutside : q_C := [(16, [(0, .iload_n 2), (1, .bipush 7), (3, .iadd), (4, .istore_n 3), (5, .iload_n 3), (6, .bipush 7), (8, .iadd), (9, .iconst 1), (10, .isub), (11, .istore 4), (13, .iconst 0), (14, .istore 5)]), (37, [(16, .iconst 0), (17, .istore 6), (19, .iload 6), (21, .aload_n 0), (22, .getfield 31), (25, .getfield 103), (28, .iload_n 1), (29, .iaload), (30, .if_icmp .ge 40), (33, .iload 5), (35, .iconst 0), (36, .iload_n 3)]), (58, [(37, .aload_n 0), (38, .getfield 69), (41, .iload 6), (43, .iaload), (44, .isub), (45, .aload_n 0), (46, .getfield 69), (49, .iload 6), (51, .iaload), (52, .iload 4), (54, .isub), (55, .invokestatic 174)]), (83, [(58, .invokestatic 174), (61, .iadd), (62, .istore 5), (64, .iinc 6 1), (67, .goto (-48)), (70, .bipush 64), (72, .aload_n 0), (73, .getfield 38), (76, .getfield 177), (79, .imul), (80, .iload 5), (82, .imul)]), (87, [(83, .ireturn)])]
theorem ct_R_valueOutside : c_R_valueOutside.all (fun x => x.2.all (q_dec prog_3_method_13_code)) = true := by decide +kernel
def rm_R_valueOutside : Room := { frames := 1, cells := 0, slots := 0, locals := 21 }
def kV_R_valueOutside (cI : ClassId) (tv : Nat) : List (Nat × (Nat × Nat × Nat × q_T)) := []
def kI_R_valueOutside (cI : ClassId) (tv : Nat) : List (Nat × (Nat × Nat × Nat × q_T)) := []
def kS_R_valueOutside (cI : ClassId) (tv : Nat) : List (Nat × (Nat × Nat × Nat × q_T)) := [(174, 2, 0, 0, T_J_max cI tv)]
def F_R_valueOutside (cI : ClassId) (tv : Nat) : q_K → q_G → q_G := q_F c_R_valueOutside (q_as fl_R) (q_as [(100, .ref tv)]) (q_as lc_R) (q_cal (kV_R_valueOutside cI tv) (kI_R_valueOutside cI tv) (kS_R_valueOutside cI tv)) (q_as nw_R) cI (q_tb tv) 7 0 0 (some FieldType.int)
def T_R_valueOutside (cI : ClassId) (tv : Nat) : q_T := fun as w K => (lg_sl as).length ≤ 7 ∧ q_wp (F_R_valueOutside cI tv) as w K
theorem M_R_valueOutside (l : Launch) (D : va_G) (cI : ClassId) (tv : Nat) : q_Met l y_R_valueOutside (Cond.code y_R_valueOutside prog_3_method_13_code 7 (some FieldType.int) :: aW) rm_R_valueOutside D cls5 [(cI, .int)] (qSt tv) (T_R_valueOutside cI tv) := q_contract (cc := prog_3_method_13_code) (nL := 7) (own := "SpellPitch$Search") (ini := false) (by decide +kernel) rfl rfl (nofun) ⟨ct_R_valueOutside, fl_R_ok, (fun n v h => ⟨"SpellPitch$Search", "PICKS", "[I", fun A U H hs => by cases (List.mem_singleton.mp (q_as_in h)); exact hs.1, by cases (List.mem_singleton.mp (q_as_in h)); exact aW_in kw_271⟩), lc_R_ok, q_tb_ok tv, q_cal_ok (q_nil) (q_nil) (q_cons (q_callS (k := 2) (qStOK tv) (M_J_max l D cI tv) (gS kw_309 kw_310 kw_6 kw_311) rfl (by decide +kernel) ⟨by decide, by decide⟩) (q_nil)), nw_R_ok, Or.inl (by decide +kernel)⟩
def c_R_weigh : q_C := [(16, [(0, .aload_n 0), (1, .iload_n 1), (2, .invokevirtual 106), (5, .istore_n 2), (6, .iconst 0), (7, .istore_n 3), (8, .iload_n 3), (9, .iload_n 2), (10, .if_icmp .ge 170), (13, .aload_n 0), (14, .iload_n 1), (15, .iload_n 3)]), (40, [(16, .invokevirtual 142), (19, .istore 4), (21, .iload 4), (23, .ifCond .eq 11), (26, .aload_n 0), (27, .iload_n 1), (28, .invokevirtual 145), (31, .goto 5), (34, .ldc 148), (36, .istore 5), (38, .iload_n 3), (39, .aload_n 0)]), (63, [(40, .getfield 72), (43, .imul), (44, .iload_n 2), (45, .idiv), (46, .istore 6), (48, .iconst 0), (49, .istore 7), (51, .iload 7), (53, .bipush 15), (55, .if_icmp .ge 119), (58, .iload 4), (60, .ifCond .eq 20)]), (86, [(63, .aload_n 0), (64, .getfield 31), (67, .iload_n 1), (68, .iload 7), (70, .invokevirtual 149), (73, .ifCond .eq 7), (76, .iconst 1), (77, .goto 4), (80, .iconst 0), (81, .istore 8), (83, .iload 7), (85, .iload_n 2)]), (104, [(86, .imul), (87, .iload_n 3), (88, .iadd), (89, .istore 9), (91, .iload 7), (93, .aload_n 0), (94, .getfield 72), (97, .imul), (98, .iload 6), (100, .iadd), (101, .istore 10), (103, .aload_n 0)]), (125, [(104, .getfield 42), (107, .aload_n 0), (108, .getfield 45), (111, .iload_n 1), (112, .iaload), (113, .iload 9), (115, .iadd), (116, .iload 8), (118, .ifCond .eq 24), (121, .iload 5), (123, .aload_n 0), (124, .iload_n 1)]), (146, [(125, .iload 7), (127, .invokevirtual 152), (130, .iadd), (131, .aload_n 0), (132, .getfield 51), (135, .iload 10), (137, .iaload), (138, .iadd), (139, .goto 5), (142, .ldc 148), (144, .iastore), (145, .aload_n 0)]), (171, [(146, .getfield 48), (149, .iload 9), (151, .iload 8), (153, .ifCond .eq 13), (156, .aload_n 0), (157, .getfield 54), (160, .iload 10), (162, .iaload), (163, .goto 4), (166, .iconst 0), (167, .iastore), (168, .iinc 7 1)]), (184, [(171, .goto (-120)), (174, .iinc 3 1), (177, .goto (-169)), (180, .return_)])]
theorem ct_R_weigh : c_R_weigh.all (fun x => x.2.all (q_dec prog_3_method_9_code)) = true := by decide +kernel
def rm_R_weigh : Room := { frames := 3, cells := 0, slots := 0, locals := 70 }
def kV_R_weigh (cI : ClassId) (tv : Nat) : List (Nat × (Nat × Nat × Nat × q_T)) := [(106, 2, 0, 0, q_V 1 (T_R_picksAt cI tv)), (142, 3, 0, 0, q_V 1 (T_R_tryNames cI tv)), (145, 2, 0, 0, q_V 1 (T_R_valueOfTried cI tv)), (149, 3, 0, 0, q_V 0 (T_S_allowsKey cI tv)), (152, 3, 0, 0, q_V 1 (T_R_valueOutside cI tv))]
def kI_R_weigh (cI : ClassId) (tv : Nat) : List (Nat × (Nat × Nat × Nat × q_T)) := []
def kS_R_weigh (cI : ClassId) (tv : Nat) : List (Nat × (Nat × Nat × Nat × q_T)) := []
def F_R_weigh (cI : ClassId) (tv : Nat) : q_K → q_G → q_G := q_F c_R_weigh (q_as fl_R) (q_as [(100, .ref tv)]) (q_as lc_R) (q_cal (kV_R_weigh cI tv) (kI_R_weigh cI tv) (kS_R_weigh cI tv)) (q_as nw_R) cI (q_tb tv) 11 0 0 (none)
def T_R_weigh (cI : ClassId) (tv : Nat) : q_T := fun as w K => (lg_sl as).length ≤ 11 ∧ q_wp (F_R_weigh cI tv) as w K
theorem M_R_weigh (l : Launch) (D : va_G) (cI : ClassId) (tv : Nat) : q_Met l y_R_weigh (Cond.code y_R_weigh prog_3_method_9_code 11 (none) :: aW) rm_R_weigh D cls5 [(cI, .int)] (qSt tv) (T_R_weigh cI tv) := q_contract (cc := prog_3_method_9_code) (nL := 11) (own := "SpellPitch$Search") (ini := false) (by decide +kernel) rfl rfl (nofun) ⟨ct_R_weigh, fl_R_ok, (fun n v h => ⟨"SpellPitch$Search", "PICKS", "[I", fun A U H hs => by cases (List.mem_singleton.mp (q_as_in h)); exact hs.1, by cases (List.mem_singleton.mp (q_as_in h)); exact aW_in kw_271⟩), lc_R_ok, q_tb_ok tv, q_cal_ok (q_cons (q_callV (k := 1) (T' := tt_R) (qStOK tv) (M_R_picksAt l D cI tv) (gV kw_267 kw_269 ks_3 kw_2 kw_270) rfl (by decide +kernel) ⟨by decide, by decide⟩ rfl) (q_cons (q_callV (k := 2) (T' := tt_R) (qStOK tv) (M_R_tryNames l D cI tv) (gV kw_292 kw_294 ks_7 kw_2 kw_295) rfl (by decide +kernel) ⟨by decide, by decide⟩ rfl) (q_cons (q_callV (k := 1) (T' := tt_R) (qStOK tv) (M_R_valueOfTried l D cI tv) (gV kw_304 kw_306 ks_8 kw_2 kw_307) rfl (by decide +kernel) ⟨by decide, by decide⟩ rfl) (q_cons (q_callV (k := 2) (T' := tt_S) (qStOK tv) (M_S_allowsKey l D cI tv) (gV kw_313 kw_314 kw_315 kw_3 kw_316) rfl (by decide +kernel) ⟨by decide, by decide⟩ rfl) (q_cons (q_callV (k := 2) (T' := tt_R) (qStOK tv) (M_R_valueOutside l D cI tv) (gV kw_317 kw_319 ks_9 kw_2 kw_320) rfl (by decide +kernel) ⟨by decide, by decide⟩ rfl) (q_nil)))))) (q_nil) (q_nil), nw_R_ok, Or.inl (by decide +kernel)⟩
def c_J_min : q_C := [(14, [(0, .iload_n 0), (1, .iload_n 1), (2, .if_icmp .gt 7), (5, .iload_n 0), (6, .goto 4), (9, .iload_n 1), (10, .ireturn)])]
theorem ct_J_min : c_J_min.all (fun x => x.2.all (q_dec prog_9_method_69_code)) = true := by decide +kernel
def rm_J_min : Room := { frames := 0, cells := 0, slots := 0, locals := 0 }
def kV_J_min (cI : ClassId) (tv : Nat) : List (Nat × (Nat × Nat × Nat × q_T)) := []
def kI_J_min (cI : ClassId) (tv : Nat) : List (Nat × (Nat × Nat × Nat × q_T)) := []
def kS_J_min (cI : ClassId) (tv : Nat) : List (Nat × (Nat × Nat × Nat × q_T)) := []
def F_J_min (cI : ClassId) (tv : Nat) : q_K → q_G → q_G := q_F c_J_min (q_as fl_J) (q_as []) (q_as lc_J) (q_cal (kV_J_min cI tv) (kI_J_min cI tv) (kS_J_min cI tv)) (q_as nw_J) cI (q_tb tv) 2 0 0 (some FieldType.int)
def T_J_min (cI : ClassId) (tv : Nat) : q_T := fun as w K => (lg_sl as).length ≤ 2 ∧ q_wp (F_J_min cI tv) as w K
theorem M_J_min (l : Launch) (D : va_G) (cI : ClassId) (tv : Nat) : q_Met l y_J_min (Cond.code y_J_min prog_9_method_69_code 2 (some FieldType.int) :: aW) rm_J_min D cls5 [(cI, .int)] (qSt tv) (T_J_min cI tv) := q_contract (cc := prog_9_method_69_code) (nL := 2) (own := "java/lang/Math") (ini := false) (by decide +kernel) rfl rfl (nofun) ⟨ct_J_min, fl_J_ok, (fun n v h => by cases h), lc_J_ok, q_tb_ok tv, q_cal_ok (q_nil) (q_nil) (q_nil), nw_J_ok, Or.inl (by decide +kernel)⟩
def c_R_foldOne : q_C := [(22, [(0, .ldc 148), (2, .istore 5), (4, .iconst 0), (5, .istore 6), (7, .iconst 0), (8, .istore 7), (10, .iload 7), (12, .iload_n 2), (13, .if_icmp .ge 102), (16, .aload_n 0), (17, .getfield 57), (20, .iload 7)]), (42, [(22, .iaload), (23, .ldc 148), (25, .if_icmp .ge 84), (28, .aload_n 0), (29, .getfield 57), (32, .iload 7), (34, .iaload), (35, .aload_n 3), (36, .iload 4), (38, .iload 7), (40, .iadd), (41, .iaload)]), (64, [(42, .iadd), (43, .istore 8), (45, .iload 8), (47, .bipush 64), (49, .idiv), (50, .iload 5), (52, .bipush 64), (54, .idiv), (55, .if_icmp .ge 15), (58, .aload_n 0), (59, .getfield 60), (62, .iload 7)]), (87, [(64, .iaload), (65, .istore 6), (67, .goto 33), (70, .iload 8), (72, .bipush 64), (74, .idiv), (75, .iload 5), (77, .bipush 64), (79, .idiv), (80, .if_icmp .ne 20), (83, .ldc 197), (85, .iload 6)]), (112, [(87, .aload_n 0), (88, .getfield 60), (91, .iload 7), (93, .iaload), (94, .iadd), (95, .invokestatic 125), (98, .istore 6), (100, .iload 5), (102, .iload 8), (104, .invokestatic 125), (107, .istore 5), (109, .iinc 7 1)]), (135, [(112, .goto (-102)), (115, .aload_n 0), (116, .getfield 51), (119, .iload_n 1), (120, .iload 5), (122, .iastore), (123, .aload_n 0), (124, .getfield 54), (127, .iload_n 1), (128, .iload 6), (130, .iastore), (131, .return_)])]
theorem ct_R_foldOne : c_R_foldOne.all (fun x => x.2.all (q_dec prog_3_method_16_code)) = true := by decide +kernel
def rm_R_foldOne : Room := { frames := 1, cells := 0, slots := 0, locals := 21 }
def kV_R_foldOne (cI : ClassId) (tv : Nat) : List (Nat × (Nat × Nat × Nat × q_T)) := []
def kI_R_foldOne (cI : ClassId) (tv : Nat) : List (Nat × (Nat × Nat × Nat × q_T)) := []
def kS_R_foldOne (cI : ClassId) (tv : Nat) : List (Nat × (Nat × Nat × Nat × q_T)) := [(125, 2, 0, 0, T_J_min cI tv)]
def F_R_foldOne (cI : ClassId) (tv : Nat) : q_K → q_G → q_G := q_F c_R_foldOne (q_as fl_R) (q_as [(100, .ref tv)]) (q_as lc_R) (q_cal (kV_R_foldOne cI tv) (kI_R_foldOne cI tv) (kS_R_foldOne cI tv)) (q_as nw_R) cI (q_tb tv) 9 0 0 (none)
def T_R_foldOne (cI : ClassId) (tv : Nat) : q_T := fun as w K => (lg_sl as).length ≤ 9 ∧ q_wp (F_R_foldOne cI tv) as w K
theorem M_R_foldOne (l : Launch) (D : va_G) (cI : ClassId) (tv : Nat) : q_Met l y_R_foldOne (Cond.code y_R_foldOne prog_3_method_16_code 9 (none) :: aW) rm_R_foldOne D cls5 [(cI, .int)] (qSt tv) (T_R_foldOne cI tv) := q_contract (cc := prog_3_method_16_code) (nL := 9) (own := "SpellPitch$Search") (ini := false) (by decide +kernel) rfl rfl (nofun) ⟨ct_R_foldOne, fl_R_ok, (fun n v h => ⟨"SpellPitch$Search", "PICKS", "[I", fun A U H hs => by cases (List.mem_singleton.mp (q_as_in h)); exact hs.1, by cases (List.mem_singleton.mp (q_as_in h)); exact aW_in kw_271⟩), lc_R_ok, q_tb_ok tv, q_cal_ok (q_nil) (q_nil) (q_cons (q_callS (k := 2) (qStOK tv) (M_J_min l D cI tv) (gS kw_337 kw_338 kw_6 kw_339) rfl (by decide +kernel) ⟨by decide, by decide⟩) (q_nil)), nw_R_ok, Or.inl (by decide +kernel)⟩
def c_R_foldLines : q_C := [(21, [(0, .iconst 0), (1, .istore 6), (3, .iload 6), (5, .iload_n 1), (6, .if_icmp .ge 124), (9, .iconst 0), (10, .istore 7), (12, .iload 7), (14, .iload_n 2), (15, .if_icmp .ge 109), (18, .iload 6), (20, .iload_n 2)]), (39, [(21, .imul), (22, .iload_n 3), (23, .imul), (24, .iload 7), (26, .iadd), (27, .istore 8), (29, .iconst 0), (30, .istore 9), (32, .iload 9), (34, .iload_n 3), (35, .if_icmp .ge 47), (38, .aload_n 0)]), (58, [(39, .getfield 57), (42, .iload 9), (44, .aload_n 0), (45, .getfield 51), (48, .iload 8), (50, .iload 9), (52, .iload_n 2), (53, .imul), (54, .iadd), (55, .iaload), (56, .iastore), (57, .aload_n 0)]), (79, [(58, .getfield 60), (61, .iload 9), (63, .aload_n 0), (64, .getfield 54), (67, .iload 8), (69, .iload 9), (71, .iload_n 2), (72, .imul), (73, .iadd), (74, .iaload), (75, .iastore), (76, .iinc 9 1)]), (99, [(79, .goto (-47)), (82, .iconst 0), (83, .istore 9), (85, .iload 9), (87, .iload_n 3), (88, .if_icmp .ge 30), (91, .aload_n 0), (92, .iload 8), (94, .iload 9), (96, .iload_n 2), (97, .imul), (98, .iadd)]), (124, [(99, .iload_n 3), (100, .aload 4), (102, .iload 5), (104, .iload 9), (106, .iload_n 3), (107, .imul), (108, .iadd), (109, .invokevirtual 193), (112, .iinc 9 1), (115, .goto (-30)), (118, .iinc 7 1), (121, .goto (-109))]), (134, [(124, .iinc 6 1), (127, .goto (-124)), (130, .return_)])]
theorem ct_R_foldLines : c_R_foldLines.all (fun x => x.2.all (q_dec prog_3_method_15_code)) = true := by decide +kernel
def rm_R_foldLines : Room := { frames := 2, cells := 0, slots := 0, locals := 49 }
def kV_R_foldLines (cI : ClassId) (tv : Nat) : List (Nat × (Nat × Nat × Nat × q_T)) := [(193, 5, 0, 0, q_V 1 (T_R_foldOne cI tv))]
def kI_R_foldLines (cI : ClassId) (tv : Nat) : List (Nat × (Nat × Nat × Nat × q_T)) := []
def kS_R_foldLines (cI : ClassId) (tv : Nat) : List (Nat × (Nat × Nat × Nat × q_T)) := []
def F_R_foldLines (cI : ClassId) (tv : Nat) : q_K → q_G → q_G := q_F c_R_foldLines (q_as fl_R) (q_as [(100, .ref tv)]) (q_as lc_R) (q_cal (kV_R_foldLines cI tv) (kI_R_foldLines cI tv) (kS_R_foldLines cI tv)) (q_as nw_R) cI (q_tb tv) 10 0 0 (none)
def T_R_foldLines (cI : ClassId) (tv : Nat) : q_T := fun as w K => (lg_sl as).length ≤ 10 ∧ q_wp (F_R_foldLines cI tv) as w K
theorem M_R_foldLines (l : Launch) (D : va_G) (cI : ClassId) (tv : Nat) : q_Met l y_R_foldLines (Cond.code y_R_foldLines prog_3_method_15_code 10 (none) :: aW) rm_R_foldLines D cls5 [(cI, .int)] (qSt tv) (T_R_foldLines cI tv) := q_contract (cc := prog_3_method_15_code) (nL := 10) (own := "SpellPitch$Search") (ini := false) (by decide +kernel) rfl rfl (nofun) ⟨ct_R_foldLines, fl_R_ok, (fun n v h => ⟨"SpellPitch$Search", "PICKS", "[I", fun A U H hs => by cases (List.mem_singleton.mp (q_as_in h)); exact hs.1, by cases (List.mem_singleton.mp (q_as_in h)); exact aW_in kw_271⟩), lc_R_ok, q_tb_ok tv, q_cal_ok (q_cons (q_callV (k := 4) (T' := tt_R) (qStOK tv) (M_R_foldOne l D cI tv) (gV kw_332 kw_334 ks_12 kw_2 kw_335) rfl (by decide +kernel) ⟨by decide, by decide⟩ rfl) (q_nil)) (q_nil) (q_nil), nw_R_ok, Or.inl (by decide +kernel)⟩
def c_R_isBadStep : q_C := [(21, [(0, .aload_n 0), (1, .getfield 31), (4, .getfield 136), (7, .iload_n 3), (8, .iaload), (9, .aload_n 0), (10, .getfield 31), (13, .getfield 136), (16, .iload_n 1), (17, .iaload), (18, .isub), (19, .istore 5)]), (45, [(21, .iload 5), (23, .ifCond .ne 15), (26, .iload_n 2), (27, .iload 4), (29, .if_icmp .eq 7), (32, .iconst 1), (33, .goto 4), (36, .iconst 0), (37, .ireturn), (38, .iload 5), (40, .bipush (-2)), (42, .if_icmp .lt 9)]), (64, [(45, .iload 5), (47, .iconst 2), (48, .if_icmp .le 5), (51, .iconst 0), (52, .ireturn), (53, .aload_n 0), (54, .getfield 31), (57, .getfield 139), (60, .iload_n 1), (61, .iconst 3), (62, .imul), (63, .iload_n 2)]), (82, [(64, .iadd), (65, .iaload), (66, .istore 6), (68, .aload_n 0), (69, .getfield 31), (72, .getfield 139), (75, .iload_n 3), (76, .iconst 3), (77, .imul), (78, .iload 4), (80, .iadd), (81, .iaload)]), (106, [(82, .istore 7), (84, .iload 7), (86, .iload 6), (88, .isub), (89, .iload 5), (91, .ifCond .le 7), (94, .iconst 1), (95, .goto 4), (98, .iconst (-1)), (99, .if_icmp .eq 7), (102, .iconst 1), (103, .goto 4)]), (111, [(106, .iconst 0), (107, .ireturn)])]
theorem ct_R_isBadStep : c_R_isBadStep.all (fun x => x.2.all (q_dec prog_3_method_7_code)) = true := by decide +kernel
def rm_R_isBadStep : Room := { frames := 0, cells := 0, slots := 0, locals := 0 }
def kV_R_isBadStep (cI : ClassId) (tv : Nat) : List (Nat × (Nat × Nat × Nat × q_T)) := []
def kI_R_isBadStep (cI : ClassId) (tv : Nat) : List (Nat × (Nat × Nat × Nat × q_T)) := []
def kS_R_isBadStep (cI : ClassId) (tv : Nat) : List (Nat × (Nat × Nat × Nat × q_T)) := []
def F_R_isBadStep (cI : ClassId) (tv : Nat) : q_K → q_G → q_G := q_F c_R_isBadStep (q_as fl_R) (q_as [(100, .ref tv)]) (q_as lc_R) (q_cal (kV_R_isBadStep cI tv) (kI_R_isBadStep cI tv) (kS_R_isBadStep cI tv)) (q_as nw_R) cI (q_tb tv) 8 0 0 (some FieldType.boolean)
def T_R_isBadStep (cI : ClassId) (tv : Nat) : q_T := fun as w K => (lg_sl as).length ≤ 8 ∧ q_wp (F_R_isBadStep cI tv) as w K
theorem M_R_isBadStep (l : Launch) (D : va_G) (cI : ClassId) (tv : Nat) : q_Met l y_R_isBadStep (Cond.code y_R_isBadStep prog_3_method_7_code 8 (some FieldType.boolean) :: aW) rm_R_isBadStep D cls5 [(cI, .int)] (qSt tv) (T_R_isBadStep cI tv) := q_contract (cc := prog_3_method_7_code) (nL := 8) (own := "SpellPitch$Search") (ini := false) (by decide +kernel) rfl rfl (nofun) ⟨ct_R_isBadStep, fl_R_ok, (fun n v h => ⟨"SpellPitch$Search", "PICKS", "[I", fun A U H hs => by cases (List.mem_singleton.mp (q_as_in h)); exact hs.1, by cases (List.mem_singleton.mp (q_as_in h)); exact aW_in kw_271⟩), lc_R_ok, q_tb_ok tv, q_cal_ok (q_nil) (q_nil) (q_nil), nw_R_ok, Or.inl (by decide +kernel)⟩
def c_R_linkSteps : q_C := [(20, [(0, .aload_n 0), (1, .getfield 31), (4, .getfield 122), (7, .iload_n 1), (8, .iaload), (9, .istore_n 2), (10, .aload_n 0), (11, .getfield 31), (14, .getfield 122), (17, .iload_n 1), (18, .iconst 1), (19, .iadd)]), (40, [(20, .iaload), (21, .istore_n 3), (22, .aload_n 0), (23, .getfield 31), (26, .getfield 103), (29, .iload_n 1), (30, .iaload), (31, .aload_n 0), (32, .getfield 31), (35, .getfield 103), (38, .iload_n 1), (39, .iconst 1)]), (61, [(40, .iadd), (41, .iaload), (42, .invokestatic 125), (45, .istore 4), (47, .iconst 0), (48, .istore 5), (50, .iload 5), (52, .iconst 3), (53, .if_icmp .ge 95), (56, .iconst 0), (57, .istore 6), (59, .iload 6)]), (82, [(61, .bipush 9), (63, .if_icmp .ge 79), (66, .iload 5), (68, .iload 4), (70, .if_icmp .ge 30), (73, .aload_n 0), (74, .iload_n 2), (75, .iload 5), (77, .iadd), (78, .iload 6), (80, .iconst 3), (81, .idiv)]), (103, [(82, .iload_n 3), (83, .iload 5), (85, .iadd), (86, .iload 6), (88, .iconst 3), (89, .irem), (90, .invokevirtual 129), (93, .ifCond .eq 7), (96, .iconst 1), (97, .goto 4), (100, .iconst 0), (101, .istore 7)]), (123, [(103, .aload_n 0), (104, .getfield 66), (107, .iload 5), (109, .iconst 3), (110, .imul), (111, .iconst 3), (112, .imul), (113, .iload 6), (115, .iadd), (116, .iload 7), (118, .ifCond .eq 16), (121, .bipush 64)]), (152, [(123, .aload_n 0), (124, .getfield 38), (127, .getfield 133), (130, .imul), (131, .goto 4), (134, .iconst 0), (135, .iastore), (136, .iinc 6 1), (139, .goto (-80)), (142, .iinc 5 1), (145, .goto (-95)), (148, .return_)])]
theorem ct_R_linkSteps : c_R_linkSteps.all (fun x => x.2.all (q_dec prog_3_method_6_code)) = true := by decide +kernel
def rm_R_linkSteps : Room := { frames := 1, cells := 0, slots := 0, locals := 27 }
def kV_R_linkSteps (cI : ClassId) (tv : Nat) : List (Nat × (Nat × Nat × Nat × q_T)) := [(129, 5, 0, 0, q_V 1 (T_R_isBadStep cI tv))]
def kI_R_linkSteps (cI : ClassId) (tv : Nat) : List (Nat × (Nat × Nat × Nat × q_T)) := []
def kS_R_linkSteps (cI : ClassId) (tv : Nat) : List (Nat × (Nat × Nat × Nat × q_T)) := [(125, 2, 0, 0, T_J_min cI tv)]
def F_R_linkSteps (cI : ClassId) (tv : Nat) : q_K → q_G → q_G := q_F c_R_linkSteps (q_as fl_R) (q_as [(100, .ref tv)]) (q_as lc_R) (q_cal (kV_R_linkSteps cI tv) (kI_R_linkSteps cI tv) (kS_R_linkSteps cI tv)) (q_as nw_R) cI (q_tb tv) 8 0 0 (none)
def T_R_linkSteps (cI : ClassId) (tv : Nat) : q_T := fun as w K => (lg_sl as).length ≤ 8 ∧ q_wp (F_R_linkSteps cI tv) as w K
theorem M_R_linkSteps (l : Launch) (D : va_G) (cI : ClassId) (tv : Nat) : q_Met l y_R_linkSteps (Cond.code y_R_linkSteps prog_3_method_6_code 8 (none) :: aW) rm_R_linkSteps D cls5 [(cI, .int)] (qSt tv) (T_R_linkSteps cI tv) := q_contract (cc := prog_3_method_6_code) (nL := 8) (own := "SpellPitch$Search") (ini := false) (by decide +kernel) rfl rfl (nofun) ⟨ct_R_linkSteps, fl_R_ok, (fun n v h => ⟨"SpellPitch$Search", "PICKS", "[I", fun A U H hs => by cases (List.mem_singleton.mp (q_as_in h)); exact hs.1, by cases (List.mem_singleton.mp (q_as_in h)); exact aW_in kw_271⟩), lc_R_ok, q_tb_ok tv, q_cal_ok (q_cons (q_callV (k := 4) (T' := tt_R) (qStOK tv) (M_R_isBadStep l D cI tv) (gV kw_344 kw_346 ks_14 kw_2 kw_347) rfl (by decide +kernel) ⟨by decide, by decide⟩ rfl) (q_nil)) (q_nil) (q_cons (q_callS (k := 2) (qStOK tv) (M_J_min l D cI tv) (gS kw_337 kw_338 kw_6 kw_339) rfl (by decide +kernel) ⟨by decide, by decide⟩) (q_nil)), nw_R_ok, Or.inl (by decide +kernel)⟩
def c_R_lookAheadFrom : q_C := [(18, [(0, .aload_n 0), (1, .getfield 31), (4, .getfield 103), (7, .iload_n 1), (8, .iconst 1), (9, .iadd), (10, .iaload), (11, .istore_n 2), (12, .aload_n 0), (13, .getstatic 100), (16, .iload_n 2), (17, .iaload)]), (39, [(18, .putfield 72), (21, .bipush 15), (23, .aload_n 0), (24, .getfield 72), (27, .imul), (28, .istore_n 3), (29, .aload_n 0), (30, .getfield 42), (33, .aload_n 0), (34, .getfield 45), (37, .iload_n 1), (38, .iconst 1)]), (59, [(39, .iadd), (40, .iaload), (41, .aload_n 0), (42, .getfield 51), (45, .iconst 0), (46, .iload_n 3), (47, .invokestatic 180), (50, .aload_n 0), (51, .getfield 48), (54, .iconst 0), (55, .aload_n 0), (56, .getfield 54)]), (80, [(59, .iconst 0), (60, .iload_n 3), (61, .invokestatic 180), (64, .aload_n 0), (65, .iconst 1), (66, .aload_n 0), (67, .getfield 72), (70, .bipush 15), (72, .aload_n 0), (73, .getfield 63), (76, .iconst 0), (77, .invokevirtual 186)]), (102, [(80, .aload_n 0), (81, .iload_n 1), (82, .invokevirtual 190), (85, .iconst 0), (86, .istore 4), (88, .iload 4), (90, .iload_n 2), (91, .if_icmp .ge 47), (94, .bipush 15), (96, .getstatic 100), (99, .iload 4), (101, .iaload)]), (119, [(102, .imul), (103, .istore 5), (105, .aload_n 0), (106, .iload 5), (108, .getstatic 100), (111, .iload_n 2), (112, .iconst 1), (113, .isub), (114, .iload 4), (116, .isub), (117, .iaload), (118, .iconst 3)]), (142, [(119, .aload_n 0), (120, .getfield 66), (123, .iload 4), (125, .iconst 3), (126, .imul), (127, .iconst 3), (128, .imul), (129, .invokevirtual 186), (132, .iinc 4 1), (135, .goto (-47)), (138, .return_)])]
theorem ct_R_lookAheadFrom : c_R_lookAheadFrom.all (fun x => x.2.all (q_dec prog_3_method_14_code)) = true := by decide +kernel
def rm_R_lookAheadFrom : Room := { frames := 3, cells := 0, slots := 0, locals := 78 }
def kV_R_lookAheadFrom (cI : ClassId) (tv : Nat) : List (Nat × (Nat × Nat × Nat × q_T)) := [(186, 6, 0, 0, q_V 1 (T_R_foldLines cI tv)), (190, 2, 0, 0, q_V 1 (T_R_linkSteps cI tv))]
def kI_R_lookAheadFrom (cI : ClassId) (tv : Nat) : List (Nat × (Nat × Nat × Nat × q_T)) := []
def kS_R_lookAheadFrom (cI : ClassId) (tv : Nat) : List (Nat × (Nat × Nat × Nat × q_T)) := [(180, 5, 0, 0, q_copy cI)]
def F_R_lookAheadFrom (cI : ClassId) (tv : Nat) : q_K → q_G → q_G := q_F c_R_lookAheadFrom (q_as fl_R) (q_as [(100, .ref tv)]) (q_as lc_R) (q_cal (kV_R_lookAheadFrom cI tv) (kI_R_lookAheadFrom cI tv) (kS_R_lookAheadFrom cI tv)) (q_as nw_R) cI (q_tb tv) 6 0 0 (none)
def T_R_lookAheadFrom (cI : ClassId) (tv : Nat) : q_T := fun as w K => (lg_sl as).length ≤ 6 ∧ q_wp (F_R_lookAheadFrom cI tv) as w K
theorem M_R_lookAheadFrom (l : Launch) (D : va_G) (cI : ClassId) (tv : Nat) : q_Met l y_R_lookAheadFrom (Cond.code y_R_lookAheadFrom prog_3_method_14_code 6 (none) :: aW) rm_R_lookAheadFrom D cls5 [(cI, .int)] (qSt tv) (T_R_lookAheadFrom cI tv) := q_contract (cc := prog_3_method_14_code) (nL := 6) (own := "SpellPitch$Search") (ini := false) (by decide +kernel) rfl rfl (nofun) ⟨ct_R_lookAheadFrom, fl_R_ok, (fun n v h => ⟨"SpellPitch$Search", "PICKS", "[I", fun A U H hs => by cases (List.mem_singleton.mp (q_as_in h)); exact hs.1, by cases (List.mem_singleton.mp (q_as_in h)); exact aW_in kw_271⟩), lc_R_ok, q_tb_ok tv, q_cal_ok (q_cons (q_callV (k := 5) (T' := tt_R) (qStOK tv) (M_R_foldLines l D cI tv) (gV kw_328 kw_330 ks_11 kw_2 kw_331) rfl (by decide +kernel) ⟨by decide, by decide⟩ rfl) (q_cons (q_callV (k := 1) (T' := tt_R) (qStOK tv) (M_R_linkSteps l D cI tv) (gV kw_340 kw_342 ks_13 kw_2 kw_343) rfl (by decide +kernel) ⟨by decide, by decide⟩ rfl) (q_nil))) (q_nil) (q_cons (q_callC (aW_in kw_325) (aW_in kwN_arraycopy) (aW_in kw_326) (aW_in kw_7) ⟨by decide, by decide +kernel⟩) (q_nil)), nw_R_ok, Or.inl (by decide +kernel)⟩
def c_R_countChoices : q_C := [(16, [(0, .bipush 15), (2, .aload_n 0), (3, .iconst 0), (4, .invokevirtual 106), (7, .imul), (8, .istore_n 1), (9, .ldc 148), (11, .istore_n 2), (12, .iconst 0), (13, .istore_n 3), (14, .iload_n 3), (15, .iload_n 1)]), (38, [(16, .if_icmp .ge 20), (19, .iload_n 2), (20, .aload_n 0), (21, .getfield 42), (24, .iload_n 3), (25, .iaload), (26, .invokestatic 125), (29, .istore_n 2), (30, .iinc 3 1), (33, .goto (-19)), (36, .aload_n 0), (37, .iload_n 2)]), (58, [(38, .bipush 64), (40, .idiv), (41, .putfield 18), (44, .aload_n 0), (45, .iload_n 2), (46, .bipush 64), (48, .irem), (49, .putfield 22), (52, .aload_n 0), (53, .iconst 0), (54, .putfield 25), (57, .iconst 0)]), (77, [(58, .istore_n 3), (59, .iload_n 3), (60, .iload_n 1), (61, .if_icmp .ge 45), (64, .aload_n 0), (65, .getfield 42), (68, .iload_n 3), (69, .iaload), (70, .bipush 64), (72, .idiv), (73, .aload_n 0), (74, .getfield 18)]), (100, [(77, .if_icmp .ne 23), (80, .aload_n 0), (81, .ldc 197), (83, .aload_n 0), (84, .getfield 25), (87, .aload_n 0), (88, .getfield 48), (91, .iload_n 3), (92, .iaload), (93, .iadd), (94, .invokestatic 125), (97, .putfield 25)]), (110, [(100, .iinc 3 1), (103, .goto (-44)), (106, .return_)])]
theorem ct_R_countChoices : c_R_countChoices.all (fun x => x.2.all (q_dec prog_3_method_17_code)) = true := by decide +kernel
def rm_R_countChoices : Room := { frames := 1, cells := 0, slots := 0, locals := 21 }
def kV_R_countChoices (cI : ClassId) (tv : Nat) : List (Nat × (Nat × Nat × Nat × q_T)) := [(106, 2, 0, 0, q_V 1 (T_R_picksAt cI tv))]
def kI_R_countChoices (cI : ClassId) (tv : Nat) : List (Nat × (Nat × Nat × Nat × q_T)) := []
def kS_R_countChoices (cI : ClassId) (tv : Nat) : List (Nat × (Nat × Nat × Nat × q_T)) := [(125, 2, 0, 0, T_J_min cI tv)]
def F_R_countChoices (cI : ClassId) (tv : Nat) : q_K → q_G → q_G := q_F c_R_countChoices (q_as fl_R) (q_as [(100, .ref tv)]) (q_as lc_R) (q_cal (kV_R_countChoices cI tv) (kI_R_countChoices cI tv) (kS_R_countChoices cI tv)) (q_as nw_R) cI (q_tb tv) 4 0 0 (none)
def T_R_countChoices (cI : ClassId) (tv : Nat) : q_T := fun as w K => (lg_sl as).length ≤ 4 ∧ q_wp (F_R_countChoices cI tv) as w K
theorem M_R_countChoices (l : Launch) (D : va_G) (cI : ClassId) (tv : Nat) : q_Met l y_R_countChoices (Cond.code y_R_countChoices prog_3_method_17_code 4 (none) :: aW) rm_R_countChoices D cls5 [(cI, .int)] (qSt tv) (T_R_countChoices cI tv) := q_contract (cc := prog_3_method_17_code) (nL := 4) (own := "SpellPitch$Search") (ini := false) (by decide +kernel) rfl rfl (nofun) ⟨ct_R_countChoices, fl_R_ok, (fun n v h => ⟨"SpellPitch$Search", "PICKS", "[I", fun A U H hs => by cases (List.mem_singleton.mp (q_as_in h)); exact hs.1, by cases (List.mem_singleton.mp (q_as_in h)); exact aW_in kw_271⟩), lc_R_ok, q_tb_ok tv, q_cal_ok (q_cons (q_callV (k := 1) (T' := tt_R) (qStOK tv) (M_R_picksAt l D cI tv) (gV kw_267 kw_269 ks_3 kw_2 kw_270) rfl (by decide +kernel) ⟨by decide, by decide⟩ rfl) (q_nil)) (q_nil) (q_cons (q_callS (k := 2) (qStOK tv) (M_J_min l D cI tv) (gS kw_337 kw_338 kw_6 kw_339) rfl (by decide +kernel) ⟨by decide, by decide⟩) (q_nil)), nw_R_ok, Or.inl (by decide +kernel)⟩
def c_R_valueBetween : q_C := [(21, [(0, .aload_n 0), (1, .getfield 31), (4, .getfield 103), (7, .iload_n 1), (8, .iconst 1), (9, .isub), (10, .iaload), (11, .istore 4), (13, .aload_n 0), (14, .getfield 31), (17, .getfield 103), (20, .iload_n 1)]), (41, [(21, .iaload), (22, .istore 5), (24, .iload_n 2), (25, .getstatic 100), (28, .iload 4), (30, .iaload), (31, .idiv), (32, .istore 6), (34, .iload_n 3), (35, .getstatic 100), (38, .iload 5), (40, .iaload)]), (60, [(41, .idiv), (42, .istore 7), (44, .aload_n 0), (45, .getfield 63), (48, .iload 6), (50, .bipush 15), (52, .imul), (53, .iload 7), (55, .iadd), (56, .iaload), (57, .istore 8), (59, .iconst 0)]), (84, [(60, .istore 9), (62, .iload 9), (64, .iload 4), (66, .iload 5), (68, .invokestatic 125), (71, .if_icmp .ge 49), (74, .iload_n 2), (75, .iload 4), (77, .iload 9), (79, .invokestatic 158), (82, .iconst 3), (83, .imul)]), (105, [(84, .iload_n 3), (85, .iload 5), (87, .iload 9), (89, .invokestatic 158), (92, .iadd), (93, .istore 10), (95, .iload 8), (97, .aload_n 0), (98, .getfield 66), (101, .iload 9), (103, .iconst 3), (104, .imul)]), (126, [(105, .iconst 3), (106, .imul), (107, .iload 10), (109, .iadd), (110, .iaload), (111, .iadd), (112, .istore 8), (114, .iinc 9 1), (117, .goto (-55)), (120, .iload 8), (122, .ireturn)])]
theorem ct_R_valueBetween : c_R_valueBetween.all (fun x => x.2.all (q_dec prog_3_method_20_code)) = true := by decide +kernel
def rm_R_valueBetween : Room := { frames := 1, cells := 0, slots := 0, locals := 22 }
def kV_R_valueBetween (cI : ClassId) (tv : Nat) : List (Nat × (Nat × Nat × Nat × q_T)) := []
def kI_R_valueBetween (cI : ClassId) (tv : Nat) : List (Nat × (Nat × Nat × Nat × q_T)) := []
def kS_R_valueBetween (cI : ClassId) (tv : Nat) : List (Nat × (Nat × Nat × Nat × q_T)) := [(125, 2, 0, 0, T_J_min cI tv), (158, 3, 0, 0, T_R_digit cI tv)]
def F_R_valueBetween (cI : ClassId) (tv : Nat) : q_K → q_G → q_G := q_F c_R_valueBetween (q_as fl_R) (q_as [(100, .ref tv)]) (q_as lc_R) (q_cal (kV_R_valueBetween cI tv) (kI_R_valueBetween cI tv) (kS_R_valueBetween cI tv)) (q_as nw_R) cI (q_tb tv) 11 0 0 (some FieldType.int)
def T_R_valueBetween (cI : ClassId) (tv : Nat) : q_T := fun as w K => (lg_sl as).length ≤ 11 ∧ q_wp (F_R_valueBetween cI tv) as w K
theorem M_R_valueBetween (l : Launch) (D : va_G) (cI : ClassId) (tv : Nat) : q_Met l y_R_valueBetween (Cond.code y_R_valueBetween prog_3_method_20_code 11 (some FieldType.int) :: aW) rm_R_valueBetween D cls5 [(cI, .int)] (qSt tv) (T_R_valueBetween cI tv) := q_contract (cc := prog_3_method_20_code) (nL := 11) (own := "SpellPitch$Search") (ini := false) (by decide +kernel) rfl rfl (nofun) ⟨ct_R_valueBetween, fl_R_ok, (fun n v h => ⟨"SpellPitch$Search", "PICKS", "[I", fun A U H hs => by cases (List.mem_singleton.mp (q_as_in h)); exact hs.1, by cases (List.mem_singleton.mp (q_as_in h)); exact aW_in kw_271⟩), lc_R_ok, q_tb_ok tv, q_cal_ok (q_nil) (q_nil) (q_cons (q_callS (k := 2) (qStOK tv) (M_J_min l D cI tv) (gS kw_337 kw_338 kw_6 kw_339) rfl (by decide +kernel) ⟨by decide, by decide⟩) (q_cons (q_callS (k := 3) (qStOK tv) (M_R_digit l D cI tv) (gS kw_296 kw_297 kw_2 kw_298) rfl (by decide +kernel) ⟨by decide, by decide⟩) (q_nil))), nw_R_ok, Or.inl (by decide +kernel)⟩
def c_R_firstOfBest : q_C := [(19, [(0, .bipush 15), (2, .aload_n 0), (3, .iload_n 1), (4, .invokevirtual 106), (7, .imul), (8, .istore_n 3), (9, .ldc 148), (11, .istore 4), (13, .iconst 0), (14, .istore 5), (16, .iconst 0), (17, .istore 6)]), (39, [(19, .iload 6), (21, .iload_n 3), (22, .if_icmp .ge 64), (25, .aload_n 0), (26, .getfield 42), (29, .aload_n 0), (30, .getfield 45), (33, .iload_n 1), (34, .iaload), (35, .iload 6), (37, .iadd), (38, .iaload)]), (62, [(39, .istore 7), (41, .iload 7), (43, .ldc 148), (45, .if_icmp .ge 20), (48, .iload_n 1), (49, .ifCond .le 16), (52, .iload 7), (54, .aload_n 0), (55, .iload_n 1), (56, .iload_n 2), (57, .iload 6), (59, .invokevirtual 205)]), (88, [(62, .iadd), (63, .istore 7), (65, .iload 7), (67, .iload 4), (69, .if_icmp .ge 11), (72, .iload 7), (74, .istore 4), (76, .iload 6), (78, .istore 5), (80, .iinc 6 1), (83, .goto (-64)), (86, .iload 5)]), (92, [(88, .ireturn)])]
theorem ct_R_firstOfBest : c_R_firstOfBest.all (fun x => x.2.all (q_dec prog_3_method_19_code)) = true := by decide +kernel
def rm_R_firstOfBest : Room := { frames := 2, cells := 0, slots := 0, locals := 52 }
def kV_R_firstOfBest (cI : ClassId) (tv : Nat) : List (Nat × (Nat × Nat × Nat × q_T)) := [(106, 2, 0, 0, q_V 1 (T_R_picksAt cI tv)), (205, 4, 0, 0, q_V 1 (T_R_valueBetween cI tv))]
def kI_R_firstOfBest (cI : ClassId) (tv : Nat) : List (Nat × (Nat × Nat × Nat × q_T)) := []
def kS_R_firstOfBest (cI : ClassId) (tv : Nat) : List (Nat × (Nat × Nat × Nat × q_T)) := []
def F_R_firstOfBest (cI : ClassId) (tv : Nat) : q_K → q_G → q_G := q_F c_R_firstOfBest (q_as fl_R) (q_as [(100, .ref tv)]) (q_as lc_R) (q_cal (kV_R_firstOfBest cI tv) (kI_R_firstOfBest cI tv) (kS_R_firstOfBest cI tv)) (q_as nw_R) cI (q_tb tv) 8 0 0 (some FieldType.int)
def T_R_firstOfBest (cI : ClassId) (tv : Nat) : q_T := fun as w K => (lg_sl as).length ≤ 8 ∧ q_wp (F_R_firstOfBest cI tv) as w K
theorem M_R_firstOfBest (l : Launch) (D : va_G) (cI : ClassId) (tv : Nat) : q_Met l y_R_firstOfBest (Cond.code y_R_firstOfBest prog_3_method_19_code 8 (some FieldType.int) :: aW) rm_R_firstOfBest D cls5 [(cI, .int)] (qSt tv) (T_R_firstOfBest cI tv) := q_contract (cc := prog_3_method_19_code) (nL := 8) (own := "SpellPitch$Search") (ini := false) (by decide +kernel) rfl rfl (nofun) ⟨ct_R_firstOfBest, fl_R_ok, (fun n v h => ⟨"SpellPitch$Search", "PICKS", "[I", fun A U H hs => by cases (List.mem_singleton.mp (q_as_in h)); exact hs.1, by cases (List.mem_singleton.mp (q_as_in h)); exact aW_in kw_271⟩), lc_R_ok, q_tb_ok tv, q_cal_ok (q_cons (q_callV (k := 1) (T' := tt_R) (qStOK tv) (M_R_picksAt l D cI tv) (gV kw_267 kw_269 ks_3 kw_2 kw_270) rfl (by decide +kernel) ⟨by decide, by decide⟩ rfl) (q_cons (q_callV (k := 3) (T' := tt_R) (qStOK tv) (M_R_valueBetween l D cI tv) (gV kw_360 kw_362 ks_18 kw_2 kw_363) rfl (by decide +kernel) ⟨by decide, by decide⟩ rfl) (q_nil))) (q_nil) (q_nil), nw_R_ok, Or.inl (by decide +kernel)⟩
def c_R_keep : q_C := [(21, [(0, .aload_n 0), (1, .getfield 31), (4, .getfield 103), (7, .iload_n 1), (8, .iaload), (9, .istore_n 3), (10, .aload_n 0), (11, .getfield 31), (14, .getfield 122), (17, .iload_n 1), (18, .iaload), (19, .istore 4)]), (39, [(21, .aload_n 0), (22, .getfield 15), (25, .iload_n 1), (26, .iload_n 2), (27, .getstatic 100), (30, .iload_n 3), (31, .iaload), (32, .idiv), (33, .iastore), (34, .iconst 0), (35, .istore 5), (37, .iload 5)]), (61, [(39, .iload_n 3), (40, .if_icmp .ge 46), (43, .iload_n 2), (44, .iload_n 3), (45, .iload 5), (47, .invokestatic 158), (50, .istore 6), (52, .aload_n 0), (53, .getfield 9), (56, .iload 4), (58, .iload 5), (60, .iadd)]), (80, [(61, .aload_n 0), (62, .getfield 31), (65, .getfield 155), (68, .iload 4), (70, .iload 5), (72, .iadd), (73, .iconst 3), (74, .imul), (75, .iload 6), (77, .iadd), (78, .iaload), (79, .iastore)]), (90, [(80, .iinc 5 1), (83, .goto (-46)), (86, .return_)])]
theorem ct_R_keep : c_R_keep.all (fun x => x.2.all (q_dec prog_3_method_21_code)) = true := by decide +kernel
def rm_R_keep : Room := { frames := 1, cells := 0, slots := 0, locals := 22 }
def kV_R_keep (cI : ClassId) (tv : Nat) : List (Nat × (Nat × Nat × Nat × q_T)) := []
def kI_R_keep (cI : ClassId) (tv : Nat) : List (Nat × (Nat × Nat × Nat × q_T)) := []
def kS_R_keep (cI : ClassId) (tv : Nat) : List (Nat × (Nat × Nat × Nat × q_T)) := [(158, 3, 0, 0, T_R_digit cI tv)]
def F_R_keep (cI : ClassId) (tv : Nat) : q_K → q_G → q_G := q_F c_R_keep (q_as fl_R) (q_as [(100, .ref tv)]) (q_as lc_R) (q_cal (kV_R_keep cI tv) (kI_R_keep cI tv) (kS_R_keep cI tv)) (q_as nw_R) cI (q_tb tv) 7 0 0 (none)
def T_R_keep (cI : ClassId) (tv : Nat) : q_T := fun as w K => (lg_sl as).length ≤ 7 ∧ q_wp (F_R_keep cI tv) as w K
theorem M_R_keep (l : Launch) (D : va_G) (cI : ClassId) (tv : Nat) : q_Met l y_R_keep (Cond.code y_R_keep prog_3_method_21_code 7 (none) :: aW) rm_R_keep D cls5 [(cI, .int)] (qSt tv) (T_R_keep cI tv) := q_contract (cc := prog_3_method_21_code) (nL := 7) (own := "SpellPitch$Search") (ini := false) (by decide +kernel) rfl rfl (nofun) ⟨ct_R_keep, fl_R_ok, (fun n v h => ⟨"SpellPitch$Search", "PICKS", "[I", fun A U H hs => by cases (List.mem_singleton.mp (q_as_in h)); exact hs.1, by cases (List.mem_singleton.mp (q_as_in h)); exact aW_in kw_271⟩), lc_R_ok, q_tb_ok tv, q_cal_ok (q_nil) (q_nil) (q_cons (q_callS (k := 3) (qStOK tv) (M_R_digit l D cI tv) (gS kw_296 kw_297 kw_2 kw_298) rfl (by decide +kernel) ⟨by decide, by decide⟩) (q_nil)), nw_R_ok, Or.inl (by decide +kernel)⟩
def c_R_readOff : q_C := [(20, [(0, .iconst 0), (1, .istore_n 1), (2, .iconst 0), (3, .istore_n 2), (4, .iload_n 2), (5, .aload_n 0), (6, .getfield 31), (9, .getfield 75), (12, .if_icmp .ge 33), (15, .iload_n 2), (16, .ifCond .le 10), (19, .aload_n 0)]), (36, [(20, .iload_n 2), (21, .iconst 1), (22, .isub), (23, .invokevirtual 190), (26, .aload_n 0), (27, .iload_n 2), (28, .iload_n 1), (29, .invokevirtual 198), (32, .istore_n 1), (33, .aload_n 0), (34, .iload_n 2), (35, .iload_n 1)]), (49, [(36, .invokevirtual 201), (39, .iinc 2 1), (42, .goto (-38)), (45, .return_)])]
theorem ct_R_readOff : c_R_readOff.all (fun x => x.2.all (q_dec prog_3_method_18_code)) = true := by decide +kernel
def rm_R_readOff : Room := { frames := 3, cells := 0, slots := 0, locals := 79 }
def kV_R_readOff (cI : ClassId) (tv : Nat) : List (Nat × (Nat × Nat × Nat × q_T)) := [(190, 2, 0, 0, q_V 1 (T_R_linkSteps cI tv)), (198, 3, 0, 0, q_V 1 (T_R_firstOfBest cI tv)), (201, 3, 0, 0, q_V 1 (T_R_keep cI tv))]
def kI_R_readOff (cI : ClassId) (tv : Nat) : List (Nat × (Nat × Nat × Nat × q_T)) := []
def kS_R_readOff (cI : ClassId) (tv : Nat) : List (Nat × (Nat × Nat × Nat × q_T)) := []
def F_R_readOff (cI : ClassId) (tv : Nat) : q_K → q_G → q_G := q_F c_R_readOff (q_as fl_R) (q_as [(100, .ref tv)]) (q_as lc_R) (q_cal (kV_R_readOff cI tv) (kI_R_readOff cI tv) (kS_R_readOff cI tv)) (q_as nw_R) cI (q_tb tv) 3 0 0 (none)
def T_R_readOff (cI : ClassId) (tv : Nat) : q_T := fun as w K => (lg_sl as).length ≤ 3 ∧ q_wp (F_R_readOff cI tv) as w K
theorem M_R_readOff (l : Launch) (D : va_G) (cI : ClassId) (tv : Nat) : q_Met l y_R_readOff (Cond.code y_R_readOff prog_3_method_18_code 3 (none) :: aW) rm_R_readOff D cls5 [(cI, .int)] (qSt tv) (T_R_readOff cI tv) := q_contract (cc := prog_3_method_18_code) (nL := 3) (own := "SpellPitch$Search") (ini := false) (by decide +kernel) rfl rfl (nofun) ⟨ct_R_readOff, fl_R_ok, (fun n v h => ⟨"SpellPitch$Search", "PICKS", "[I", fun A U H hs => by cases (List.mem_singleton.mp (q_as_in h)); exact hs.1, by cases (List.mem_singleton.mp (q_as_in h)); exact aW_in kw_271⟩), lc_R_ok, q_tb_ok tv, q_cal_ok (q_cons (q_callV (k := 1) (T' := tt_R) (qStOK tv) (M_R_linkSteps l D cI tv) (gV kw_340 kw_342 ks_13 kw_2 kw_343) rfl (by decide +kernel) ⟨by decide, by decide⟩ rfl) (q_cons (q_callV (k := 2) (T' := tt_R) (qStOK tv) (M_R_firstOfBest l D cI tv) (gV kw_356 kw_358 ks_17 kw_2 kw_359) rfl (by decide +kernel) ⟨by decide, by decide⟩ rfl) (q_cons (q_callV (k := 2) (T' := tt_R) (qStOK tv) (M_R_keep l D cI tv) (gV kw_364 kw_366 ks_19 kw_2 kw_367) rfl (by decide +kernel) ⟨by decide, by decide⟩ rfl) (q_nil)))) (q_nil) (q_nil), nw_R_ok, Or.inl (by decide +kernel)⟩
def c_R_run : q_C := [(22, [(0, .aload_n 0), (1, .iconst 0), (2, .putfield 18), (5, .aload_n 0), (6, .iconst 0), (7, .putfield 22), (10, .aload_n 0), (11, .iconst 1), (12, .putfield 25), (15, .aload_n 0), (16, .getfield 31), (19, .getfield 75)]), (46, [(22, .ifCond .ne 4), (25, .return_), (26, .aload_n 0), (27, .invokevirtual 78), (30, .aload_n 0), (31, .invokevirtual 81), (34, .aload_n 0), (35, .invokevirtual 84), (38, .aload_n 0), (39, .getfield 31), (42, .getfield 75), (45, .iconst 1)]), (64, [(46, .isub), (47, .istore_n 1), (48, .iload_n 1), (49, .ifCond .lt 25), (52, .aload_n 0), (53, .iload_n 1), (54, .invokevirtual 87), (57, .iload_n 1), (58, .ifCond .le 10), (61, .aload_n 0), (62, .iload_n 1), (63, .iconst 1)]), (86, [(64, .isub), (65, .invokevirtual 91), (68, .iinc 1 (-1)), (71, .goto (-23)), (74, .aload_n 0), (75, .invokevirtual 94), (78, .aload_n 0), (79, .invokevirtual 97), (82, .return_)])]
theorem ct_R_run : c_R_run.all (fun x => x.2.all (q_dec prog_3_method_2_code)) = true := by decide +kernel
def rm_R_run : Room := { frames := 4, cells := 0, slots := 0, locals := 103 }
def kV_R_run (cI : ClassId) (tv : Nat) : List (Nat × (Nat × Nat × Nat × q_T)) := [(78, 1, 0, 0, q_V 1 (T_R_layOutStates cI tv)), (81, 1, 0, 0, q_V 1 (T_R_linkKeys cI tv)), (84, 1, 0, 0, q_V 1 (T_R_lookAtTheEnd cI tv)), (87, 2, 0, 0, q_V 1 (T_R_weigh cI tv)), (91, 2, 0, 0, q_V 1 (T_R_lookAheadFrom cI tv)), (94, 1, 0, 0, q_V 1 (T_R_countChoices cI tv)), (97, 1, 0, 0, q_V 1 (T_R_readOff cI tv))]
def kI_R_run (cI : ClassId) (tv : Nat) : List (Nat × (Nat × Nat × Nat × q_T)) := []
def kS_R_run (cI : ClassId) (tv : Nat) : List (Nat × (Nat × Nat × Nat × q_T)) := []
def F_R_run (cI : ClassId) (tv : Nat) : q_K → q_G → q_G := q_F c_R_run (q_as fl_R) (q_as [(100, .ref tv)]) (q_as lc_R) (q_cal (kV_R_run cI tv) (kI_R_run cI tv) (kS_R_run cI tv)) (q_as nw_R) cI (q_tb tv) 2 0 0 (none)
def T_R_run (cI : ClassId) (tv : Nat) : q_T := fun as w K => (lg_sl as).length ≤ 2 ∧ q_wp (F_R_run cI tv) as w K
theorem M_R_run (l : Launch) (D : va_G) (cI : ClassId) (tv : Nat) : q_Met l y_R_run (Cond.code y_R_run prog_3_method_2_code 2 (none) :: aW) rm_R_run D cls5 [(cI, .int)] (qSt tv) (T_R_run cI tv) := q_contract (cc := prog_3_method_2_code) (nL := 2) (own := "SpellPitch$Search") (ini := false) (by decide +kernel) rfl rfl (nofun) ⟨ct_R_run, fl_R_ok, (fun n v h => ⟨"SpellPitch$Search", "PICKS", "[I", fun A U H hs => by cases (List.mem_singleton.mp (q_as_in h)); exact hs.1, by cases (List.mem_singleton.mp (q_as_in h)); exact aW_in kw_271⟩), lc_R_ok, q_tb_ok tv, q_cal_ok (q_cons (q_callV (k := 0) (T' := tt_R) (qStOK tv) (M_R_layOutStates l D cI tv) (gV kw_263 kw_265 ks_2 kw_2 kw_266) rfl (by decide +kernel) ⟨by decide, by decide⟩ rfl) (q_cons (q_callV (k := 0) (T' := tt_R) (qStOK tv) (M_R_linkKeys l D cI tv) (gV kw_273 kw_275 ks_4 kw_2 kw_276) rfl (by decide +kernel) ⟨by decide, by decide⟩ rfl) (q_cons (q_callV (k := 0) (T' := tt_R) (qStOK tv) (M_R_lookAtTheEnd l D cI tv) (gV kw_284 kw_286 ks_5 kw_2 kw_287) rfl (by decide +kernel) ⟨by decide, by decide⟩ rfl) (q_cons (q_callV (k := 1) (T' := tt_R) (qStOK tv) (M_R_weigh l D cI tv) (gV kw_288 kw_290 ks_6 kw_2 kw_291) rfl (by decide +kernel) ⟨by decide, by decide⟩ rfl) (q_cons (q_callV (k := 1) (T' := tt_R) (qStOK tv) (M_R_lookAheadFrom l D cI tv) (gV kw_321 kw_323 ks_10 kw_2 kw_324) rfl (by decide +kernel) ⟨by decide, by decide⟩ rfl) (q_cons (q_callV (k := 0) (T' := tt_R) (qStOK tv) (M_R_countChoices l D cI tv) (gV kw_348 kw_350 ks_15 kw_2 kw_351) rfl (by decide +kernel) ⟨by decide, by decide⟩ rfl) (q_cons (q_callV (k := 0) (T' := tt_R) (qStOK tv) (M_R_readOff l D cI tv) (gV kw_352 kw_354 ks_16 kw_2 kw_355) rfl (by decide +kernel) ⟨by decide, by decide⟩ rfl) (q_nil)))))))) (q_nil) (q_nil), nw_R_ok, Or.inl (by decide +kernel)⟩
def c_X_meant : q_C := [(27, [(0, .aload_n 0), (1, .getfield 26), (4, .ifCond .ne 15), (7, .aload_n 0), (8, .getfield 12), (11, .invokevirtual 157), (14, .aload_n 0), (15, .iconst 1), (16, .putfield 26), (19, .aload_n 0), (20, .getfield 12), (23, .areturn)])]
theorem ct_X_meant : c_X_meant.all (fun x => x.2.all (q_dec prog_1_method_22_code)) = true := by decide +kernel
def rm_X_meant : Room := { frames := 5, cells := 0, slots := 0, locals := 124 }
def kV_X_meant (cI : ClassId) (tv : Nat) : List (Nat × (Nat × Nat × Nat × q_T)) := [(157, 1, 0, 0, q_V 1 (T_R_run cI tv))]
def kI_X_meant (cI : ClassId) (tv : Nat) : List (Nat × (Nat × Nat × Nat × q_T)) := []
def kS_X_meant (cI : ClassId) (tv : Nat) : List (Nat × (Nat × Nat × Nat × q_T)) := []
def F_X_meant (cI : ClassId) (tv : Nat) : q_K → q_G → q_G := q_F c_X_meant (q_as fl_X) (q_as []) (q_as lc_X) (q_cal (kV_X_meant cI tv) (kI_X_meant cI tv) (kS_X_meant cI tv)) (q_as nw_X) cI (q_tb tv) 1 0 0 (some (FieldType.object "SpellPitch$Search"))
def T_X_meant (cI : ClassId) (tv : Nat) : q_T := fun as w K => (lg_sl as).length ≤ 1 ∧ q_wp (F_X_meant cI tv) as w K
theorem M_X_meant (l : Launch) (D : va_G) (cI : ClassId) (tv : Nat) : q_Met l y_X_meant (Cond.code y_X_meant prog_1_method_22_code 1 (some (FieldType.object "SpellPitch$Search")) :: aW) rm_X_meant D cls5 [(cI, .int)] (qSt tv) (T_X_meant cI tv) := q_contract (cc := prog_1_method_22_code) (nL := 1) (own := "SpellPitch") (ini := false) (by decide +kernel) rfl rfl (nofun) ⟨ct_X_meant, fl_X_ok, (fun n v h => by cases h), lc_X_ok, q_tb_ok tv, q_cal_ok (q_cons (q_callV (k := 0) (T' := tt_R) (qStOK tv) (M_R_run l D cI tv) (gV kw_259 kw_260 kw_261 kw_2 kw_262) rfl (by decide +kernel) ⟨by decide, by decide⟩ rfl) (q_nil)) (q_nil) (q_nil), nw_X_ok, Or.inl (by decide +kernel)⟩
def c_X_sum : q_C := [(11, [(0, .aload_n 0), (1, .invokevirtual 91), (4, .getfield 95), (7, .ireturn)])]
theorem ct_X_sum : c_X_sum.all (fun x => x.2.all (q_dec prog_1_method_7_code)) = true := by decide +kernel
def rm_X_sum : Room := { frames := 6, cells := 0, slots := 0, locals := 144 }
def kV_X_sum (cI : ClassId) (tv : Nat) : List (Nat × (Nat × Nat × Nat × q_T)) := [(91, 1, 0, 0, q_V 3 (T_X_meant cI tv))]
def kI_X_sum (cI : ClassId) (tv : Nat) : List (Nat × (Nat × Nat × Nat × q_T)) := []
def kS_X_sum (cI : ClassId) (tv : Nat) : List (Nat × (Nat × Nat × Nat × q_T)) := []
def F_X_sum (cI : ClassId) (tv : Nat) : q_K → q_G → q_G := q_F c_X_sum (q_as fl_X) (q_as []) (q_as lc_X) (q_cal (kV_X_sum cI tv) (kI_X_sum cI tv) (kS_X_sum cI tv)) (q_as nw_X) cI (q_tb tv) 1 0 0 (some FieldType.int)
def T_X_sum (cI : ClassId) (tv : Nat) : q_T := fun as w K => (lg_sl as).length ≤ 1 ∧ q_wp (F_X_sum cI tv) as w K
theorem M_X_sum (l : Launch) (D : va_G) (cI : ClassId) (tv : Nat) : q_Met l y_X_sum (Cond.code y_X_sum prog_1_method_7_code 1 (some FieldType.int) :: aW) rm_X_sum D cls5 [(cI, .int)] (qSt tv) (T_X_sum cI tv) := q_contract (cc := prog_1_method_7_code) (nL := 1) (own := "SpellPitch") (ini := false) (by decide +kernel) rfl rfl (nofun) ⟨ct_X_sum, fl_X_ok, (fun n v h => by cases h), lc_X_ok, q_tb_ok tv, q_cal_ok (q_cons (q_callV (k := 0) (T' := tt_X) (qStOK tv) (M_X_meant l D cI tv) (gV kw_255 kw_257 ks_1 kw_1 kw_258) rfl (by decide +kernel) ⟨by decide, by decide⟩ rfl) (q_nil)) (q_nil) (q_nil), nw_X_ok, Or.inl (by decide +kernel)⟩
def c_X_signs : q_C := [(11, [(0, .aload_n 0), (1, .invokevirtual 91), (4, .getfield 98), (7, .ireturn)])]
theorem ct_X_signs : c_X_signs.all (fun x => x.2.all (q_dec prog_1_method_8_code)) = true := by decide +kernel
def rm_X_signs : Room := { frames := 6, cells := 0, slots := 0, locals := 144 }
def kV_X_signs (cI : ClassId) (tv : Nat) : List (Nat × (Nat × Nat × Nat × q_T)) := [(91, 1, 0, 0, q_V 3 (T_X_meant cI tv))]
def kI_X_signs (cI : ClassId) (tv : Nat) : List (Nat × (Nat × Nat × Nat × q_T)) := []
def kS_X_signs (cI : ClassId) (tv : Nat) : List (Nat × (Nat × Nat × Nat × q_T)) := []
def F_X_signs (cI : ClassId) (tv : Nat) : q_K → q_G → q_G := q_F c_X_signs (q_as fl_X) (q_as []) (q_as lc_X) (q_cal (kV_X_signs cI tv) (kI_X_signs cI tv) (kS_X_signs cI tv)) (q_as nw_X) cI (q_tb tv) 1 0 0 (some FieldType.int)
def T_X_signs (cI : ClassId) (tv : Nat) : q_T := fun as w K => (lg_sl as).length ≤ 1 ∧ q_wp (F_X_signs cI tv) as w K
theorem M_X_signs (l : Launch) (D : va_G) (cI : ClassId) (tv : Nat) : q_Met l y_X_signs (Cond.code y_X_signs prog_1_method_8_code 1 (some FieldType.int) :: aW) rm_X_signs D cls5 [(cI, .int)] (qSt tv) (T_X_signs cI tv) := q_contract (cc := prog_1_method_8_code) (nL := 1) (own := "SpellPitch") (ini := false) (by decide +kernel) rfl rfl (nofun) ⟨ct_X_signs, fl_X_ok, (fun n v h => by cases h), lc_X_ok, q_tb_ok tv, q_cal_ok (q_cons (q_callV (k := 0) (T' := tt_X) (qStOK tv) (M_X_meant l D cI tv) (gV kw_255 kw_257 ks_1 kw_1 kw_258) rfl (by decide +kernel) ⟨by decide, by decide⟩ rfl) (q_nil)) (q_nil) (q_nil), nw_X_ok, Or.inl (by decide +kernel)⟩
def c_X_ties : q_C := [(11, [(0, .aload_n 0), (1, .invokevirtual 91), (4, .getfield 101), (7, .ireturn)])]
theorem ct_X_ties : c_X_ties.all (fun x => x.2.all (q_dec prog_1_method_9_code)) = true := by decide +kernel
def rm_X_ties : Room := { frames := 6, cells := 0, slots := 0, locals := 144 }
def kV_X_ties (cI : ClassId) (tv : Nat) : List (Nat × (Nat × Nat × Nat × q_T)) := [(91, 1, 0, 0, q_V 3 (T_X_meant cI tv))]
def kI_X_ties (cI : ClassId) (tv : Nat) : List (Nat × (Nat × Nat × Nat × q_T)) := []
def kS_X_ties (cI : ClassId) (tv : Nat) : List (Nat × (Nat × Nat × Nat × q_T)) := []
def F_X_ties (cI : ClassId) (tv : Nat) : q_K → q_G → q_G := q_F c_X_ties (q_as fl_X) (q_as []) (q_as lc_X) (q_cal (kV_X_ties cI tv) (kI_X_ties cI tv) (kS_X_ties cI tv)) (q_as nw_X) cI (q_tb tv) 1 0 0 (some FieldType.int)
def T_X_ties (cI : ClassId) (tv : Nat) : q_T := fun as w K => (lg_sl as).length ≤ 1 ∧ q_wp (F_X_ties cI tv) as w K
theorem M_X_ties (l : Launch) (D : va_G) (cI : ClassId) (tv : Nat) : q_Met l y_X_ties (Cond.code y_X_ties prog_1_method_9_code 1 (some FieldType.int) :: aW) rm_X_ties D cls5 [(cI, .int)] (qSt tv) (T_X_ties cI tv) := q_contract (cc := prog_1_method_9_code) (nL := 1) (own := "SpellPitch") (ini := false) (by decide +kernel) rfl rfl (nofun) ⟨ct_X_ties, fl_X_ok, (fun n v h => by cases h), lc_X_ok, q_tb_ok tv, q_cal_ok (q_cons (q_callV (k := 0) (T' := tt_X) (qStOK tv) (M_X_meant l D cI tv) (gV kw_255 kw_257 ks_1 kw_1 kw_258) rfl (by decide +kernel) ⟨by decide, by decide⟩ rfl) (q_nil)) (q_nil) (q_nil), nw_X_ok, Or.inl (by decide +kernel)⟩
def c_X_name : q_C := [(22, [(0, .aload_n 0), (1, .getfield 20), (4, .iload_n 1), (5, .invokevirtual 44), (8, .ifCond .ne 5), (11, .iconst (-1)), (12, .ireturn), (13, .iload_n 2), (14, .ifCond .lt 8), (17, .iload_n 2), (18, .iconst 3), (19, .if_icmp .le 6)]), (66, [(22, .bipush (-2)), (24, .ireturn), (25, .aload_n 0), (26, .invokevirtual 91), (29, .getfield 104), (32, .iload_n 1), (33, .iaload), (34, .istore_n 3), (35, .iload_n 2), (36, .tableswitch 42 0 2 #[28, 30, 35]), (64, .iload_n 3), (65, .ireturn)]), (86, [(66, .iload_n 3), (67, .invokestatic 107), (70, .ireturn), (71, .iload_n 3), (72, .invokestatic 111), (75, .iconst 2), (76, .iadd), (77, .ireturn), (78, .iload_n 3), (79, .aload_n 0), (80, .getfield 20), (83, .getfield 58)]), (95, [(86, .iload_n 1), (87, .iaload), (88, .invokestatic 114), (91, .ireturn)])]
theorem ct_X_name : c_X_name.all (fun x => x.2.all (q_dec prog_1_method_10_code)) = true := by decide +kernel
def rm_X_name : Room := { frames := 6, cells := 0, slots := 0, locals := 144 }
def kV_X_name (cI : ClassId) (tv : Nat) : List (Nat × (Nat × Nat × Nat × q_T)) := [(44, 2, 0, 0, q_V 0 (T_S_has cI tv)), (91, 1, 0, 0, q_V 3 (T_X_meant cI tv))]
def kI_X_name (cI : ClassId) (tv : Nat) : List (Nat × (Nat × Nat × Nat × q_T)) := []
def kS_X_name (cI : ClassId) (tv : Nat) : List (Nat × (Nat × Nat × Nat × q_T)) := [(107, 1, 0, 0, T_X_letterOf cI tv), (111, 1, 0, 0, T_X_signsOf cI tv), (114, 2, 0, 0, T_X_octaveOf cI tv)]
def F_X_name (cI : ClassId) (tv : Nat) : q_K → q_G → q_G := q_F c_X_name (q_as fl_X) (q_as []) (q_as lc_X) (q_cal (kV_X_name cI tv) (kI_X_name cI tv) (kS_X_name cI tv)) (q_as nw_X) cI (q_tb tv) 4 0 0 (some FieldType.int)
def T_X_name (cI : ClassId) (tv : Nat) : q_T := fun as w K => (lg_sl as).length ≤ 4 ∧ q_wp (F_X_name cI tv) as w K
theorem M_X_name (l : Launch) (D : va_G) (cI : ClassId) (tv : Nat) : q_Met l y_X_name (Cond.code y_X_name prog_1_method_10_code 4 (some FieldType.int) :: aW) rm_X_name D cls5 [(cI, .int)] (qSt tv) (T_X_name cI tv) := q_contract (cc := prog_1_method_10_code) (nL := 4) (own := "SpellPitch") (ini := false) (by decide +kernel) rfl rfl (nofun) ⟨ct_X_name, fl_X_ok, (fun n v h => by cases h), lc_X_ok, q_tb_ok tv, q_cal_ok (q_cons (q_callV (k := 1) (T' := tt_S) (qStOK tv) (M_S_has l D cI tv) (gV kw_222 kw_223 kw_224 kw_3 kw_225) rfl (by decide +kernel) ⟨by decide, by decide⟩ rfl) (q_cons (q_callV (k := 0) (T' := tt_X) (qStOK tv) (M_X_meant l D cI tv) (gV kw_255 kw_257 ks_1 kw_1 kw_258) rfl (by decide +kernel) ⟨by decide, by decide⟩ rfl) (q_nil))) (q_nil) (q_cons (q_callS (k := 1) (qStOK tv) (M_X_letterOf l D cI tv) (gS kw_214 kw_215 kw_1 kw_216) rfl (by decide +kernel) ⟨by decide, by decide⟩) (q_cons (q_callS (k := 1) (qStOK tv) (M_X_signsOf l D cI tv) (gS kw_208 kw_209 kw_1 kw_210) rfl (by decide +kernel) ⟨by decide, by decide⟩) (q_cons (q_callS (k := 2) (qStOK tv) (M_X_octaveOf l D cI tv) (gS kw_205 kw_206 kw_1 kw_207) rfl (by decide +kernel) ⟨by decide, by decide⟩) (q_nil)))), nw_X_ok, Or.inl (by decide +kernel)⟩
def c_X_keyOf : q_C := [(24, [(0, .aload_n 0), (1, .getfield 20), (4, .iload_n 1), (5, .invokevirtual 44), (8, .ifCond .ne 5), (11, .iconst (-1)), (12, .ireturn), (13, .aload_n 0), (14, .invokevirtual 91), (17, .getfield 118), (20, .aload_n 0), (21, .getfield 20)]), (34, [(24, .getfield 48), (27, .iload_n 1), (28, .iaload), (29, .iaload), (30, .ireturn)])]
theorem ct_X_keyOf : c_X_keyOf.all (fun x => x.2.all (q_dec prog_1_method_11_code)) = true := by decide +kernel
def rm_X_keyOf : Room := { frames := 6, cells := 0, slots := 0, locals := 144 }
def kV_X_keyOf (cI : ClassId) (tv : Nat) : List (Nat × (Nat × Nat × Nat × q_T)) := [(44, 2, 0, 0, q_V 0 (T_S_has cI tv)), (91, 1, 0, 0, q_V 3 (T_X_meant cI tv))]
def kI_X_keyOf (cI : ClassId) (tv : Nat) : List (Nat × (Nat × Nat × Nat × q_T)) := []
def kS_X_keyOf (cI : ClassId) (tv : Nat) : List (Nat × (Nat × Nat × Nat × q_T)) := []
def F_X_keyOf (cI : ClassId) (tv : Nat) : q_K → q_G → q_G := q_F c_X_keyOf (q_as fl_X) (q_as []) (q_as lc_X) (q_cal (kV_X_keyOf cI tv) (kI_X_keyOf cI tv) (kS_X_keyOf cI tv)) (q_as nw_X) cI (q_tb tv) 2 0 0 (some FieldType.int)
def T_X_keyOf (cI : ClassId) (tv : Nat) : q_T := fun as w K => (lg_sl as).length ≤ 2 ∧ q_wp (F_X_keyOf cI tv) as w K
theorem M_X_keyOf (l : Launch) (D : va_G) (cI : ClassId) (tv : Nat) : q_Met l y_X_keyOf (Cond.code y_X_keyOf prog_1_method_11_code 2 (some FieldType.int) :: aW) rm_X_keyOf D cls5 [(cI, .int)] (qSt tv) (T_X_keyOf cI tv) := q_contract (cc := prog_1_method_11_code) (nL := 2) (own := "SpellPitch") (ini := false) (by decide +kernel) rfl rfl (nofun) ⟨ct_X_keyOf, fl_X_ok, (fun n v h => by cases h), lc_X_ok, q_tb_ok tv, q_cal_ok (q_cons (q_callV (k := 1) (T' := tt_S) (qStOK tv) (M_S_has l D cI tv) (gV kw_222 kw_223 kw_224 kw_3 kw_225) rfl (by decide +kernel) ⟨by decide, by decide⟩ rfl) (q_cons (q_callV (k := 0) (T' := tt_X) (qStOK tv) (M_X_meant l D cI tv) (gV kw_255 kw_257 ks_1 kw_1 kw_258) rfl (by decide +kernel) ⟨by decide, by decide⟩ rfl) (q_nil))) (q_nil) (q_nil), nw_X_ok, Or.inl (by decide +kernel)⟩
def c_X_turned : q_C := [(20, [(0, .aload_n 0), (1, .invokevirtual 91), (4, .getfield 118), (7, .astore_n 1), (8, .iconst 0), (9, .istore_n 2), (10, .iconst 1), (11, .istore_n 3), (12, .iload_n 3), (13, .aload_n 0), (14, .getfield 20), (17, .getfield 121)]), (40, [(20, .if_icmp .ge 26), (23, .aload_n 1), (24, .iload_n 3), (25, .iconst 1), (26, .isub), (27, .iaload), (28, .aload_n 1), (29, .iload_n 3), (30, .iaload), (31, .invokestatic 124), (34, .ifCond .eq 6), (37, .iinc 2 1)]), (51, [(40, .iinc 3 1), (43, .goto (-31)), (46, .iload_n 2), (47, .ireturn)])]
theorem ct_X_turned : c_X_turned.all (fun x => x.2.all (q_dec prog_1_method_12_code)) = true := by decide +kernel
def rm_X_turned : Room := { frames := 6, cells := 0, slots := 0, locals := 144 }
def kV_X_turned (cI : ClassId) (tv : Nat) : List (Nat × (Nat × Nat × Nat × q_T)) := [(91, 1, 0, 0, q_V 3 (T_X_meant cI tv))]
def kI_X_turned (cI : ClassId) (tv : Nat) : List (Nat × (Nat × Nat × Nat × q_T)) := []
def kS_X_turned (cI : ClassId) (tv : Nat) : List (Nat × (Nat × Nat × Nat × q_T)) := [(124, 2, 0, 0, T_X_isTurn cI tv)]
def F_X_turned (cI : ClassId) (tv : Nat) : q_K → q_G → q_G := q_F c_X_turned (q_as fl_X) (q_as []) (q_as lc_X) (q_cal (kV_X_turned cI tv) (kI_X_turned cI tv) (kS_X_turned cI tv)) (q_as nw_X) cI (q_tb tv) 4 0 0 (some FieldType.int)
def T_X_turned (cI : ClassId) (tv : Nat) : q_T := fun as w K => (lg_sl as).length ≤ 4 ∧ q_wp (F_X_turned cI tv) as w K
theorem M_X_turned (l : Launch) (D : va_G) (cI : ClassId) (tv : Nat) : q_Met l y_X_turned (Cond.code y_X_turned prog_1_method_12_code 4 (some FieldType.int) :: aW) rm_X_turned D cls5 [(cI, .int)] (qSt tv) (T_X_turned cI tv) := q_contract (cc := prog_1_method_12_code) (nL := 4) (own := "SpellPitch") (ini := false) (by decide +kernel) rfl rfl (nofun) ⟨ct_X_turned, fl_X_ok, (fun n v h => by cases h), lc_X_ok, q_tb_ok tv, q_cal_ok (q_cons (q_callV (k := 0) (T' := tt_X) (qStOK tv) (M_X_meant l D cI tv) (gV kw_255 kw_257 ks_1 kw_1 kw_258) rfl (by decide +kernel) ⟨by decide, by decide⟩ rfl) (q_nil)) (q_nil) (q_cons (q_callS (k := 2) (qStOK tv) (M_X_isTurn l D cI tv) (gS kw_388 kw_278 kw_1 kw_279) rfl (by decide +kernel) ⟨by decide, by decide⟩) (q_nil)), nw_X_ok, Or.inl (by decide +kernel)⟩
def c_X_turn : q_C := [(19, [(0, .iload_n 1), (1, .ifCond .ge 5), (4, .iconst (-1)), (5, .ireturn), (6, .aload_n 0), (7, .invokevirtual 91), (10, .getfield 118), (13, .astore_n 2), (14, .iconst 0), (15, .istore_n 3), (16, .iconst 1), (17, .istore 4)]), (40, [(19, .iload 4), (21, .aload_n 0), (22, .getfield 20), (25, .getfield 121), (28, .if_icmp .ge 36), (31, .aload_n 2), (32, .iload 4), (34, .iconst 1), (35, .isub), (36, .iaload), (37, .aload_n 2), (38, .iload 4)]), (65, [(40, .iaload), (41, .invokestatic 124), (44, .ifCond .eq 14), (47, .iload_n 3), (48, .iload_n 1), (49, .if_icmp .ne 6), (52, .iload 4), (54, .ireturn), (55, .iinc 3 1), (58, .iinc 4 1), (61, .goto (-42)), (64, .iconst (-1))]), (69, [(65, .ireturn)])]
theorem ct_X_turn : c_X_turn.all (fun x => x.2.all (q_dec prog_1_method_13_code)) = true := by decide +kernel
def rm_X_turn : Room := { frames := 6, cells := 0, slots := 0, locals := 144 }
def kV_X_turn (cI : ClassId) (tv : Nat) : List (Nat × (Nat × Nat × Nat × q_T)) := [(91, 1, 0, 0, q_V 3 (T_X_meant cI tv))]
def kI_X_turn (cI : ClassId) (tv : Nat) : List (Nat × (Nat × Nat × Nat × q_T)) := []
def kS_X_turn (cI : ClassId) (tv : Nat) : List (Nat × (Nat × Nat × Nat × q_T)) := [(124, 2, 0, 0, T_X_isTurn cI tv)]
def F_X_turn (cI : ClassId) (tv : Nat) : q_K → q_G → q_G := q_F c_X_turn (q_as fl_X) (q_as []) (q_as lc_X) (q_cal (kV_X_turn cI tv) (kI_X_turn cI tv) (kS_X_turn cI tv)) (q_as nw_X) cI (q_tb tv) 5 0 0 (some FieldType.int)
def T_X_turn (cI : ClassId) (tv : Nat) : q_T := fun as w K => (lg_sl as).length ≤ 5 ∧ q_wp (F_X_turn cI tv) as w K
theorem M_X_turn (l : Launch) (D : va_G) (cI : ClassId) (tv : Nat) : q_Met l y_X_turn (Cond.code y_X_turn prog_1_method_13_code 5 (some FieldType.int) :: aW) rm_X_turn D cls5 [(cI, .int)] (qSt tv) (T_X_turn cI tv) := q_contract (cc := prog_1_method_13_code) (nL := 5) (own := "SpellPitch") (ini := false) (by decide +kernel) rfl rfl (nofun) ⟨ct_X_turn, fl_X_ok, (fun n v h => by cases h), lc_X_ok, q_tb_ok tv, q_cal_ok (q_cons (q_callV (k := 0) (T' := tt_X) (qStOK tv) (M_X_meant l D cI tv) (gV kw_255 kw_257 ks_1 kw_1 kw_258) rfl (by decide +kernel) ⟨by decide, by decide⟩ rfl) (q_nil)) (q_nil) (q_cons (q_callS (k := 2) (qStOK tv) (M_X_isTurn l D cI tv) (gS kw_388 kw_278 kw_1 kw_279) rfl (by decide +kernel) ⟨by decide, by decide⟩) (q_nil)), nw_X_ok, Or.inl (by decide +kernel)⟩
def c_X_stepsOf : q_C := [(12, [(0, .iconst 4), (1, .iload_n 0), (2, .imul), (3, .bipush 7), (5, .invokestatic 154), (8, .ireturn)])]
theorem ct_X_stepsOf : c_X_stepsOf.all (fun x => x.2.all (q_dec prog_1_method_32_code)) = true := by decide +kernel
def rm_X_stepsOf : Room := { frames := 1, cells := 0, slots := 0, locals := 22 }
def kV_X_stepsOf (cI : ClassId) (tv : Nat) : List (Nat × (Nat × Nat × Nat × q_T)) := []
def kI_X_stepsOf (cI : ClassId) (tv : Nat) : List (Nat × (Nat × Nat × Nat × q_T)) := []
def kS_X_stepsOf (cI : ClassId) (tv : Nat) : List (Nat × (Nat × Nat × Nat × q_T)) := [(154, 2, 0, 0, T_J_floorMod cI tv)]
def F_X_stepsOf (cI : ClassId) (tv : Nat) : q_K → q_G → q_G := q_F c_X_stepsOf (q_as fl_X) (q_as []) (q_as lc_X) (q_cal (kV_X_stepsOf cI tv) (kI_X_stepsOf cI tv) (kS_X_stepsOf cI tv)) (q_as nw_X) cI (q_tb tv) 1 0 0 (some FieldType.int)
def T_X_stepsOf (cI : ClassId) (tv : Nat) : q_T := fun as w K => (lg_sl as).length ≤ 1 ∧ q_wp (F_X_stepsOf cI tv) as w K
theorem M_X_stepsOf (l : Launch) (D : va_G) (cI : ClassId) (tv : Nat) : q_Met l y_X_stepsOf (Cond.code y_X_stepsOf prog_1_method_32_code 1 (some FieldType.int) :: aW) rm_X_stepsOf D cls5 [(cI, .int)] (qSt tv) (T_X_stepsOf cI tv) := q_contract (cc := prog_1_method_32_code) (nL := 1) (own := "SpellPitch") (ini := false) (by decide +kernel) rfl rfl (nofun) ⟨ct_X_stepsOf, fl_X_ok, (fun n v h => by cases h), lc_X_ok, q_tb_ok tv, q_cal_ok (q_nil) (q_nil) (q_cons (q_callS (k := 2) (qStOK tv) (M_J_floorMod l D cI tv) (gS kw_217 kw_200 kw_6 kw_201) rfl (by decide +kernel) ⟨by decide, by decide⟩) (q_nil)), nw_X_ok, Or.inl (by decide +kernel)⟩
def c_X_interval : q_C := [(24, [(0, .aload_n 0), (1, .getfield 20), (4, .iload_n 1), (5, .invokevirtual 44), (8, .ifCond .eq 14), (11, .aload_n 0), (12, .getfield 20), (15, .iload_n 2), (16, .invokevirtual 44), (19, .ifCond .ne 5), (22, .iconst (-1)), (23, .ireturn)]), (47, [(24, .iload_n 3), (25, .ifCond .lt 8), (28, .iload_n 3), (29, .iconst 1), (30, .if_icmp .le 6), (33, .bipush (-2)), (35, .ireturn), (36, .aload_n 0), (37, .invokevirtual 91), (40, .getfield 104), (43, .astore 4), (45, .aload 4)]), (67, [(47, .iload_n 2), (48, .iaload), (49, .aload 4), (51, .iload_n 1), (52, .iaload), (53, .isub), (54, .istore 5), (56, .iload 5), (58, .bipush (-19)), (60, .if_icmp .lt 10), (63, .iload 5), (65, .bipush 19)]), (87, [(67, .if_icmp .le 6), (70, .bipush (-3)), (72, .ireturn), (73, .iload_n 3), (74, .ifCond .ne 9), (77, .iload 5), (79, .bipush 19), (81, .iadd), (82, .ireturn), (83, .aload 4), (85, .iload_n 2), (86, .iaload)]), (110, [(87, .aload_n 0), (88, .getfield 20), (91, .getfield 58), (94, .iload_n 2), (95, .iaload), (96, .invokestatic 127), (99, .aload 4), (101, .iload_n 1), (102, .iaload), (103, .aload_n 0), (104, .getfield 20), (107, .getfield 58)]), (133, [(110, .iload_n 1), (111, .iaload), (112, .invokestatic 127), (115, .isub), (116, .istore 6), (118, .iload 6), (120, .iload 5), (122, .invokestatic 130), (125, .isub), (126, .bipush 7), (128, .invokestatic 133), (131, .bipush 12)]), (138, [(133, .iadd), (134, .ireturn)])]
theorem ct_X_interval : c_X_interval.all (fun x => x.2.all (q_dec prog_1_method_14_code)) = true := by decide +kernel
def rm_X_interval : Room := { frames := 6, cells := 0, slots := 0, locals := 144 }
def kV_X_interval (cI : ClassId) (tv : Nat) : List (Nat × (Nat × Nat × Nat × q_T)) := [(44, 2, 0, 0, q_V 0 (T_S_has cI tv)), (91, 1, 0, 0, q_V 3 (T_X_meant cI tv))]
def kI_X_interval (cI : ClassId) (tv : Nat) : List (Nat × (Nat × Nat × Nat × q_T)) := []
def kS_X_interval (cI : ClassId) (tv : Nat) : List (Nat × (Nat × Nat × Nat × q_T)) := [(127, 2, 0, 0, T_X_placeOf cI tv), (130, 1, 0, 0, T_X_stepsOf cI tv), (133, 2, 0, 0, T_J_floorDiv cI tv)]
def F_X_interval (cI : ClassId) (tv : Nat) : q_K → q_G → q_G := q_F c_X_interval (q_as fl_X) (q_as []) (q_as lc_X) (q_cal (kV_X_interval cI tv) (kI_X_interval cI tv) (kS_X_interval cI tv)) (q_as nw_X) cI (q_tb tv) 7 0 0 (some FieldType.int)
def T_X_interval (cI : ClassId) (tv : Nat) : q_T := fun as w K => (lg_sl as).length ≤ 7 ∧ q_wp (F_X_interval cI tv) as w K
theorem M_X_interval (l : Launch) (D : va_G) (cI : ClassId) (tv : Nat) : q_Met l y_X_interval (Cond.code y_X_interval prog_1_method_14_code 7 (some FieldType.int) :: aW) rm_X_interval D cls5 [(cI, .int)] (qSt tv) (T_X_interval cI tv) := q_contract (cc := prog_1_method_14_code) (nL := 7) (own := "SpellPitch") (ini := false) (by decide +kernel) rfl rfl (nofun) ⟨ct_X_interval, fl_X_ok, (fun n v h => by cases h), lc_X_ok, q_tb_ok tv, q_cal_ok (q_cons (q_callV (k := 1) (T' := tt_S) (qStOK tv) (M_S_has l D cI tv) (gV kw_222 kw_223 kw_224 kw_3 kw_225) rfl (by decide +kernel) ⟨by decide, by decide⟩ rfl) (q_cons (q_callV (k := 0) (T' := tt_X) (qStOK tv) (M_X_meant l D cI tv) (gV kw_255 kw_257 ks_1 kw_1 kw_258) rfl (by decide +kernel) ⟨by decide, by decide⟩ rfl) (q_nil))) (q_nil) (q_cons (q_callS (k := 2) (qStOK tv) (M_X_placeOf l D cI tv) (gS kw_397 kw_203 kw_1 kw_204) rfl (by decide +kernel) ⟨by decide, by decide⟩) (q_cons (q_callS (k := 1) (qStOK tv) (M_X_stepsOf l D cI tv) (gS kw_398 kw_399 kw_1 kw_400) rfl (by decide +kernel) ⟨by decide, by decide⟩) (q_cons (q_callS (k := 2) (qStOK tv) (M_J_floorDiv l D cI tv) (gS kw_211 kw_212 kw_6 kw_213) rfl (by decide +kernel) ⟨by decide, by decide⟩) (q_nil)))), nw_X_ok, Or.inl (by decide +kernel)⟩
def c_X_isInterval : q_C := [(19, [(0, .iload_n 0), (1, .ifCond .lt 13), (4, .iload_n 0), (5, .bipush 38), (7, .if_icmp .gt 7), (10, .iconst 1), (11, .goto 4), (14, .iconst 0), (15, .ireturn)])]
theorem ct_X_isInterval : c_X_isInterval.all (fun x => x.2.all (q_dec prog_1_method_24_code)) = true := by decide +kernel
def rm_X_isInterval : Room := { frames := 0, cells := 0, slots := 0, locals := 0 }
def kV_X_isInterval (cI : ClassId) (tv : Nat) : List (Nat × (Nat × Nat × Nat × q_T)) := []
def kI_X_isInterval (cI : ClassId) (tv : Nat) : List (Nat × (Nat × Nat × Nat × q_T)) := []
def kS_X_isInterval (cI : ClassId) (tv : Nat) : List (Nat × (Nat × Nat × Nat × q_T)) := []
def F_X_isInterval (cI : ClassId) (tv : Nat) : q_K → q_G → q_G := q_F c_X_isInterval (q_as fl_X) (q_as []) (q_as lc_X) (q_cal (kV_X_isInterval cI tv) (kI_X_isInterval cI tv) (kS_X_isInterval cI tv)) (q_as nw_X) cI (q_tb tv) 1 0 0 (some FieldType.boolean)
def T_X_isInterval (cI : ClassId) (tv : Nat) : q_T := fun as w K => (lg_sl as).length ≤ 1 ∧ q_wp (F_X_isInterval cI tv) as w K
theorem M_X_isInterval (l : Launch) (D : va_G) (cI : ClassId) (tv : Nat) : q_Met l y_X_isInterval (Cond.code y_X_isInterval prog_1_method_24_code 1 (some FieldType.boolean) :: aW) rm_X_isInterval D cls5 [(cI, .int)] (qSt tv) (T_X_isInterval cI tv) := q_contract (cc := prog_1_method_24_code) (nL := 1) (own := "SpellPitch") (ini := false) (by decide +kernel) rfl rfl (nofun) ⟨ct_X_isInterval, fl_X_ok, (fun n v h => by cases h), lc_X_ok, q_tb_ok tv, q_cal_ok (q_nil) (q_nil) (q_nil), nw_X_ok, Or.inl (by decide +kernel)⟩
def c_X_halvesOf : q_C := [(20, [(0, .bipush 7), (2, .iload_n 0), (3, .imul), (4, .bipush 12), (6, .iconst 4), (7, .iload_n 0), (8, .imul), (9, .bipush 7), (11, .invokestatic 133), (14, .imul), (15, .isub), (16, .ireturn)])]
theorem ct_X_halvesOf : c_X_halvesOf.all (fun x => x.2.all (q_dec prog_1_method_33_code)) = true := by decide +kernel
def rm_X_halvesOf : Room := { frames := 1, cells := 0, slots := 0, locals := 22 }
def kV_X_halvesOf (cI : ClassId) (tv : Nat) : List (Nat × (Nat × Nat × Nat × q_T)) := []
def kI_X_halvesOf (cI : ClassId) (tv : Nat) : List (Nat × (Nat × Nat × Nat × q_T)) := []
def kS_X_halvesOf (cI : ClassId) (tv : Nat) : List (Nat × (Nat × Nat × Nat × q_T)) := [(133, 2, 0, 0, T_J_floorDiv cI tv)]
def F_X_halvesOf (cI : ClassId) (tv : Nat) : q_K → q_G → q_G := q_F c_X_halvesOf (q_as fl_X) (q_as []) (q_as lc_X) (q_cal (kV_X_halvesOf cI tv) (kI_X_halvesOf cI tv) (kS_X_halvesOf cI tv)) (q_as nw_X) cI (q_tb tv) 1 0 0 (some FieldType.int)
def T_X_halvesOf (cI : ClassId) (tv : Nat) : q_T := fun as w K => (lg_sl as).length ≤ 1 ∧ q_wp (F_X_halvesOf cI tv) as w K
theorem M_X_halvesOf (l : Launch) (D : va_G) (cI : ClassId) (tv : Nat) : q_Met l y_X_halvesOf (Cond.code y_X_halvesOf prog_1_method_33_code 1 (some FieldType.int) :: aW) rm_X_halvesOf D cls5 [(cI, .int)] (qSt tv) (T_X_halvesOf cI tv) := q_contract (cc := prog_1_method_33_code) (nL := 1) (own := "SpellPitch") (ini := false) (by decide +kernel) rfl rfl (nofun) ⟨ct_X_halvesOf, fl_X_ok, (fun n v h => by cases h), lc_X_ok, q_tb_ok tv, q_cal_ok (q_nil) (q_nil) (q_cons (q_callS (k := 2) (qStOK tv) (M_J_floorDiv l D cI tv) (gS kw_211 kw_212 kw_6 kw_213) rfl (by decide +kernel) ⟨by decide, by decide⟩) (q_nil)), nw_X_ok, Or.inl (by decide +kernel)⟩
def c_X_sortOf : q_C := [(18, [(0, .iload_n 0), (1, .invokestatic 160), (4, .istore_n 1), (5, .iload_n 1), (6, .iconst 1), (7, .if_icmp .gt 5), (10, .iconst 0), (11, .ireturn), (12, .iload_n 1), (13, .iconst 5), (14, .if_icmp .gt 7), (17, .iconst 1)]), (41, [(18, .goto 14), (21, .iload_n 1), (22, .bipush 12), (24, .if_icmp .gt 7), (27, .iconst 3), (28, .goto 4), (31, .iconst 5), (32, .istore_n 2), (33, .iload_n 0), (34, .ifCond .le 7), (37, .iload_n 2), (38, .goto 6)]), (48, [(41, .iload_n 2), (42, .iconst 1), (43, .iadd), (44, .ireturn)])]
theorem ct_X_sortOf : c_X_sortOf.all (fun x => x.2.all (q_dec prog_1_method_34_code)) = true := by decide +kernel
def rm_X_sortOf : Room := { frames := 1, cells := 0, slots := 0, locals := 20 }
def kV_X_sortOf (cI : ClassId) (tv : Nat) : List (Nat × (Nat × Nat × Nat × q_T)) := []
def kI_X_sortOf (cI : ClassId) (tv : Nat) : List (Nat × (Nat × Nat × Nat × q_T)) := []
def kS_X_sortOf (cI : ClassId) (tv : Nat) : List (Nat × (Nat × Nat × Nat × q_T)) := [(160, 1, 0, 0, T_J_abs cI tv)]
def F_X_sortOf (cI : ClassId) (tv : Nat) : q_K → q_G → q_G := q_F c_X_sortOf (q_as fl_X) (q_as []) (q_as lc_X) (q_cal (kV_X_sortOf cI tv) (kI_X_sortOf cI tv) (kS_X_sortOf cI tv)) (q_as nw_X) cI (q_tb tv) 3 0 0 (some FieldType.int)
def T_X_sortOf (cI : ClassId) (tv : Nat) : q_T := fun as w K => (lg_sl as).length ≤ 3 ∧ q_wp (F_X_sortOf cI tv) as w K
theorem M_X_sortOf (l : Launch) (D : va_G) (cI : ClassId) (tv : Nat) : q_Met l y_X_sortOf (Cond.code y_X_sortOf prog_1_method_34_code 3 (some FieldType.int) :: aW) rm_X_sortOf D cls5 [(cI, .int)] (qSt tv) (T_X_sortOf cI tv) := q_contract (cc := prog_1_method_34_code) (nL := 3) (own := "SpellPitch") (ini := false) (by decide +kernel) rfl rfl (nofun) ⟨ct_X_sortOf, fl_X_ok, (fun n v h => by cases h), lc_X_ok, q_tb_ok tv, q_cal_ok (q_nil) (q_nil) (q_cons (q_callS (k := 1) (qStOK tv) (M_J_abs l D cI tv) (gS kw_280 kw_281 kw_6 kw_282) rfl (by decide +kernel) ⟨by decide, by decide⟩) (q_nil)), nw_X_ok, Or.inl (by decide +kernel)⟩
def c_X_quality : q_C := [(22, [(0, .iload_n 1), (1, .invokestatic 138), (4, .ifCond .eq 12), (7, .iload_n 2), (8, .ifCond .lt 8), (11, .iload_n 2), (12, .iconst 2), (13, .if_icmp .le 6), (16, .bipush (-2)), (18, .ireturn), (19, .iload_n 1), (20, .bipush 19)]), (64, [(22, .isub), (23, .istore_n 3), (24, .iload_n 2), (25, .lookupswitch 39 #[(0, 27), (1, 32)]), (52, .iload_n 3), (53, .invokestatic 130), (56, .ireturn), (57, .iload_n 3), (58, .invokestatic 141), (61, .iconst 2), (62, .iadd), (63, .ireturn)]), (72, [(64, .iload_n 3), (65, .invokestatic 144), (68, .ireturn)])]
theorem ct_X_quality : c_X_quality.all (fun x => x.2.all (q_dec prog_1_method_15_code)) = true := by decide +kernel
def rm_X_quality : Room := { frames := 2, cells := 0, slots := 0, locals := 42 }
def kV_X_quality (cI : ClassId) (tv : Nat) : List (Nat × (Nat × Nat × Nat × q_T)) := []
def kI_X_quality (cI : ClassId) (tv : Nat) : List (Nat × (Nat × Nat × Nat × q_T)) := []
def kS_X_quality (cI : ClassId) (tv : Nat) : List (Nat × (Nat × Nat × Nat × q_T)) := [(138, 1, 0, 0, T_X_isInterval cI tv), (130, 1, 0, 0, T_X_stepsOf cI tv), (141, 1, 0, 0, T_X_halvesOf cI tv), (144, 1, 0, 0, T_X_sortOf cI tv)]
def F_X_quality (cI : ClassId) (tv : Nat) : q_K → q_G → q_G := q_F c_X_quality (q_as fl_X) (q_as []) (q_as lc_X) (q_cal (kV_X_quality cI tv) (kI_X_quality cI tv) (kS_X_quality cI tv)) (q_as nw_X) cI (q_tb tv) 4 0 0 (some FieldType.int)
def T_X_quality (cI : ClassId) (tv : Nat) : q_T := fun as w K => (lg_sl as).length ≤ 4 ∧ q_wp (F_X_quality cI tv) as w K
theorem M_X_quality (l : Launch) (D : va_G) (cI : ClassId) (tv : Nat) : q_Met l y_X_quality (Cond.code y_X_quality prog_1_method_15_code 4 (some FieldType.int) :: aW) rm_X_quality D cls5 [(cI, .int)] (qSt tv) (T_X_quality cI tv) := q_contract (cc := prog_1_method_15_code) (nL := 4) (own := "SpellPitch") (ini := false) (by decide +kernel) rfl rfl (nofun) ⟨ct_X_quality, fl_X_ok, (fun n v h => by cases h), lc_X_ok, q_tb_ok tv, q_cal_ok (q_nil) (q_nil) (q_cons (q_callS (k := 1) (qStOK tv) (M_X_isInterval l D cI tv) (gS kw_405 kw_406 kw_1 kw_407) rfl (by decide +kernel) ⟨by decide, by decide⟩) (q_cons (q_callS (k := 1) (qStOK tv) (M_X_stepsOf l D cI tv) (gS kw_398 kw_399 kw_1 kw_400) rfl (by decide +kernel) ⟨by decide, by decide⟩) (q_cons (q_callS (k := 1) (qStOK tv) (M_X_halvesOf l D cI tv) (gS kw_408 kw_409 kw_1 kw_410) rfl (by decide +kernel) ⟨by decide, by decide⟩) (q_cons (q_callS (k := 1) (qStOK tv) (M_X_sortOf l D cI tv) (gS kw_411 kw_412 kw_1 kw_413) rfl (by decide +kernel) ⟨by decide, by decide⟩) (q_nil))))), nw_X_ok, Or.inl (by decide +kernel)⟩
def c_X_add : q_C := [(22, [(0, .iload_n 1), (1, .invokestatic 138), (4, .ifCond .eq 10), (7, .iload_n 2), (8, .invokestatic 138), (11, .ifCond .ne 6), (14, .bipush (-2)), (16, .ireturn), (17, .iload_n 1), (18, .iload_n 2), (19, .iadd), (20, .bipush 19)]), (41, [(22, .isub), (23, .istore_n 3), (24, .iload_n 3), (25, .invokestatic 138), (28, .ifCond .eq 7), (31, .iload_n 3), (32, .goto 5), (35, .bipush (-3)), (37, .ireturn)])]
theorem ct_X_add : c_X_add.all (fun x => x.2.all (q_dec prog_1_method_16_code)) = true := by decide +kernel
def rm_X_add : Room := { frames := 1, cells := 0, slots := 0, locals := 20 }
def kV_X_add (cI : ClassId) (tv : Nat) : List (Nat × (Nat × Nat × Nat × q_T)) := []
def kI_X_add (cI : ClassId) (tv : Nat) : List (Nat × (Nat × Nat × Nat × q_T)) := []
def kS_X_add (cI : ClassId) (tv : Nat) : List (Nat × (Nat × Nat × Nat × q_T)) := [(138, 1, 0, 0, T_X_isInterval cI tv)]
def F_X_add (cI : ClassId) (tv : Nat) : q_K → q_G → q_G := q_F c_X_add (q_as fl_X) (q_as []) (q_as lc_X) (q_cal (kV_X_add cI tv) (kI_X_add cI tv) (kS_X_add cI tv)) (q_as nw_X) cI (q_tb tv) 4 0 0 (some FieldType.int)
def T_X_add (cI : ClassId) (tv : Nat) : q_T := fun as w K => (lg_sl as).length ≤ 4 ∧ q_wp (F_X_add cI tv) as w K
theorem M_X_add (l : Launch) (D : va_G) (cI : ClassId) (tv : Nat) : q_Met l y_X_add (Cond.code y_X_add prog_1_method_16_code 4 (some FieldType.int) :: aW) rm_X_add D cls5 [(cI, .int)] (qSt tv) (T_X_add cI tv) := q_contract (cc := prog_1_method_16_code) (nL := 4) (own := "SpellPitch") (ini := false) (by decide +kernel) rfl rfl (nofun) ⟨ct_X_add, fl_X_ok, (fun n v h => by cases h), lc_X_ok, q_tb_ok tv, q_cal_ok (q_nil) (q_nil) (q_cons (q_callS (k := 1) (qStOK tv) (M_X_isInterval l D cI tv) (gS kw_405 kw_406 kw_1 kw_407) rfl (by decide +kernel) ⟨by decide, by decide⟩) (q_nil)), nw_X_ok, Or.inl (by decide +kernel)⟩
def c_X_transpose : q_C := [(24, [(0, .aload_n 0), (1, .getfield 20), (4, .iload_n 1), (5, .invokevirtual 44), (8, .ifCond .ne 5), (11, .iconst (-1)), (12, .ireturn), (13, .iload_n 2), (14, .invokestatic 138), (17, .ifCond .eq 12), (20, .iload_n 3), (21, .ifCond .lt 8)]), (45, [(24, .iload_n 3), (25, .iconst 1), (26, .if_icmp .le 6), (29, .bipush (-2)), (31, .ireturn), (32, .iload_n 2), (33, .bipush 19), (35, .isub), (36, .istore 4), (38, .aload_n 0), (39, .invokevirtual 91), (42, .getfield 104)]), (66, [(45, .iload_n 1), (46, .iaload), (47, .iload 4), (49, .iadd), (50, .istore 5), (52, .aload_n 0), (53, .getfield 20), (56, .getfield 58), (59, .iload_n 1), (60, .iaload), (61, .iload 4), (63, .invokestatic 141)]), (93, [(66, .iadd), (67, .istore 6), (69, .iload 5), (71, .invokestatic 55), (74, .ifCond .eq 16), (77, .iload 6), (79, .ifCond .lt 11), (82, .iload 6), (84, .sipush 128), (87, .if_icmp .lt 6), (90, .bipush (-3)), (92, .ireturn)]), (108, [(93, .iload_n 3), (94, .ifCond .ne 8), (97, .iload 5), (99, .goto 5), (102, .iload 6), (104, .ireturn)])]
theorem ct_X_transpose : c_X_transpose.all (fun x => x.2.all (q_dec prog_1_method_17_code)) = true := by decide +kernel
def rm_X_transpose : Room := { frames := 6, cells := 0, slots := 0, locals := 144 }
def kV_X_transpose (cI : ClassId) (tv : Nat) : List (Nat × (Nat × Nat × Nat × q_T)) := [(44, 2, 0, 0, q_V 0 (T_S_has cI tv)), (91, 1, 0, 0, q_V 3 (T_X_meant cI tv))]
def kI_X_transpose (cI : ClassId) (tv : Nat) : List (Nat × (Nat × Nat × Nat × q_T)) := []
def kS_X_transpose (cI : ClassId) (tv : Nat) : List (Nat × (Nat × Nat × Nat × q_T)) := [(138, 1, 0, 0, T_X_isInterval cI tv), (141, 1, 0, 0, T_X_halvesOf cI tv), (55, 1, 0, 0, T_X_isName cI tv)]
def F_X_transpose (cI : ClassId) (tv : Nat) : q_K → q_G → q_G := q_F c_X_transpose (q_as fl_X) (q_as []) (q_as lc_X) (q_cal (kV_X_transpose cI tv) (kI_X_transpose cI tv) (kS_X_transpose cI tv)) (q_as nw_X) cI (q_tb tv) 7 0 0 (some FieldType.int)
def T_X_transpose (cI : ClassId) (tv : Nat) : q_T := fun as w K => (lg_sl as).length ≤ 7 ∧ q_wp (F_X_transpose cI tv) as w K
theorem M_X_transpose (l : Launch) (D : va_G) (cI : ClassId) (tv : Nat) : q_Met l y_X_transpose (Cond.code y_X_transpose prog_1_method_17_code 7 (some FieldType.int) :: aW) rm_X_transpose D cls5 [(cI, .int)] (qSt tv) (T_X_transpose cI tv) := q_contract (cc := prog_1_method_17_code) (nL := 7) (own := "SpellPitch") (ini := false) (by decide +kernel) rfl rfl (nofun) ⟨ct_X_transpose, fl_X_ok, (fun n v h => by cases h), lc_X_ok, q_tb_ok tv, q_cal_ok (q_cons (q_callV (k := 1) (T' := tt_S) (qStOK tv) (M_S_has l D cI tv) (gV kw_222 kw_223 kw_224 kw_3 kw_225) rfl (by decide +kernel) ⟨by decide, by decide⟩ rfl) (q_cons (q_callV (k := 0) (T' := tt_X) (qStOK tv) (M_X_meant l D cI tv) (gV kw_255 kw_257 ks_1 kw_1 kw_258) rfl (by decide +kernel) ⟨by decide, by decide⟩ rfl) (q_nil))) (q_nil) (q_cons (q_callS (k := 1) (qStOK tv) (M_X_isInterval l D cI tv) (gS kw_405 kw_406 kw_1 kw_407) rfl (by decide +kernel) ⟨by decide, by decide⟩) (q_cons (q_callS (k := 1) (qStOK tv) (M_X_halvesOf l D cI tv) (gS kw_408 kw_409 kw_1 kw_410) rfl (by decide +kernel) ⟨by decide, by decide⟩) (q_cons (q_callS (k := 1) (qStOK tv) (M_X_isName l D cI tv) (gS kw_230 kw_231 kw_1 kw_232) rfl (by decide +kernel) ⟨by decide, by decide⟩) (q_nil)))), nw_X_ok, Or.inl (by decide +kernel)⟩
def c_X_micro : q_C := [(22, [(0, .aload_n 0), (1, .getfield 20), (4, .iload_n 1), (5, .invokevirtual 44), (8, .ifCond .ne 5), (11, .iconst (-1)), (12, .ireturn), (13, .iload_n 2), (14, .bipush (-6)), (16, .if_icmp .lt 19), (19, .iload_n 2), (20, .bipush 6)]), (44, [(22, .if_icmp .gt 13), (25, .iload_n 3), (26, .iconst 2), (27, .if_icmp .eq 11), (30, .iload_n 3), (31, .iconst 3), (32, .if_icmp .eq 6), (35, .bipush (-2)), (37, .ireturn), (38, .bipush 6), (40, .aload_n 0), (41, .invokevirtual 91)]), (63, [(44, .getfield 104), (47, .iload_n 1), (48, .iaload), (49, .invokestatic 111), (52, .imul), (53, .iload_n 2), (54, .iadd), (55, .istore 4), (57, .bipush 9), (59, .iload_n 3), (60, .iconst 2), (61, .iload 4)]), (76, [(63, .imul), (64, .isub), (65, .iconst 2), (66, .iload_n 3), (67, .imul), (68, .invokestatic 133), (71, .isub), (72, .ireturn)])]
theorem ct_X_micro : c_X_micro.all (fun x => x.2.all (q_dec prog_1_method_18_code)) = true := by decide +kernel
def rm_X_micro : Room := { frames := 6, cells := 0, slots := 0, locals := 144 }
def kV_X_micro (cI : ClassId) (tv : Nat) : List (Nat × (Nat × Nat × Nat × q_T)) := [(44, 2, 0, 0, q_V 0 (T_S_has cI tv)), (91, 1, 0, 0, q_V 3 (T_X_meant cI tv))]
def kI_X_micro (cI : ClassId) (tv : Nat) : List (Nat × (Nat × Nat × Nat × q_T)) := []
def kS_X_micro (cI : ClassId) (tv : Nat) : List (Nat × (Nat × Nat × Nat × q_T)) := [(111, 1, 0, 0, T_X_signsOf cI tv), (133, 2, 0, 0, T_J_floorDiv cI tv)]
def F_X_micro (cI : ClassId) (tv : Nat) : q_K → q_G → q_G := q_F c_X_micro (q_as fl_X) (q_as []) (q_as lc_X) (q_cal (kV_X_micro cI tv) (kI_X_micro cI tv) (kS_X_micro cI tv)) (q_as nw_X) cI (q_tb tv) 5 0 0 (some FieldType.int)
def T_X_micro (cI : ClassId) (tv : Nat) : q_T := fun as w K => (lg_sl as).length ≤ 5 ∧ q_wp (F_X_micro cI tv) as w K
theorem M_X_micro (l : Launch) (D : va_G) (cI : ClassId) (tv : Nat) : q_Met l y_X_micro (Cond.code y_X_micro prog_1_method_18_code 5 (some FieldType.int) :: aW) rm_X_micro D cls5 [(cI, .int)] (qSt tv) (T_X_micro cI tv) := q_contract (cc := prog_1_method_18_code) (nL := 5) (own := "SpellPitch") (ini := false) (by decide +kernel) rfl rfl (nofun) ⟨ct_X_micro, fl_X_ok, (fun n v h => by cases h), lc_X_ok, q_tb_ok tv, q_cal_ok (q_cons (q_callV (k := 1) (T' := tt_S) (qStOK tv) (M_S_has l D cI tv) (gV kw_222 kw_223 kw_224 kw_3 kw_225) rfl (by decide +kernel) ⟨by decide, by decide⟩ rfl) (q_cons (q_callV (k := 0) (T' := tt_X) (qStOK tv) (M_X_meant l D cI tv) (gV kw_255 kw_257 ks_1 kw_1 kw_258) rfl (by decide +kernel) ⟨by decide, by decide⟩ rfl) (q_nil))) (q_nil) (q_cons (q_callS (k := 1) (qStOK tv) (M_X_signsOf l D cI tv) (gS kw_208 kw_209 kw_1 kw_210) rfl (by decide +kernel) ⟨by decide, by decide⟩) (q_cons (q_callS (k := 2) (qStOK tv) (M_J_floorDiv l D cI tv) (gS kw_211 kw_212 kw_6 kw_213) rfl (by decide +kernel) ⟨by decide, by decide⟩) (q_nil))), nw_X_ok, Or.inl (by decide +kernel)⟩
def c_X_step : q_C := [(23, [(0, .iload_n 2), (1, .ifCond .ne 13), (4, .new 147), (7, .dup), (8, .ldc 149), (10, .invokespecial 151), (13, .athrow), (14, .iload_n 1), (15, .iload_n 2), (16, .invokestatic 154), (19, .ireturn)])]
theorem ct_X_step : c_X_step.all (fun x => x.2.all (q_dec prog_1_method_19_code)) = true := by decide +kernel
def rm_X_step : Room := { frames := 1, cells := 0, slots := 0, locals := 22 }
def kV_X_step (cI : ClassId) (tv : Nat) : List (Nat × (Nat × Nat × Nat × q_T)) := []
def kI_X_step (cI : ClassId) (tv : Nat) : List (Nat × (Nat × Nat × Nat × q_T)) := []
def kS_X_step (cI : ClassId) (tv : Nat) : List (Nat × (Nat × Nat × Nat × q_T)) := [(154, 2, 0, 0, T_J_floorMod cI tv)]
def F_X_step (cI : ClassId) (tv : Nat) : q_K → q_G → q_G := q_F c_X_step (q_as fl_X) (q_as []) (q_as lc_X) (q_cal (kV_X_step cI tv) (kI_X_step cI tv) (kS_X_step cI tv)) (q_as nw_X) cI (q_tb tv) 3 0 0 (some FieldType.int)
def T_X_step (cI : ClassId) (tv : Nat) : q_T := fun as w K => (lg_sl as).length ≤ 3 ∧ q_wp (F_X_step cI tv) as w K
theorem M_X_step (l : Launch) (D : va_G) (cI : ClassId) (tv : Nat) : q_Met l y_X_step (Cond.code y_X_step prog_1_method_19_code 3 (some FieldType.int) :: aW) rm_X_step D cls5 [(cI, .int)] (qSt tv) (T_X_step cI tv) := q_contract (cc := prog_1_method_19_code) (nL := 3) (own := "SpellPitch") (ini := false) (by decide +kernel) rfl rfl (nofun) ⟨ct_X_step, fl_X_ok, (fun n v h => by cases h), lc_X_ok, q_tb_ok tv, q_cal_ok (q_nil) (q_nil) (q_cons (q_callS (k := 2) (qStOK tv) (M_J_floorMod l D cI tv) (gS kw_217 kw_200 kw_6 kw_201) rfl (by decide +kernel) ⟨by decide, by decide⟩) (q_nil)), nw_X_ok, Or.inl (by decide +kernel)⟩
def c_X_equal : q_C := [(23, [(0, .iload_n 1), (1, .invokestatic 55), (4, .ifCond .eq 10), (7, .iload_n 2), (8, .invokestatic 55), (11, .ifCond .ne 6), (14, .bipush (-2)), (16, .ireturn), (17, .iload_n 1), (18, .iload_n 2), (19, .if_icmp .ne 5), (22, .iconst 2)]), (42, [(23, .ireturn), (24, .iload_n 1), (25, .iload_n 2), (26, .isub), (27, .bipush 12), (29, .irem), (30, .ifCond .ne 7), (33, .iconst 1), (34, .goto 4), (37, .iconst 0), (38, .ireturn)])]
theorem ct_X_equal : c_X_equal.all (fun x => x.2.all (q_dec prog_1_method_20_code)) = true := by decide +kernel
def rm_X_equal : Room := { frames := 1, cells := 0, slots := 0, locals := 20 }
def kV_X_equal (cI : ClassId) (tv : Nat) : List (Nat × (Nat × Nat × Nat × q_T)) := []
def kI_X_equal (cI : ClassId) (tv : Nat) : List (Nat × (Nat × Nat × Nat × q_T)) := []
def kS_X_equal (cI : ClassId) (tv : Nat) : List (Nat × (Nat × Nat × Nat × q_T)) := [(55, 1, 0, 0, T_X_isName cI tv)]
def F_X_equal (cI : ClassId) (tv : Nat) : q_K → q_G → q_G := q_F c_X_equal (q_as fl_X) (q_as []) (q_as lc_X) (q_cal (kV_X_equal cI tv) (kI_X_equal cI tv) (kS_X_equal cI tv)) (q_as nw_X) cI (q_tb tv) 3 0 0 (some FieldType.int)
def T_X_equal (cI : ClassId) (tv : Nat) : q_T := fun as w K => (lg_sl as).length ≤ 3 ∧ q_wp (F_X_equal cI tv) as w K
theorem M_X_equal (l : Launch) (D : va_G) (cI : ClassId) (tv : Nat) : q_Met l y_X_equal (Cond.code y_X_equal prog_1_method_20_code 3 (some FieldType.int) :: aW) rm_X_equal D cls5 [(cI, .int)] (qSt tv) (T_X_equal cI tv) := q_contract (cc := prog_1_method_20_code) (nL := 3) (own := "SpellPitch") (ini := false) (by decide +kernel) rfl rfl (nofun) ⟨ct_X_equal, fl_X_ok, (fun n v h => by cases h), lc_X_ok, q_tb_ok tv, q_cal_ok (q_nil) (q_nil) (q_cons (q_callS (k := 1) (qStOK tv) (M_X_isName l D cI tv) (gS kw_230 kw_231 kw_1 kw_232) rfl (by decide +kernel) ⟨by decide, by decide⟩) (q_nil)), nw_X_ok, Or.inl (by decide +kernel)⟩
def c_X_scale : q_C := [(23, [(0, .iload_n 1), (1, .ifCond .lt 19), (4, .iload_n 1), (5, .bipush 15), (7, .if_icmp .ge 13), (10, .iload_n 2), (11, .ifCond .lt 9), (14, .iload_n 2), (15, .bipush 7), (17, .if_icmp .lt 6), (20, .bipush (-2)), (22, .ireturn)]), (39, [(23, .iload_n 1), (24, .bipush 7), (26, .iadd), (27, .istore_n 3), (28, .iload_n 3), (29, .iconst 2), (30, .iload_n 2), (31, .iload_n 3), (32, .invokestatic 107), (35, .isub), (36, .imul), (37, .bipush 7)]), (56, [(39, .invokestatic 154), (42, .iadd), (43, .istore 4), (45, .iload 4), (47, .invokestatic 111), (50, .iconst 2), (51, .iadd), (52, .ireturn)])]
theorem ct_X_scale : c_X_scale.all (fun x => x.2.all (q_dec prog_1_method_21_code)) = true := by decide +kernel
def rm_X_scale : Room := { frames := 2, cells := 0, slots := 0, locals := 42 }
def kV_X_scale (cI : ClassId) (tv : Nat) : List (Nat × (Nat × Nat × Nat × q_T)) := []
def kI_X_scale (cI : ClassId) (tv : Nat) : List (Nat × (Nat × Nat × Nat × q_T)) := []
def kS_X_scale (cI : ClassId) (tv : Nat) : List (Nat × (Nat × Nat × Nat × q_T)) := [(107, 1, 0, 0, T_X_letterOf cI tv), (154, 2, 0, 0, T_J_floorMod cI tv), (111, 1, 0, 0, T_X_signsOf cI tv)]
def F_X_scale (cI : ClassId) (tv : Nat) : q_K → q_G → q_G := q_F c_X_scale (q_as fl_X) (q_as []) (q_as lc_X) (q_cal (kV_X_scale cI tv) (kI_X_scale cI tv) (kS_X_scale cI tv)) (q_as nw_X) cI (q_tb tv) 5 0 0 (some FieldType.int)
def T_X_scale (cI : ClassId) (tv : Nat) : q_T := fun as w K => (lg_sl as).length ≤ 5 ∧ q_wp (F_X_scale cI tv) as w K
theorem M_X_scale (l : Launch) (D : va_G) (cI : ClassId) (tv : Nat) : q_Met l y_X_scale (Cond.code y_X_scale prog_1_method_21_code 5 (some FieldType.int) :: aW) rm_X_scale D cls5 [(cI, .int)] (qSt tv) (T_X_scale cI tv) := q_contract (cc := prog_1_method_21_code) (nL := 5) (own := "SpellPitch") (ini := false) (by decide +kernel) rfl rfl (nofun) ⟨ct_X_scale, fl_X_ok, (fun n v h => by cases h), lc_X_ok, q_tb_ok tv, q_cal_ok (q_nil) (q_nil) (q_cons (q_callS (k := 1) (qStOK tv) (M_X_letterOf l D cI tv) (gS kw_214 kw_215 kw_1 kw_216) rfl (by decide +kernel) ⟨by decide, by decide⟩) (q_cons (q_callS (k := 2) (qStOK tv) (M_J_floorMod l D cI tv) (gS kw_217 kw_200 kw_6 kw_201) rfl (by decide +kernel) ⟨by decide, by decide⟩) (q_cons (q_callS (k := 1) (qStOK tv) (M_X_signsOf l D cI tv) (gS kw_208 kw_209 kw_1 kw_210) rfl (by decide +kernel) ⟨by decide, by decide⟩) (q_nil)))), nw_X_ok, Or.inl (by decide +kernel)⟩
end
section
def q_uf (F : Nat → Int32) (k : Nat) (v : Int32) : Nat → Int32 := fun j => cond (Nat.beq j k) v (F j)
def q_ua (A : Nat → Nat → Int32) (k : Nat) (f : Nat → Int32) : Nat → Nat → Int32 := fun j => cond (Nat.beq j k) f (A j)
theorem q_le0 (a b : Nat) (h : Nat.ble a b = true) : a ≤ b := Nat.le_of_ble_eq_true h
def wX (cI : ClassId) (ad : Nat → Nat) (F : Nat → Int32) (A : Nat → Nat → Int32) : va_W := [(ad 0, .inr (3, [.ref (ad 1), .ref (ad 2), .ref (ad 3), .int (F 0)])), (ad 1, .inr (0, [.ref (ad 4), .ref (ad 5), .ref (ad 6), .ref (ad 7), .ref (ad 8), .ref (ad 9), .ref (ad 10), .ref (ad 11), .int (F 1), .int (F 2)])), (ad 2, .inr (2, [.int (F 3), .int (F 4), .int (F 5), .int (F 6), .int (F 7)])), (ad 3, .inr (1, [.ref (ad 12), .ref (ad 13), .int (F 8), .int (F 9), .int (F 10), .ref (ad 1), .ref (ad 2), .ref (ad 14), .ref (ad 15), .ref (ad 16), .ref (ad 17), .ref (ad 18), .ref (ad 19), .ref (ad 20), .ref (ad 21), .ref (ad 22), .ref (ad 23), .int (F 11)])), (ad 4, .inl (cI, 18, .inl (A 4))), (ad 5, .inl (cI, 18, .inl (A 5))), (ad 6, .inl (cI, 18, .inl (A 6))), (ad 7, .inl (cI, 18, .inl (A 7))), (ad 8, .inl (cI, 18, .inl (A 8))), (ad 9, .inl (cI, 18, .inl (A 9))), (ad 10, .inl (cI, 54, .inl (A 10))), (ad 11, .inl (cI, 54, .inl (A 11))), (ad 12, .inl (cI, 18, .inl (A 12))), (ad 13, .inl (cI, 18, .inl (A 13))), (ad 14, .inl (cI, 2430, .inl (A 14))), (ad 15, .inl (cI, 18, .inl (A 15))), (ad 16, .inl (cI, 405, .inl (A 16))), (ad 17, .inl (cI, 405, .inl (A 17))), (ad 18, .inl (cI, 405, .inl (A 18))), (ad 19, .inl (cI, 15, .inl (A 19))), (ad 20, .inl (cI, 15, .inl (A 20))), (ad 21, .inl (cI, 225, .inl (A 21))), (ad 22, .inl (cI, 27, .inl (A 22))), (ad 23, .inl (cI, 3, .inl (A 23)))]
def wM (cI : ClassId) (ad : Nat → Nat) (F : Nat → Int32) (A : Nat → Nat → Int32) : va_W := [(ad 0, .inr (4, [.int (F 0), .int (F 1), .int (F 2), .ref (ad 1), .ref (ad 2), .ref (ad 3), .ref (ad 4), .ref (ad 5), .ref (ad 6), .int (F 3), .int (F 4), .int (F 5), .int (F 6), .int (F 7), .int (F 8), .int (F 9), .ref (ad 7), .ref (ad 8), .ref (ad 9), .int (F 10), .ref (ad 10), .ref (ad 11), .ref (ad 12), .ref (ad 13), .ref (ad 14), .ref (ad 15), .ref (ad 16), .ref (ad 17), .ref (ad 18), .ref (ad 19), .ref (ad 20), .int (F 11), .int (F 12), .int (F 13)])), (ad 1, .inl (cI, 18, .inl (A 1))), (ad 2, .inl (cI, 18, .inl (A 2))), (ad 3, .inl (cI, 18, .inl (A 3))), (ad 4, .inl (cI, 18, .inl (A 4))), (ad 5, .inl (cI, 18, .inl (A 5))), (ad 6, .inl (cI, 18, .inl (A 6))), (ad 7, .inl (cI, 81, .inl (A 7))), (ad 8, .inl (cI, 81, .inl (A 8))), (ad 9, .inl (cI, 729, .inl (A 9))), (ad 10, .inl (cI, 405, .inl (A 10))), (ad 11, .inl (cI, 405, .inl (A 11))), (ad 12, .inl (cI, 405, .inl (A 12))), (ad 13, .inl (cI, 405, .inl (A 13))), (ad 14, .inl (cI, 405, .inl (A 14))), (ad 15, .inl (cI, 405, .inl (A 15))), (ad 16, .inl (cI, 405, .inl (A 16))), (ad 17, .inl (cI, 405, .inl (A 17))), (ad 18, .inl (cI, 7290, .inl (A 18))), (ad 19, .inl (cI, 18, .inl (A 19))), (ad 20, .inl (cI, 18, .inl (A 20)))]
def jf_J_floorMod (x0 x1 : Int32) : Int32 := (if 0 ≤ (x0 ^^^ x1) then x0 - x0 / x1 * x1 else (if (x0 - x0 / x1 * x1) = 0 then x0 - x0 / x1 * x1 else (x0 - x0 / x1 * x1) + x1))
theorem sg_J_floorMod_0 {cI : ClassId} {tv : Nat} {K : q_K} {G : q_G} (hG : q_Cl (F_J_floorMod cI tv K) G) (w : va_W) (x0 x1 : Int32) (h : ¬ x1 = 0 ∧ ((0 ≤ (x0 ^^^ x1) → K (some (.int (x0 - x0 / x1 * x1))) w) ∧ (¬ 0 ≤ (x0 ^^^ x1) → (((x0 - x0 / x1 * x1) = 0 → K (some (.int (x0 - x0 / x1 * x1))) w) ∧ (¬ (x0 - x0 / x1 * x1) = 0 → K (some (.int ((x0 - x0 / x1 * x1) + x1))) w))))) : G 0 [(0, .int x0), (1, .int x1)] [] w 0 0 := hG.1 0 [(0, .int x0), (1, .int x1)] [] w 0 0 (hG.1 1 [(0, .int x0), (1, .int x1)] [.int x0] w 0 0 (hG.1 2 [(0, .int x0), (1, .int x1)] [.int x1, .int x0] w 0 0 (And.intro h.1 (hG.1 3 [(0, .int x0), (1, .int x1)] [.int (x0 - x0 / x1 * x1)] w 0 0 (hG.1 4 [(0, .int x0), (1, .int x1), (2, .int (x0 - x0 / x1 * x1))] [] w 0 0 (hG.1 5 [(0, .int x0), (1, .int x1), (2, .int (x0 - x0 / x1 * x1))] [.int x0] w 0 0 (hG.1 6 [(0, .int x0), (1, .int x1), (2, .int (x0 - x0 / x1 * x1))] [.int x1, .int x0] w 0 0 (hG.1 7 [(0, .int x0), (1, .int x1), (2, .int (x0 - x0 / x1 * x1))] [.int (x0 ^^^ x1)] w 0 0 (And.intro (fun d1 => hG.1 18 [(0, .int x0), (1, .int x1), (2, .int (x0 - x0 / x1 * x1))] [] w 0 0 (hG.1 19 [(0, .int x0), (1, .int x1), (2, .int (x0 - x0 / x1 * x1))] [.int (x0 - x0 / x1 * x1)] w 0 0 (And.intro rfl (And.intro (Nat.le_refl 0) (And.intro (Nat.le_refl 0) (h.2.1 d1)))))) (fun d1 => hG.1 10 [(0, .int x0), (1, .int x1), (2, .int (x0 - x0 / x1 * x1))] [] w 0 0 (hG.1 11 [(0, .int x0), (1, .int x1), (2, .int (x0 - x0 / x1 * x1))] [.int (x0 - x0 / x1 * x1)] w 0 0 (And.intro (fun d2 => hG.1 18 [(0, .int x0), (1, .int x1), (2, .int (x0 - x0 / x1 * x1))] [] w 0 0 (hG.1 19 [(0, .int x0), (1, .int x1), (2, .int (x0 - x0 / x1 * x1))] [.int (x0 - x0 / x1 * x1)] w 0 0 (And.intro rfl (And.intro (Nat.le_refl 0) (And.intro (Nat.le_refl 0) ((h.2.2 d1).1 d2)))))) (fun d2 => hG.1 14 [(0, .int x0), (1, .int x1), (2, .int (x0 - x0 / x1 * x1))] [] w 0 0 (hG.1 15 [(0, .int x0), (1, .int x1), (2, .int (x0 - x0 / x1 * x1))] [.int (x0 - x0 / x1 * x1)] w 0 0 (hG.1 16 [(0, .int x0), (1, .int x1), (2, .int (x0 - x0 / x1 * x1))] [.int x1, .int (x0 - x0 / x1 * x1)] w 0 0 (hG.1 17 [(0, .int x0), (1, .int x1), (2, .int (x0 - x0 / x1 * x1))] [.int ((x0 - x0 / x1 * x1) + x1)] w 0 0 (And.intro rfl (And.intro (Nat.le_refl 0) (And.intro (Nat.le_refl 0) ((h.2.2 d1).2 d2))))))))))))))))))))
theorem sp_J_floorMod {cI : ClassId} {tv : Nat} {w : va_W} {K : q_K} (x0 x1 : Int32) (hz : ¬ x1 = 0) (h : K (some (.int (jf_J_floorMod x0 x1))) w) : T_J_floorMod cI tv [.int x0, .int x1] w K := And.intro (q_le0 _ _ rfl) (fun G hG => sg_J_floorMod_0 hG w x0 x1 (And.intro hz (And.intro (fun c0 => by have e := h; unfold jf_J_floorMod at e; rw [if_pos c0] at e; exact e) (fun c0 => And.intro (fun c1 => by have e := h; unfold jf_J_floorMod at e; rw [if_neg c0, if_pos c1] at e; exact e) (fun c1 => by have e := h; unfold jf_J_floorMod at e; rw [if_neg c0, if_neg c1] at e; exact e)))))
def jf_J_floorDiv (x0 x1 : Int32) : Int32 := (if 0 ≤ (x0 ^^^ x1) then x0 / x1 else (if ((x0 / x1) * x1) = x0 then x0 / x1 else (x0 / x1) - 1))
theorem sg_J_floorDiv_0 {cI : ClassId} {tv : Nat} {K : q_K} {G : q_G} (hG : q_Cl (F_J_floorDiv cI tv K) G) (w : va_W) (x0 x1 : Int32) (h : ¬ x1 = 0 ∧ ((0 ≤ (x0 ^^^ x1) → K (some (.int (x0 / x1))) w) ∧ (¬ 0 ≤ (x0 ^^^ x1) → ((((x0 / x1) * x1) = x0 → K (some (.int (x0 / x1))) w) ∧ (¬ ((x0 / x1) * x1) = x0 → K (some (.int ((x0 / x1) - 1))) w))))) : G 0 [(0, .int x0), (1, .int x1)] [] w 0 0 := hG.1 0 [(0, .int x0), (1, .int x1)] [] w 0 0 (hG.1 1 [(0, .int x0), (1, .int x1)] [.int x0] w 0 0 (hG.1 2 [(0, .int x0), (1, .int x1)] [.int x1, .int x0] w 0 0 (And.intro h.1 (hG.1 3 [(0, .int x0), (1, .int x1)] [.int (x0 / x1)] w 0 0 (hG.1 4 [(0, .int x0), (1, .int x1), (2, .int (x0 / x1))] [] w 0 0 (hG.1 5 [(0, .int x0), (1, .int x1), (2, .int (x0 / x1))] [.int x0] w 0 0 (hG.1 6 [(0, .int x0), (1, .int x1), (2, .int (x0 / x1))] [.int x1, .int x0] w 0 0 (hG.1 7 [(0, .int x0), (1, .int x1), (2, .int (x0 / x1))] [.int (x0 ^^^ x1)] w 0 0 (And.intro (fun d1 => hG.1 21 [(0, .int x0), (1, .int x1), (2, .int (x0 / x1))] [] w 0 0 (hG.1 22 [(0, .int x0), (1, .int x1), (2, .int (x0 / x1))] [.int (x0 / x1)] w 0 0 (And.intro rfl (And.intro (Nat.le_refl 0) (And.intro (Nat.le_refl 0) (h.2.1 d1)))))) (fun d1 => hG.1 10 [(0, .int x0), (1, .int x1), (2, .int (x0 / x1))] [] w 0 0 (hG.1 11 [(0, .int x0), (1, .int x1), (2, .int (x0 / x1))] [.int (x0 / x1)] w 0 0 (hG.1 12 [(0, .int x0), (1, .int x1), (2, .int (x0 / x1))] [.int x1, .int (x0 / x1)] w 0 0 (hG.1 13 [(0, .int x0), (1, .int x1), (2, .int (x0 / x1))] [.int ((x0 / x1) * x1)] w 0 0 (hG.1 14 [(0, .int x0), (1, .int x1), (2, .int (x0 / x1))] [.int x0, .int ((x0 / x1) * x1)] w 0 0 (And.intro (fun d2 => hG.1 21 [(0, .int x0), (1, .int x1), (2, .int (x0 / x1))] [] w 0 0 (hG.1 22 [(0, .int x0), (1, .int x1), (2, .int (x0 / x1))] [.int (x0 / x1)] w 0 0 (And.intro rfl (And.intro (Nat.le_refl 0) (And.intro (Nat.le_refl 0) ((h.2.2 d1).1 d2)))))) (fun d2 => hG.1 17 [(0, .int x0), (1, .int x1), (2, .int (x0 / x1))] [] w 0 0 (hG.1 18 [(0, .int x0), (1, .int x1), (2, .int (x0 / x1))] [.int (x0 / x1)] w 0 0 (hG.1 19 [(0, .int x0), (1, .int x1), (2, .int (x0 / x1))] [.int 1, .int (x0 / x1)] w 0 0 (hG.1 20 [(0, .int x0), (1, .int x1), (2, .int (x0 / x1))] [.int ((x0 / x1) - 1)] w 0 0 (And.intro rfl (And.intro (Nat.le_refl 0) (And.intro (Nat.le_refl 0) ((h.2.2 d1).2 d2)))))))))))))))))))))))
theorem sp_J_floorDiv {cI : ClassId} {tv : Nat} {w : va_W} {K : q_K} (x0 x1 : Int32) (hz : ¬ x1 = 0) (h : K (some (.int (jf_J_floorDiv x0 x1))) w) : T_J_floorDiv cI tv [.int x0, .int x1] w K := And.intro (q_le0 _ _ rfl) (fun G hG => sg_J_floorDiv_0 hG w x0 x1 (And.intro hz (And.intro (fun c0 => by have e := h; unfold jf_J_floorDiv at e; rw [if_pos c0] at e; exact e) (fun c0 => And.intro (fun c1 => by have e := h; unfold jf_J_floorDiv at e; rw [if_neg c0, if_pos c1] at e; exact e) (fun c1 => by have e := h; unfold jf_J_floorDiv at e; rw [if_neg c0, if_neg c1] at e; exact e)))))
def jf_X_signsOf (x0 : Int32) : Int32 := jf_J_floorDiv (x0 - 14) 7
theorem sg_X_signsOf_0 {cI : ClassId} {tv : Nat} {K : q_K} {G : q_G} (hG : q_Cl (F_X_signsOf cI tv K) G) (w : va_W) (x0 : Int32) (h : K (some (.int (jf_J_floorDiv (x0 - 14) 7))) w) : G 0 [(0, .int x0)] [] w 0 0 := hG.1 0 [(0, .int x0)] [] w 0 0 (hG.1 1 [(0, .int x0)] [.int x0] w 0 0 (hG.1 3 [(0, .int x0)] [.int 14, .int x0] w 0 0 (hG.1 4 [(0, .int x0)] [.int (x0 - 14)] w 0 0 (hG.1 6 [(0, .int x0)] [.int 7, .int (x0 - 14)] w 0 0 (And.intro (q_le0 _ _ rfl) (And.intro (Nat.le_refl 0) (And.intro (Nat.le_refl 0) (And.intro (q_le0 _ _ rfl) (sp_J_floorDiv (x0 - 14) 7 (by decide) (hG.1 9 [(0, .int x0)] [.int (jf_J_floorDiv (x0 - 14) 7)] w 0 0 (And.intro rfl (And.intro (Nat.le_refl 0) (And.intro (Nat.le_refl 0) h)))))))))))))
theorem sp_X_signsOf {cI : ClassId} {tv : Nat} {w : va_W} {K : q_K} (x0 : Int32) (h : K (some (.int (jf_X_signsOf x0))) w) : T_X_signsOf cI tv [.int x0] w K := And.intro (q_le0 _ _ rfl) (fun G hG => sg_X_signsOf_0 hG w x0 (by have e := h; unfold jf_X_signsOf at e; exact e))
def jf_X_octaveOf (x0 x1 : Int32) : Int32 := jf_J_floorDiv ((x1 - (jf_X_signsOf x0)) + 12) 12
theorem sg_X_octaveOf_0 {cI : ClassId} {tv : Nat} {K : q_K} {G : q_G} (hG : q_Cl (F_X_octaveOf cI tv K) G) (w : va_W) (x0 x1 : Int32) (h : K (some (.int (jf_J_floorDiv ((x1 - (jf_X_signsOf x0)) + 12) 12))) w) : G 0 [(0, .int x0), (1, .int x1)] [] w 0 0 := hG.1 0 [(0, .int x0), (1, .int x1)] [] w 0 0 (hG.1 1 [(0, .int x0), (1, .int x1)] [.int x1] w 0 0 (hG.1 2 [(0, .int x0), (1, .int x1)] [.int x0, .int x1] w 0 0 (And.intro (q_le0 _ _ rfl) (And.intro (Nat.le_refl 0) (And.intro (Nat.le_refl 0) (And.intro (q_le0 _ _ rfl) (sp_X_signsOf x0 (hG.1 5 [(0, .int x0), (1, .int x1)] [.int (jf_X_signsOf x0), .int x1] w 0 0 (hG.1 6 [(0, .int x0), (1, .int x1)] [.int (x1 - (jf_X_signsOf x0))] w 0 0 (hG.1 8 [(0, .int x0), (1, .int x1)] [.int 12, .int (x1 - (jf_X_signsOf x0))] w 0 0 (hG.1 9 [(0, .int x0), (1, .int x1)] [.int ((x1 - (jf_X_signsOf x0)) + 12)] w 0 0 (hG.1 11 [(0, .int x0), (1, .int x1)] [.int 12, .int ((x1 - (jf_X_signsOf x0)) + 12)] w 0 0 (And.intro (q_le0 _ _ rfl) (And.intro (Nat.le_refl 0) (And.intro (Nat.le_refl 0) (And.intro (q_le0 _ _ rfl) (sp_J_floorDiv ((x1 - (jf_X_signsOf x0)) + 12) 12 (by decide) (hG.1 14 [(0, .int x0), (1, .int x1)] [.int (jf_J_floorDiv ((x1 - (jf_X_signsOf x0)) + 12) 12)] w 0 0 (And.intro rfl (And.intro (Nat.le_refl 0) (And.intro (Nat.le_refl 0) h)))))))))))))))))))))
theorem sp_X_octaveOf {cI : ClassId} {tv : Nat} {w : va_W} {K : q_K} (x0 x1 : Int32) (h : K (some (.int (jf_X_octaveOf x0 x1))) w) : T_X_octaveOf cI tv [.int x0, .int x1] w K := And.intro (q_le0 _ _ rfl) (fun G hG => sg_X_octaveOf_0 hG w x0 x1 (by have e := h; unfold jf_X_octaveOf at e; exact e))
def jf_X_letterOf (x0 : Int32) : Int32 := jf_J_floorMod (4 * (x0 - 15)) 7
theorem sg_X_letterOf_0 {cI : ClassId} {tv : Nat} {K : q_K} {G : q_G} (hG : q_Cl (F_X_letterOf cI tv K) G) (w : va_W) (x0 : Int32) (h : K (some (.int (jf_J_floorMod (4 * (x0 - 15)) 7))) w) : G 0 [(0, .int x0)] [] w 0 0 := hG.1 0 [(0, .int x0)] [] w 0 0 (hG.1 1 [(0, .int x0)] [.int 4] w 0 0 (hG.1 2 [(0, .int x0)] [.int x0, .int 4] w 0 0 (hG.1 4 [(0, .int x0)] [.int 15, .int x0, .int 4] w 0 0 (hG.1 5 [(0, .int x0)] [.int (x0 - 15), .int 4] w 0 0 (hG.1 6 [(0, .int x0)] [.int (4 * (x0 - 15))] w 0 0 (hG.1 8 [(0, .int x0)] [.int 7, .int (4 * (x0 - 15))] w 0 0 (And.intro (q_le0 _ _ rfl) (And.intro (Nat.le_refl 0) (And.intro (Nat.le_refl 0) (And.intro (q_le0 _ _ rfl) (sp_J_floorMod (4 * (x0 - 15)) 7 (by decide) (hG.1 11 [(0, .int x0)] [.int (jf_J_floorMod (4 * (x0 - 15)) 7)] w 0 0 (And.intro rfl (And.intro (Nat.le_refl 0) (And.intro (Nat.le_refl 0) h)))))))))))))))
theorem sp_X_letterOf {cI : ClassId} {tv : Nat} {w : va_W} {K : q_K} (x0 : Int32) (h : K (some (.int (jf_X_letterOf x0))) w) : T_X_letterOf cI tv [.int x0] w K := And.intro (q_le0 _ _ rfl) (fun G hG => sg_X_letterOf_0 hG w x0 (by have e := h; unfold jf_X_letterOf at e; exact e))
def jf_X_placeOf (x0 x1 : Int32) : Int32 := (7 * (jf_X_octaveOf x0 x1)) + (jf_X_letterOf x0)
theorem sg_X_placeOf_0 {cI : ClassId} {tv : Nat} {K : q_K} {G : q_G} (hG : q_Cl (F_X_placeOf cI tv K) G) (w : va_W) (x0 x1 : Int32) (h : K (some (.int ((7 * (jf_X_octaveOf x0 x1)) + (jf_X_letterOf x0)))) w) : G 0 [(0, .int x0), (1, .int x1)] [] w 0 0 := hG.1 0 [(0, .int x0), (1, .int x1)] [] w 0 0 (hG.1 2 [(0, .int x0), (1, .int x1)] [.int 7] w 0 0 (hG.1 3 [(0, .int x0), (1, .int x1)] [.int x0, .int 7] w 0 0 (hG.1 4 [(0, .int x0), (1, .int x1)] [.int x1, .int x0, .int 7] w 0 0 (And.intro (q_le0 _ _ rfl) (And.intro (Nat.le_refl 0) (And.intro (Nat.le_refl 0) (And.intro (q_le0 _ _ rfl) (sp_X_octaveOf x0 x1 (hG.1 7 [(0, .int x0), (1, .int x1)] [.int (jf_X_octaveOf x0 x1), .int 7] w 0 0 (hG.1 8 [(0, .int x0), (1, .int x1)] [.int (7 * (jf_X_octaveOf x0 x1))] w 0 0 (hG.1 9 [(0, .int x0), (1, .int x1)] [.int x0, .int (7 * (jf_X_octaveOf x0 x1))] w 0 0 (And.intro (q_le0 _ _ rfl) (And.intro (Nat.le_refl 0) (And.intro (Nat.le_refl 0) (And.intro (q_le0 _ _ rfl) (sp_X_letterOf x0 (hG.1 12 [(0, .int x0), (1, .int x1)] [.int (jf_X_letterOf x0), .int (7 * (jf_X_octaveOf x0 x1))] w 0 0 (hG.1 13 [(0, .int x0), (1, .int x1)] [.int ((7 * (jf_X_octaveOf x0 x1)) + (jf_X_letterOf x0))] w 0 0 (And.intro rfl (And.intro (Nat.le_refl 0) (And.intro (Nat.le_refl 0) h)))))))))))))))))))))
theorem sp_X_placeOf {cI : ClassId} {tv : Nat} {w : va_W} {K : q_K} (x0 x1 : Int32) (h : K (some (.int (jf_X_placeOf x0 x1))) w) : T_X_placeOf cI tv [.int x0, .int x1] w K := And.intro (q_le0 _ _ rfl) (fun G hG => sg_X_placeOf_0 hG w x0 x1 (by have e := h; unfold jf_X_placeOf at e; exact e))
def jf_X_isName (x0 : Int32) : Int32 := (if x0 < 0 then 0 else (if 35 ≤ x0 then 0 else 1))
theorem sg_X_isName_0 {cI : ClassId} {tv : Nat} {K : q_K} {G : q_G} (hG : q_Cl (F_X_isName cI tv K) G) (w : va_W) (x0 : Int32) (h : (x0 < 0 → K (some (.int 0)) w) ∧ (¬ x0 < 0 → ((35 ≤ x0 → K (some (.int 0)) w) ∧ (¬ 35 ≤ x0 → K (some (.int 1)) w)))) : G 0 [(0, .int x0)] [] w 0 0 := hG.1 0 [(0, .int x0)] [] w 0 0 (hG.1 1 [(0, .int x0)] [.int x0] w 0 0 (And.intro (fun d1 => hG.1 14 [(0, .int x0)] [] w 0 0 (hG.1 15 [(0, .int x0)] [.int 0] w 0 0 (And.intro rfl (And.intro (Nat.le_refl 0) (And.intro (Nat.le_refl 0) (h.1 d1)))))) (fun d1 => hG.1 4 [(0, .int x0)] [] w 0 0 (hG.1 5 [(0, .int x0)] [.int x0] w 0 0 (hG.1 7 [(0, .int x0)] [.int 35, .int x0] w 0 0 (And.intro (fun d2 => hG.1 14 [(0, .int x0)] [] w 0 0 (hG.1 15 [(0, .int x0)] [.int 0] w 0 0 (And.intro rfl (And.intro (Nat.le_refl 0) (And.intro (Nat.le_refl 0) ((h.2 d1).1 d2)))))) (fun d2 => hG.1 10 [(0, .int x0)] [] w 0 0 (hG.1 11 [(0, .int x0)] [.int 1] w 0 0 (hG.1 15 [(0, .int x0)] [.int 1] w 0 0 (And.intro rfl (And.intro (Nat.le_refl 0) (And.intro (Nat.le_refl 0) ((h.2 d1).2 d2)))))))))))))
theorem sp_X_isName {cI : ClassId} {tv : Nat} {w : va_W} {K : q_K} (x0 : Int32) (h : K (some (.int (jf_X_isName x0))) w) : T_X_isName cI tv [.int x0] w K := And.intro (q_le0 _ _ rfl) (fun G hG => sg_X_isName_0 hG w x0 (And.intro (fun c0 => by have e := h; unfold jf_X_isName at e; rw [if_pos c0] at e; exact e) (fun c0 => And.intro (fun c1 => by have e := h; unfold jf_X_isName at e; rw [if_neg c0, if_pos c1] at e; exact e) (fun c1 => by have e := h; unfold jf_X_isName at e; rw [if_neg c0, if_neg c1] at e; exact e))))
def jf_X_soundsAs (x0 x1 : Int32) : Int32 := (if (((7 * (x0 - 15)) - x1) - ((7 * (x0 - 15)) - x1) / 12 * 12) = 0 then 1 else 0)
theorem sg_X_soundsAs_0 {cI : ClassId} {tv : Nat} {K : q_K} {G : q_G} (hG : q_Cl (F_X_soundsAs cI tv K) G) (w : va_W) (x0 x1 : Int32) (h : (¬ (((7 * (x0 - 15)) - x1) - ((7 * (x0 - 15)) - x1) / 12 * 12) = 0 → K (some (.int 0)) w) ∧ ((((7 * (x0 - 15)) - x1) - ((7 * (x0 - 15)) - x1) / 12 * 12) = 0 → K (some (.int 1)) w)) : G 0 [(0, .int x0), (1, .int x1)] [] w 0 0 := hG.1 0 [(0, .int x0), (1, .int x1)] [] w 0 0 (hG.1 2 [(0, .int x0), (1, .int x1)] [.int 7] w 0 0 (hG.1 3 [(0, .int x0), (1, .int x1)] [.int x0, .int 7] w 0 0 (hG.1 5 [(0, .int x0), (1, .int x1)] [.int 15, .int x0, .int 7] w 0 0 (hG.1 6 [(0, .int x0), (1, .int x1)] [.int (x0 - 15), .int 7] w 0 0 (hG.1 7 [(0, .int x0), (1, .int x1)] [.int (7 * (x0 - 15))] w 0 0 (hG.1 8 [(0, .int x0), (1, .int x1)] [.int x1, .int (7 * (x0 - 15))] w 0 0 (hG.1 9 [(0, .int x0), (1, .int x1)] [.int ((7 * (x0 - 15)) - x1)] w 0 0 (hG.1 11 [(0, .int x0), (1, .int x1)] [.int 12, .int ((7 * (x0 - 15)) - x1)] w 0 0 (And.intro (by decide) (hG.1 12 [(0, .int x0), (1, .int x1)] [.int (((7 * (x0 - 15)) - x1) - ((7 * (x0 - 15)) - x1) / 12 * 12)] w 0 0 (And.intro (fun d1 => hG.1 19 [(0, .int x0), (1, .int x1)] [] w 0 0 (hG.1 20 [(0, .int x0), (1, .int x1)] [.int 0] w 0 0 (And.intro rfl (And.intro (Nat.le_refl 0) (And.intro (Nat.le_refl 0) (h.1 d1)))))) (fun d1 => hG.1 15 [(0, .int x0), (1, .int x1)] [] w 0 0 (hG.1 16 [(0, .int x0), (1, .int x1)] [.int 1] w 0 0 (hG.1 20 [(0, .int x0), (1, .int x1)] [.int 1] w 0 0 (And.intro rfl (And.intro (Nat.le_refl 0) (And.intro (Nat.le_refl 0) (h.2 d1))))))))))))))))))
theorem sp_X_soundsAs {cI : ClassId} {tv : Nat} {w : va_W} {K : q_K} (x0 x1 : Int32) (h : K (some (.int (jf_X_soundsAs x0 x1))) w) : T_X_soundsAs cI tv [.int x0, .int x1] w K := And.intro (q_le0 _ _ rfl) (fun G hG => sg_X_soundsAs_0 hG w x0 x1 (And.intro (fun c0 => by have e := h; unfold jf_X_soundsAs at e; rw [if_neg c0] at e; exact e) (fun c0 => by have e := h; unfold jf_X_soundsAs at e; rw [if_pos c0] at e; exact e)))
def jf_X_isWeight (x0 : Int32) : Int32 := (if x0 < 0 then 0 else (if 20 < x0 then 0 else 1))
theorem sg_X_isWeight_0 {cI : ClassId} {tv : Nat} {K : q_K} {G : q_G} (hG : q_Cl (F_X_isWeight cI tv K) G) (w : va_W) (x0 : Int32) (h : (x0 < 0 → K (some (.int 0)) w) ∧ (¬ x0 < 0 → ((20 < x0 → K (some (.int 0)) w) ∧ (¬ 20 < x0 → K (some (.int 1)) w)))) : G 0 [(0, .int x0)] [] w 0 0 := hG.1 0 [(0, .int x0)] [] w 0 0 (hG.1 1 [(0, .int x0)] [.int x0] w 0 0 (And.intro (fun d1 => hG.1 14 [(0, .int x0)] [] w 0 0 (hG.1 15 [(0, .int x0)] [.int 0] w 0 0 (And.intro rfl (And.intro (Nat.le_refl 0) (And.intro (Nat.le_refl 0) (h.1 d1)))))) (fun d1 => hG.1 4 [(0, .int x0)] [] w 0 0 (hG.1 5 [(0, .int x0)] [.int x0] w 0 0 (hG.1 7 [(0, .int x0)] [.int 20, .int x0] w 0 0 (And.intro (fun d2 => hG.1 14 [(0, .int x0)] [] w 0 0 (hG.1 15 [(0, .int x0)] [.int 0] w 0 0 (And.intro rfl (And.intro (Nat.le_refl 0) (And.intro (Nat.le_refl 0) ((h.2 d1).1 d2)))))) (fun d2 => hG.1 10 [(0, .int x0)] [] w 0 0 (hG.1 11 [(0, .int x0)] [.int 1] w 0 0 (hG.1 15 [(0, .int x0)] [.int 1] w 0 0 (And.intro rfl (And.intro (Nat.le_refl 0) (And.intro (Nat.le_refl 0) ((h.2 d1).2 d2)))))))))))))
theorem sp_X_isWeight {cI : ClassId} {tv : Nat} {w : va_W} {K : q_K} (x0 : Int32) (h : K (some (.int (jf_X_isWeight x0))) w) : T_X_isWeight cI tv [.int x0] w K := And.intro (q_le0 _ _ rfl) (fun G hG => sg_X_isWeight_0 hG w x0 (And.intro (fun c0 => by have e := h; unfold jf_X_isWeight at e; rw [if_pos c0] at e; exact e) (fun c0 => And.intro (fun c1 => by have e := h; unfold jf_X_isWeight at e; rw [if_neg c0, if_pos c1] at e; exact e) (fun c1 => by have e := h; unfold jf_X_isWeight at e; rw [if_neg c0, if_neg c1] at e; exact e))))
def jf_J_abs (x0 : Int32) : Int32 := (if 0 ≤ x0 then x0 else -x0)
theorem sg_J_abs_0 {cI : ClassId} {tv : Nat} {K : q_K} {G : q_G} (hG : q_Cl (F_J_abs cI tv K) G) (w : va_W) (x0 : Int32) (h : (0 ≤ x0 → K (some (.int x0)) w) ∧ (¬ 0 ≤ x0 → K (some (.int (-x0))) w)) : G 0 [(0, .int x0)] [] w 0 0 := hG.1 0 [(0, .int x0)] [] w 0 0 (hG.1 1 [(0, .int x0)] [.int x0] w 0 0 (And.intro (fun d1 => hG.1 9 [(0, .int x0)] [] w 0 0 (hG.1 10 [(0, .int x0)] [.int x0] w 0 0 (And.intro rfl (And.intro (Nat.le_refl 0) (And.intro (Nat.le_refl 0) (h.1 d1)))))) (fun d1 => hG.1 4 [(0, .int x0)] [] w 0 0 (hG.1 5 [(0, .int x0)] [.int x0] w 0 0 (hG.1 6 [(0, .int x0)] [.int (-x0)] w 0 0 (hG.1 10 [(0, .int x0)] [.int (-x0)] w 0 0 (And.intro rfl (And.intro (Nat.le_refl 0) (And.intro (Nat.le_refl 0) (h.2 d1))))))))))
theorem sp_J_abs {cI : ClassId} {tv : Nat} {w : va_W} {K : q_K} (x0 : Int32) (h : K (some (.int (jf_J_abs x0))) w) : T_J_abs cI tv [.int x0] w K := And.intro (q_le0 _ _ rfl) (fun G hG => sg_J_abs_0 hG w x0 (And.intro (fun c0 => by have e := h; unfold jf_J_abs at e; rw [if_pos c0] at e; exact e) (fun c0 => by have e := h; unfold jf_J_abs at e; rw [if_neg c0] at e; exact e)))
def jf_X_isTurn (x0 x1 : Int32) : Int32 := (if (jf_J_abs (x1 - x0)) = 12 then 1 else 0)
theorem sg_X_isTurn_0 {cI : ClassId} {tv : Nat} {K : q_K} {G : q_G} (hG : q_Cl (F_X_isTurn cI tv K) G) (w : va_W) (x0 x1 : Int32) (h : (¬ (jf_J_abs (x1 - x0)) = 12 → K (some (.int 0)) w) ∧ ((jf_J_abs (x1 - x0)) = 12 → K (some (.int 1)) w)) : G 0 [(0, .int x0), (1, .int x1)] [] w 0 0 := hG.1 0 [(0, .int x0), (1, .int x1)] [] w 0 0 (hG.1 1 [(0, .int x0), (1, .int x1)] [.int x1] w 0 0 (hG.1 2 [(0, .int x0), (1, .int x1)] [.int x0, .int x1] w 0 0 (hG.1 3 [(0, .int x0), (1, .int x1)] [.int (x1 - x0)] w 0 0 (And.intro (q_le0 _ _ rfl) (And.intro (Nat.le_refl 0) (And.intro (Nat.le_refl 0) (And.intro (q_le0 _ _ rfl) (sp_J_abs (x1 - x0) (hG.1 6 [(0, .int x0), (1, .int x1)] [.int (jf_J_abs (x1 - x0))] w 0 0 (hG.1 8 [(0, .int x0), (1, .int x1)] [.int 12, .int (jf_J_abs (x1 - x0))] w 0 0 (And.intro (fun d1 => hG.1 15 [(0, .int x0), (1, .int x1)] [] w 0 0 (hG.1 16 [(0, .int x0), (1, .int x1)] [.int 0] w 0 0 (And.intro rfl (And.intro (Nat.le_refl 0) (And.intro (Nat.le_refl 0) (h.1 d1)))))) (fun d1 => hG.1 11 [(0, .int x0), (1, .int x1)] [] w 0 0 (hG.1 12 [(0, .int x0), (1, .int x1)] [.int 1] w 0 0 (hG.1 16 [(0, .int x0), (1, .int x1)] [.int 1] w 0 0 (And.intro rfl (And.intro (Nat.le_refl 0) (And.intro (Nat.le_refl 0) (h.2 d1))))))))))))))))))
theorem sp_X_isTurn {cI : ClassId} {tv : Nat} {w : va_W} {K : q_K} (x0 x1 : Int32) (h : K (some (.int (jf_X_isTurn x0 x1))) w) : T_X_isTurn cI tv [.int x0, .int x1] w K := And.intro (q_le0 _ _ rfl) (fun G hG => sg_X_isTurn_0 hG w x0 x1 (And.intro (fun c0 => by have e := h; unfold jf_X_isTurn at e; rw [if_neg c0] at e; exact e) (fun c0 => by have e := h; unfold jf_X_isTurn at e; rw [if_pos c0] at e; exact e)))
def jf_J_max (x0 x1 : Int32) : Int32 := (if x0 < x1 then x1 else x0)
theorem sg_J_max_0 {cI : ClassId} {tv : Nat} {K : q_K} {G : q_G} (hG : q_Cl (F_J_max cI tv K) G) (w : va_W) (x0 x1 : Int32) (h : (x0 < x1 → K (some (.int x1)) w) ∧ (¬ x0 < x1 → K (some (.int x0)) w)) : G 0 [(0, .int x0), (1, .int x1)] [] w 0 0 := hG.1 0 [(0, .int x0), (1, .int x1)] [] w 0 0 (hG.1 1 [(0, .int x0), (1, .int x1)] [.int x0] w 0 0 (hG.1 2 [(0, .int x0), (1, .int x1)] [.int x1, .int x0] w 0 0 (And.intro (fun d1 => hG.1 9 [(0, .int x0), (1, .int x1)] [] w 0 0 (hG.1 10 [(0, .int x0), (1, .int x1)] [.int x1] w 0 0 (And.intro rfl (And.intro (Nat.le_refl 0) (And.intro (Nat.le_refl 0) (h.1 d1)))))) (fun d1 => hG.1 5 [(0, .int x0), (1, .int x1)] [] w 0 0 (hG.1 6 [(0, .int x0), (1, .int x1)] [.int x0] w 0 0 (hG.1 10 [(0, .int x0), (1, .int x1)] [.int x0] w 0 0 (And.intro rfl (And.intro (Nat.le_refl 0) (And.intro (Nat.le_refl 0) (h.2 d1))))))))))
theorem sp_J_max {cI : ClassId} {tv : Nat} {w : va_W} {K : q_K} (x0 x1 : Int32) (h : K (some (.int (jf_J_max x0 x1))) w) : T_J_max cI tv [.int x0, .int x1] w K := And.intro (q_le0 _ _ rfl) (fun G hG => sg_J_max_0 hG w x0 x1 (And.intro (fun c0 => by have e := h; unfold jf_J_max at e; rw [if_pos c0] at e; exact e) (fun c0 => by have e := h; unfold jf_J_max at e; rw [if_neg c0] at e; exact e)))
def jf_J_min (x0 x1 : Int32) : Int32 := (if x1 < x0 then x1 else x0)
theorem sg_J_min_0 {cI : ClassId} {tv : Nat} {K : q_K} {G : q_G} (hG : q_Cl (F_J_min cI tv K) G) (w : va_W) (x0 x1 : Int32) (h : (x1 < x0 → K (some (.int x1)) w) ∧ (¬ x1 < x0 → K (some (.int x0)) w)) : G 0 [(0, .int x0), (1, .int x1)] [] w 0 0 := hG.1 0 [(0, .int x0), (1, .int x1)] [] w 0 0 (hG.1 1 [(0, .int x0), (1, .int x1)] [.int x0] w 0 0 (hG.1 2 [(0, .int x0), (1, .int x1)] [.int x1, .int x0] w 0 0 (And.intro (fun d1 => hG.1 9 [(0, .int x0), (1, .int x1)] [] w 0 0 (hG.1 10 [(0, .int x0), (1, .int x1)] [.int x1] w 0 0 (And.intro rfl (And.intro (Nat.le_refl 0) (And.intro (Nat.le_refl 0) (h.1 d1)))))) (fun d1 => hG.1 5 [(0, .int x0), (1, .int x1)] [] w 0 0 (hG.1 6 [(0, .int x0), (1, .int x1)] [.int x0] w 0 0 (hG.1 10 [(0, .int x0), (1, .int x1)] [.int x0] w 0 0 (And.intro rfl (And.intro (Nat.le_refl 0) (And.intro (Nat.le_refl 0) (h.2 d1))))))))))
theorem sp_J_min {cI : ClassId} {tv : Nat} {w : va_W} {K : q_K} (x0 x1 : Int32) (h : K (some (.int (jf_J_min x0 x1))) w) : T_J_min cI tv [.int x0, .int x1] w K := And.intro (q_le0 _ _ rfl) (fun G hG => sg_J_min_0 hG w x0 x1 (And.intro (fun c0 => by have e := h; unfold jf_J_min at e; rw [if_pos c0] at e; exact e) (fun c0 => by have e := h; unfold jf_J_min at e; rw [if_neg c0] at e; exact e)))
def jf_X_stepsOf (x0 : Int32) : Int32 := jf_J_floorMod (4 * x0) 7
theorem sg_X_stepsOf_0 {cI : ClassId} {tv : Nat} {K : q_K} {G : q_G} (hG : q_Cl (F_X_stepsOf cI tv K) G) (w : va_W) (x0 : Int32) (h : K (some (.int (jf_J_floorMod (4 * x0) 7))) w) : G 0 [(0, .int x0)] [] w 0 0 := hG.1 0 [(0, .int x0)] [] w 0 0 (hG.1 1 [(0, .int x0)] [.int 4] w 0 0 (hG.1 2 [(0, .int x0)] [.int x0, .int 4] w 0 0 (hG.1 3 [(0, .int x0)] [.int (4 * x0)] w 0 0 (hG.1 5 [(0, .int x0)] [.int 7, .int (4 * x0)] w 0 0 (And.intro (q_le0 _ _ rfl) (And.intro (Nat.le_refl 0) (And.intro (Nat.le_refl 0) (And.intro (q_le0 _ _ rfl) (sp_J_floorMod (4 * x0) 7 (by decide) (hG.1 8 [(0, .int x0)] [.int (jf_J_floorMod (4 * x0) 7)] w 0 0 (And.intro rfl (And.intro (Nat.le_refl 0) (And.intro (Nat.le_refl 0) h)))))))))))))
theorem sp_X_stepsOf {cI : ClassId} {tv : Nat} {w : va_W} {K : q_K} (x0 : Int32) (h : K (some (.int (jf_X_stepsOf x0))) w) : T_X_stepsOf cI tv [.int x0] w K := And.intro (q_le0 _ _ rfl) (fun G hG => sg_X_stepsOf_0 hG w x0 (by have e := h; unfold jf_X_stepsOf at e; exact e))
def jf_X_isInterval (x0 : Int32) : Int32 := (if x0 < 0 then 0 else (if 38 < x0 then 0 else 1))
theorem sg_X_isInterval_0 {cI : ClassId} {tv : Nat} {K : q_K} {G : q_G} (hG : q_Cl (F_X_isInterval cI tv K) G) (w : va_W) (x0 : Int32) (h : (x0 < 0 → K (some (.int 0)) w) ∧ (¬ x0 < 0 → ((38 < x0 → K (some (.int 0)) w) ∧ (¬ 38 < x0 → K (some (.int 1)) w)))) : G 0 [(0, .int x0)] [] w 0 0 := hG.1 0 [(0, .int x0)] [] w 0 0 (hG.1 1 [(0, .int x0)] [.int x0] w 0 0 (And.intro (fun d1 => hG.1 14 [(0, .int x0)] [] w 0 0 (hG.1 15 [(0, .int x0)] [.int 0] w 0 0 (And.intro rfl (And.intro (Nat.le_refl 0) (And.intro (Nat.le_refl 0) (h.1 d1)))))) (fun d1 => hG.1 4 [(0, .int x0)] [] w 0 0 (hG.1 5 [(0, .int x0)] [.int x0] w 0 0 (hG.1 7 [(0, .int x0)] [.int 38, .int x0] w 0 0 (And.intro (fun d2 => hG.1 14 [(0, .int x0)] [] w 0 0 (hG.1 15 [(0, .int x0)] [.int 0] w 0 0 (And.intro rfl (And.intro (Nat.le_refl 0) (And.intro (Nat.le_refl 0) ((h.2 d1).1 d2)))))) (fun d2 => hG.1 10 [(0, .int x0)] [] w 0 0 (hG.1 11 [(0, .int x0)] [.int 1] w 0 0 (hG.1 15 [(0, .int x0)] [.int 1] w 0 0 (And.intro rfl (And.intro (Nat.le_refl 0) (And.intro (Nat.le_refl 0) ((h.2 d1).2 d2)))))))))))))
theorem sp_X_isInterval {cI : ClassId} {tv : Nat} {w : va_W} {K : q_K} (x0 : Int32) (h : K (some (.int (jf_X_isInterval x0))) w) : T_X_isInterval cI tv [.int x0] w K := And.intro (q_le0 _ _ rfl) (fun G hG => sg_X_isInterval_0 hG w x0 (And.intro (fun c0 => by have e := h; unfold jf_X_isInterval at e; rw [if_pos c0] at e; exact e) (fun c0 => And.intro (fun c1 => by have e := h; unfold jf_X_isInterval at e; rw [if_neg c0, if_pos c1] at e; exact e) (fun c1 => by have e := h; unfold jf_X_isInterval at e; rw [if_neg c0, if_neg c1] at e; exact e))))
def jf_X_halvesOf (x0 : Int32) : Int32 := (7 * x0) - (12 * (jf_J_floorDiv (4 * x0) 7))
theorem sg_X_halvesOf_0 {cI : ClassId} {tv : Nat} {K : q_K} {G : q_G} (hG : q_Cl (F_X_halvesOf cI tv K) G) (w : va_W) (x0 : Int32) (h : K (some (.int ((7 * x0) - (12 * (jf_J_floorDiv (4 * x0) 7))))) w) : G 0 [(0, .int x0)] [] w 0 0 := hG.1 0 [(0, .int x0)] [] w 0 0 (hG.1 2 [(0, .int x0)] [.int 7] w 0 0 (hG.1 3 [(0, .int x0)] [.int x0, .int 7] w 0 0 (hG.1 4 [(0, .int x0)] [.int (7 * x0)] w 0 0 (hG.1 6 [(0, .int x0)] [.int 12, .int (7 * x0)] w 0 0 (hG.1 7 [(0, .int x0)] [.int 4, .int 12, .int (7 * x0)] w 0 0 (hG.1 8 [(0, .int x0)] [.int x0, .int 4, .int 12, .int (7 * x0)] w 0 0 (hG.1 9 [(0, .int x0)] [.int (4 * x0), .int 12, .int (7 * x0)] w 0 0 (hG.1 11 [(0, .int x0)] [.int 7, .int (4 * x0), .int 12, .int (7 * x0)] w 0 0 (And.intro (q_le0 _ _ rfl) (And.intro (Nat.le_refl 0) (And.intro (Nat.le_refl 0) (And.intro (q_le0 _ _ rfl) (sp_J_floorDiv (4 * x0) 7 (by decide) (hG.1 14 [(0, .int x0)] [.int (jf_J_floorDiv (4 * x0) 7), .int 12, .int (7 * x0)] w 0 0 (hG.1 15 [(0, .int x0)] [.int (12 * (jf_J_floorDiv (4 * x0) 7)), .int (7 * x0)] w 0 0 (hG.1 16 [(0, .int x0)] [.int ((7 * x0) - (12 * (jf_J_floorDiv (4 * x0) 7)))] w 0 0 (And.intro rfl (And.intro (Nat.le_refl 0) (And.intro (Nat.le_refl 0) h)))))))))))))))))))
theorem sp_X_halvesOf {cI : ClassId} {tv : Nat} {w : va_W} {K : q_K} (x0 : Int32) (h : K (some (.int (jf_X_halvesOf x0))) w) : T_X_halvesOf cI tv [.int x0] w K := And.intro (q_le0 _ _ rfl) (fun G hG => sg_X_halvesOf_0 hG w x0 (by have e := h; unfold jf_X_halvesOf at e; exact e))
def jf_X_sortOf (x0 : Int32) : Int32 := (if 1 < (jf_J_abs x0) then (if 5 < (jf_J_abs x0) then (if 12 < (jf_J_abs x0) then (if x0 ≤ 0 then 5 + 1 else 5) else (if x0 ≤ 0 then 3 + 1 else 3)) else (if x0 ≤ 0 then 1 + 1 else 1)) else 0)
theorem sg_X_sortOf_0 {cI : ClassId} {tv : Nat} {K : q_K} {G : q_G} (hG : q_Cl (F_X_sortOf cI tv K) G) (w : va_W) (x0 : Int32) (h : (1 < (jf_J_abs x0) → ((5 < (jf_J_abs x0) → ((12 < (jf_J_abs x0) → ((x0 ≤ 0 → K (some (.int (5 + 1))) w) ∧ (¬ x0 ≤ 0 → K (some (.int 5)) w))) ∧ (¬ 12 < (jf_J_abs x0) → ((x0 ≤ 0 → K (some (.int (3 + 1))) w) ∧ (¬ x0 ≤ 0 → K (some (.int 3)) w))))) ∧ (¬ 5 < (jf_J_abs x0) → ((x0 ≤ 0 → K (some (.int (1 + 1))) w) ∧ (¬ x0 ≤ 0 → K (some (.int 1)) w))))) ∧ (¬ 1 < (jf_J_abs x0) → K (some (.int 0)) w)) : G 0 [(0, .int x0)] [] w 0 0 := hG.1 0 [(0, .int x0)] [] w 0 0 (hG.1 1 [(0, .int x0)] [.int x0] w 0 0 (And.intro (q_le0 _ _ rfl) (And.intro (Nat.le_refl 0) (And.intro (Nat.le_refl 0) (And.intro (q_le0 _ _ rfl) (sp_J_abs x0 (hG.1 4 [(0, .int x0)] [.int (jf_J_abs x0)] w 0 0 (hG.1 5 [(0, .int x0), (1, .int (jf_J_abs x0))] [] w 0 0 (hG.1 6 [(0, .int x0), (1, .int (jf_J_abs x0))] [.int (jf_J_abs x0)] w 0 0 (hG.1 7 [(0, .int x0), (1, .int (jf_J_abs x0))] [.int 1, .int (jf_J_abs x0)] w 0 0 (And.intro (fun d1 => hG.1 12 [(0, .int x0), (1, .int (jf_J_abs x0))] [] w 0 0 (hG.1 13 [(0, .int x0), (1, .int (jf_J_abs x0))] [.int (jf_J_abs x0)] w 0 0 (hG.1 14 [(0, .int x0), (1, .int (jf_J_abs x0))] [.int 5, .int (jf_J_abs x0)] w 0 0 (And.intro (fun d2 => hG.1 21 [(0, .int x0), (1, .int (jf_J_abs x0))] [] w 0 0 (hG.1 22 [(0, .int x0), (1, .int (jf_J_abs x0))] [.int (jf_J_abs x0)] w 0 0 (hG.1 24 [(0, .int x0), (1, .int (jf_J_abs x0))] [.int 12, .int (jf_J_abs x0)] w 0 0 (And.intro (fun d3 => hG.1 31 [(0, .int x0), (1, .int (jf_J_abs x0))] [] w 0 0 (hG.1 32 [(0, .int x0), (1, .int (jf_J_abs x0))] [.int 5] w 0 0 (hG.1 33 [(0, .int x0), (1, .int (jf_J_abs x0)), (2, .int 5)] [] w 0 0 (hG.1 34 [(0, .int x0), (1, .int (jf_J_abs x0)), (2, .int 5)] [.int x0] w 0 0 (And.intro (fun d4 => hG.1 41 [(0, .int x0), (1, .int (jf_J_abs x0)), (2, .int 5)] [] w 0 0 (hG.1 42 [(0, .int x0), (1, .int (jf_J_abs x0)), (2, .int 5)] [.int 5] w 0 0 (hG.1 43 [(0, .int x0), (1, .int (jf_J_abs x0)), (2, .int 5)] [.int 1, .int 5] w 0 0 (hG.1 44 [(0, .int x0), (1, .int (jf_J_abs x0)), (2, .int 5)] [.int (5 + 1)] w 0 0 (And.intro rfl (And.intro (Nat.le_refl 0) (And.intro (Nat.le_refl 0) ((((h.1 d1).1 d2).1 d3).1 d4)))))))) (fun d4 => hG.1 37 [(0, .int x0), (1, .int (jf_J_abs x0)), (2, .int 5)] [] w 0 0 (hG.1 38 [(0, .int x0), (1, .int (jf_J_abs x0)), (2, .int 5)] [.int 5] w 0 0 (hG.1 44 [(0, .int x0), (1, .int (jf_J_abs x0)), (2, .int 5)] [.int 5] w 0 0 (And.intro rfl (And.intro (Nat.le_refl 0) (And.intro (Nat.le_refl 0) ((((h.1 d1).1 d2).1 d3).2 d4)))))))))))) (fun d3 => hG.1 27 [(0, .int x0), (1, .int (jf_J_abs x0))] [] w 0 0 (hG.1 28 [(0, .int x0), (1, .int (jf_J_abs x0))] [.int 3] w 0 0 (hG.1 32 [(0, .int x0), (1, .int (jf_J_abs x0))] [.int 3] w 0 0 (hG.1 33 [(0, .int x0), (1, .int (jf_J_abs x0)), (2, .int 3)] [] w 0 0 (hG.1 34 [(0, .int x0), (1, .int (jf_J_abs x0)), (2, .int 3)] [.int x0] w 0 0 (And.intro (fun d5 => hG.1 41 [(0, .int x0), (1, .int (jf_J_abs x0)), (2, .int 3)] [] w 0 0 (hG.1 42 [(0, .int x0), (1, .int (jf_J_abs x0)), (2, .int 3)] [.int 3] w 0 0 (hG.1 43 [(0, .int x0), (1, .int (jf_J_abs x0)), (2, .int 3)] [.int 1, .int 3] w 0 0 (hG.1 44 [(0, .int x0), (1, .int (jf_J_abs x0)), (2, .int 3)] [.int (3 + 1)] w 0 0 (And.intro rfl (And.intro (Nat.le_refl 0) (And.intro (Nat.le_refl 0) ((((h.1 d1).1 d2).2 d3).1 d5)))))))) (fun d5 => hG.1 37 [(0, .int x0), (1, .int (jf_J_abs x0)), (2, .int 3)] [] w 0 0 (hG.1 38 [(0, .int x0), (1, .int (jf_J_abs x0)), (2, .int 3)] [.int 3] w 0 0 (hG.1 44 [(0, .int x0), (1, .int (jf_J_abs x0)), (2, .int 3)] [.int 3] w 0 0 (And.intro rfl (And.intro (Nat.le_refl 0) (And.intro (Nat.le_refl 0) ((((h.1 d1).1 d2).2 d3).2 d5))))))))))))))))) (fun d2 => hG.1 17 [(0, .int x0), (1, .int (jf_J_abs x0))] [] w 0 0 (hG.1 18 [(0, .int x0), (1, .int (jf_J_abs x0))] [.int 1] w 0 0 (hG.1 32 [(0, .int x0), (1, .int (jf_J_abs x0))] [.int 1] w 0 0 (hG.1 33 [(0, .int x0), (1, .int (jf_J_abs x0)), (2, .int 1)] [] w 0 0 (hG.1 34 [(0, .int x0), (1, .int (jf_J_abs x0)), (2, .int 1)] [.int x0] w 0 0 (And.intro (fun d6 => hG.1 41 [(0, .int x0), (1, .int (jf_J_abs x0)), (2, .int 1)] [] w 0 0 (hG.1 42 [(0, .int x0), (1, .int (jf_J_abs x0)), (2, .int 1)] [.int 1] w 0 0 (hG.1 43 [(0, .int x0), (1, .int (jf_J_abs x0)), (2, .int 1)] [.int 1, .int 1] w 0 0 (hG.1 44 [(0, .int x0), (1, .int (jf_J_abs x0)), (2, .int 1)] [.int (1 + 1)] w 0 0 (And.intro rfl (And.intro (Nat.le_refl 0) (And.intro (Nat.le_refl 0) (((h.1 d1).2 d2).1 d6)))))))) (fun d6 => hG.1 37 [(0, .int x0), (1, .int (jf_J_abs x0)), (2, .int 1)] [] w 0 0 (hG.1 38 [(0, .int x0), (1, .int (jf_J_abs x0)), (2, .int 1)] [.int 1] w 0 0 (hG.1 44 [(0, .int x0), (1, .int (jf_J_abs x0)), (2, .int 1)] [.int 1] w 0 0 (And.intro rfl (And.intro (Nat.le_refl 0) (And.intro (Nat.le_refl 0) (((h.1 d1).2 d2).2 d6))))))))))))))))) (fun d1 => hG.1 10 [(0, .int x0), (1, .int (jf_J_abs x0))] [] w 0 0 (hG.1 11 [(0, .int x0), (1, .int (jf_J_abs x0))] [.int 0] w 0 0 (And.intro rfl (And.intro (Nat.le_refl 0) (And.intro (Nat.le_refl 0) (h.2 d1)))))))))))))))))
theorem sp_X_sortOf {cI : ClassId} {tv : Nat} {w : va_W} {K : q_K} (x0 : Int32) (h : K (some (.int (jf_X_sortOf x0))) w) : T_X_sortOf cI tv [.int x0] w K := And.intro (q_le0 _ _ rfl) (fun G hG => sg_X_sortOf_0 hG w x0 (And.intro (fun c0 => And.intro (fun c1 => And.intro (fun c2 => And.intro (fun c3 => by have e := h; unfold jf_X_sortOf at e; rw [if_pos c0, if_pos c1, if_pos c2, if_pos c3] at e; exact e) (fun c3 => by have e := h; unfold jf_X_sortOf at e; rw [if_pos c0, if_pos c1, if_pos c2, if_neg c3] at e; exact e)) (fun c2 => And.intro (fun c3 => by have e := h; unfold jf_X_sortOf at e; rw [if_pos c0, if_pos c1, if_neg c2, if_pos c3] at e; exact e) (fun c3 => by have e := h; unfold jf_X_sortOf at e; rw [if_pos c0, if_pos c1, if_neg c2, if_neg c3] at e; exact e))) (fun c1 => And.intro (fun c2 => by have e := h; unfold jf_X_sortOf at e; rw [if_pos c0, if_neg c1, if_pos c2] at e; exact e) (fun c2 => by have e := h; unfold jf_X_sortOf at e; rw [if_pos c0, if_neg c1, if_neg c2] at e; exact e))) (fun c0 => by have e := h; unfold jf_X_sortOf at e; rw [if_neg c0] at e; exact e)))
def jf_M_soundsAs (x0 x1 : Int32) : Int32 := (if (((7 * (x0 - 15)) - x1) - ((7 * (x0 - 15)) - x1) / 12 * 12) = 0 then 1 else 0)
theorem sg_M_soundsAs_0 {cI : ClassId} {tv : Nat} {K : q_K} {G : q_G} (hG : q_Cl (F_M_soundsAs cI tv K) G) (w : va_W) (x0 x1 : Int32) (h : (¬ (((7 * (x0 - 15)) - x1) - ((7 * (x0 - 15)) - x1) / 12 * 12) = 0 → K (some (.int 0)) w) ∧ ((((7 * (x0 - 15)) - x1) - ((7 * (x0 - 15)) - x1) / 12 * 12) = 0 → K (some (.int 1)) w)) : G 0 [(0, .int x0), (1, .int x1)] [] w 0 0 := hG.1 0 [(0, .int x0), (1, .int x1)] [] w 0 0 (hG.1 2 [(0, .int x0), (1, .int x1)] [.int 7] w 0 0 (hG.1 3 [(0, .int x0), (1, .int x1)] [.int x0, .int 7] w 0 0 (hG.1 5 [(0, .int x0), (1, .int x1)] [.int 15, .int x0, .int 7] w 0 0 (hG.1 6 [(0, .int x0), (1, .int x1)] [.int (x0 - 15), .int 7] w 0 0 (hG.1 7 [(0, .int x0), (1, .int x1)] [.int (7 * (x0 - 15))] w 0 0 (hG.1 8 [(0, .int x0), (1, .int x1)] [.int x1, .int (7 * (x0 - 15))] w 0 0 (hG.1 9 [(0, .int x0), (1, .int x1)] [.int ((7 * (x0 - 15)) - x1)] w 0 0 (hG.1 11 [(0, .int x0), (1, .int x1)] [.int 12, .int ((7 * (x0 - 15)) - x1)] w 0 0 (And.intro (by decide) (hG.1 12 [(0, .int x0), (1, .int x1)] [.int (((7 * (x0 - 15)) - x1) - ((7 * (x0 - 15)) - x1) / 12 * 12)] w 0 0 (And.intro (fun d1 => hG.1 19 [(0, .int x0), (1, .int x1)] [] w 0 0 (hG.1 20 [(0, .int x0), (1, .int x1)] [.int 0] w 0 0 (And.intro rfl (And.intro (Nat.le_refl 0) (And.intro (Nat.le_refl 0) (h.1 d1)))))) (fun d1 => hG.1 15 [(0, .int x0), (1, .int x1)] [] w 0 0 (hG.1 16 [(0, .int x0), (1, .int x1)] [.int 1] w 0 0 (hG.1 20 [(0, .int x0), (1, .int x1)] [.int 1] w 0 0 (And.intro rfl (And.intro (Nat.le_refl 0) (And.intro (Nat.le_refl 0) (h.2 d1))))))))))))))))))
theorem sp_M_soundsAs {cI : ClassId} {tv : Nat} {w : va_W} {K : q_K} (x0 x1 : Int32) (h : K (some (.int (jf_M_soundsAs x0 x1))) w) : T_M_soundsAs cI tv [.int x0, .int x1] w K := And.intro (q_le0 _ _ rfl) (fun G hG => sg_M_soundsAs_0 hG w x0 x1 (And.intro (fun c0 => by have e := h; unfold jf_M_soundsAs at e; rw [if_neg c0] at e; exact e) (fun c0 => by have e := h; unfold jf_M_soundsAs at e; rw [if_pos c0] at e; exact e)))
def jf_M_isWeight (x0 : Int32) : Int32 := (if x0 < 0 then 0 else (if 20 < x0 then 0 else 1))
theorem sg_M_isWeight_0 {cI : ClassId} {tv : Nat} {K : q_K} {G : q_G} (hG : q_Cl (F_M_isWeight cI tv K) G) (w : va_W) (x0 : Int32) (h : (x0 < 0 → K (some (.int 0)) w) ∧ (¬ x0 < 0 → ((20 < x0 → K (some (.int 0)) w) ∧ (¬ 20 < x0 → K (some (.int 1)) w)))) : G 0 [(0, .int x0)] [] w 0 0 := hG.1 0 [(0, .int x0)] [] w 0 0 (hG.1 1 [(0, .int x0)] [.int x0] w 0 0 (And.intro (fun d1 => hG.1 14 [(0, .int x0)] [] w 0 0 (hG.1 15 [(0, .int x0)] [.int 0] w 0 0 (And.intro rfl (And.intro (Nat.le_refl 0) (And.intro (Nat.le_refl 0) (h.1 d1)))))) (fun d1 => hG.1 4 [(0, .int x0)] [] w 0 0 (hG.1 5 [(0, .int x0)] [.int x0] w 0 0 (hG.1 7 [(0, .int x0)] [.int 20, .int x0] w 0 0 (And.intro (fun d2 => hG.1 14 [(0, .int x0)] [] w 0 0 (hG.1 15 [(0, .int x0)] [.int 0] w 0 0 (And.intro rfl (And.intro (Nat.le_refl 0) (And.intro (Nat.le_refl 0) ((h.2 d1).1 d2)))))) (fun d2 => hG.1 10 [(0, .int x0)] [] w 0 0 (hG.1 11 [(0, .int x0)] [.int 1] w 0 0 (hG.1 15 [(0, .int x0)] [.int 1] w 0 0 (And.intro rfl (And.intro (Nat.le_refl 0) (And.intro (Nat.le_refl 0) ((h.2 d1).2 d2)))))))))))))
theorem sp_M_isWeight {cI : ClassId} {tv : Nat} {w : va_W} {K : q_K} (x0 : Int32) (h : K (some (.int (jf_M_isWeight x0))) w) : T_M_isWeight cI tv [.int x0] w K := And.intro (q_le0 _ _ rfl) (fun G hG => sg_M_isWeight_0 hG w x0 (And.intro (fun c0 => by have e := h; unfold jf_M_isWeight at e; rw [if_pos c0] at e; exact e) (fun c0 => And.intro (fun c1 => by have e := h; unfold jf_M_isWeight at e; rw [if_neg c0, if_pos c1] at e; exact e) (fun c1 => by have e := h; unfold jf_M_isWeight at e; rw [if_neg c0, if_neg c1] at e; exact e))))
def jf_M_modulo (x0 x1 : Int32) : Int32 := (if 0 ≤ (x0 - x0 / x1 * x1) then x0 - x0 / x1 * x1 else (x0 - x0 / x1 * x1) + x1)
theorem sg_M_modulo_0 {cI : ClassId} {tv : Nat} {K : q_K} {G : q_G} (hG : q_Cl (F_M_modulo cI tv K) G) (w : va_W) (x0 x1 : Int32) (h : ¬ x1 = 0 ∧ ((0 ≤ (x0 - x0 / x1 * x1) → K (some (.int (x0 - x0 / x1 * x1))) w) ∧ (¬ 0 ≤ (x0 - x0 / x1 * x1) → K (some (.int ((x0 - x0 / x1 * x1) + x1))) w))) : G 0 [(0, .int x0), (1, .int x1)] [] w 0 0 := hG.1 0 [(0, .int x0), (1, .int x1)] [] w 0 0 (hG.1 1 [(0, .int x0), (1, .int x1)] [.int x0] w 0 0 (hG.1 2 [(0, .int x0), (1, .int x1)] [.int x1, .int x0] w 0 0 (And.intro h.1 (hG.1 3 [(0, .int x0), (1, .int x1)] [.int (x0 - x0 / x1 * x1)] w 0 0 (hG.1 4 [(0, .int x0), (1, .int x1), (2, .int (x0 - x0 / x1 * x1))] [] w 0 0 (hG.1 5 [(0, .int x0), (1, .int x1), (2, .int (x0 - x0 / x1 * x1))] [.int (x0 - x0 / x1 * x1)] w 0 0 (And.intro (fun d1 => hG.1 14 [(0, .int x0), (1, .int x1), (2, .int (x0 - x0 / x1 * x1))] [] w 0 0 (hG.1 15 [(0, .int x0), (1, .int x1), (2, .int (x0 - x0 / x1 * x1))] [.int (x0 - x0 / x1 * x1)] w 0 0 (And.intro rfl (And.intro (Nat.le_refl 0) (And.intro (Nat.le_refl 0) (h.2.1 d1)))))) (fun d1 => hG.1 8 [(0, .int x0), (1, .int x1), (2, .int (x0 - x0 / x1 * x1))] [] w 0 0 (hG.1 9 [(0, .int x0), (1, .int x1), (2, .int (x0 - x0 / x1 * x1))] [.int (x0 - x0 / x1 * x1)] w 0 0 (hG.1 10 [(0, .int x0), (1, .int x1), (2, .int (x0 - x0 / x1 * x1))] [.int x1, .int (x0 - x0 / x1 * x1)] w 0 0 (hG.1 11 [(0, .int x0), (1, .int x1), (2, .int (x0 - x0 / x1 * x1))] [.int ((x0 - x0 / x1 * x1) + x1)] w 0 0 (hG.1 15 [(0, .int x0), (1, .int x1), (2, .int (x0 - x0 / x1 * x1))] [.int ((x0 - x0 / x1 * x1) + x1)] w 0 0 (And.intro rfl (And.intro (Nat.le_refl 0) (And.intro (Nat.le_refl 0) (h.2.2 d1))))))))))))))))
theorem sp_M_modulo {cI : ClassId} {tv : Nat} {w : va_W} {K : q_K} (x0 x1 : Int32) (hz : ¬ x1 = 0) (h : K (some (.int (jf_M_modulo x0 x1))) w) : T_M_modulo cI tv [.int x0, .int x1] w K := And.intro (q_le0 _ _ rfl) (fun G hG => sg_M_modulo_0 hG w x0 x1 (And.intro hz (And.intro (fun c0 => by have e := h; unfold jf_M_modulo at e; rw [if_pos c0] at e; exact e) (fun c0 => by have e := h; unfold jf_M_modulo at e; rw [if_neg c0] at e; exact e))))
def jf_M_letterOf (x0 : Int32) : Int32 := jf_M_modulo (4 * (x0 - 15)) 7
theorem sg_M_letterOf_0 {cI : ClassId} {tv : Nat} {K : q_K} {G : q_G} (hG : q_Cl (F_M_letterOf cI tv K) G) (w : va_W) (x0 : Int32) (h : K (some (.int (jf_M_modulo (4 * (x0 - 15)) 7))) w) : G 0 [(0, .int x0)] [] w 0 0 := hG.1 0 [(0, .int x0)] [] w 0 0 (hG.1 1 [(0, .int x0)] [.int 4] w 0 0 (hG.1 2 [(0, .int x0)] [.int x0, .int 4] w 0 0 (hG.1 4 [(0, .int x0)] [.int 15, .int x0, .int 4] w 0 0 (hG.1 5 [(0, .int x0)] [.int (x0 - 15), .int 4] w 0 0 (hG.1 6 [(0, .int x0)] [.int (4 * (x0 - 15))] w 0 0 (hG.1 8 [(0, .int x0)] [.int 7, .int (4 * (x0 - 15))] w 0 0 (And.intro (q_le0 _ _ rfl) (And.intro (Nat.le_refl 0) (And.intro (Nat.le_refl 0) (And.intro (q_le0 _ _ rfl) (sp_M_modulo (4 * (x0 - 15)) 7 (by decide) (hG.1 11 [(0, .int x0)] [.int (jf_M_modulo (4 * (x0 - 15)) 7)] w 0 0 (And.intro rfl (And.intro (Nat.le_refl 0) (And.intro (Nat.le_refl 0) h)))))))))))))))
theorem sp_M_letterOf {cI : ClassId} {tv : Nat} {w : va_W} {K : q_K} (x0 : Int32) (h : K (some (.int (jf_M_letterOf x0))) w) : T_M_letterOf cI tv [.int x0] w K := And.intro (q_le0 _ _ rfl) (fun G hG => sg_M_letterOf_0 hG w x0 (by have e := h; unfold jf_M_letterOf at e; exact e))
def jf_M_signsOf (x0 : Int32) : Int32 := (x0 / 7) - 2
theorem sg_M_signsOf_0 {cI : ClassId} {tv : Nat} {K : q_K} {G : q_G} (hG : q_Cl (F_M_signsOf cI tv K) G) (w : va_W) (x0 : Int32) (h : K (some (.int ((x0 / 7) - 2))) w) : G 0 [(0, .int x0)] [] w 0 0 := hG.1 0 [(0, .int x0)] [] w 0 0 (hG.1 1 [(0, .int x0)] [.int x0] w 0 0 (hG.1 3 [(0, .int x0)] [.int 7, .int x0] w 0 0 (And.intro (by decide) (hG.1 4 [(0, .int x0)] [.int (x0 / 7)] w 0 0 (hG.1 5 [(0, .int x0)] [.int 2, .int (x0 / 7)] w 0 0 (hG.1 6 [(0, .int x0)] [.int ((x0 / 7) - 2)] w 0 0 (And.intro rfl (And.intro (Nat.le_refl 0) (And.intro (Nat.le_refl 0) h)))))))))
theorem sp_M_signsOf {cI : ClassId} {tv : Nat} {w : va_W} {K : q_K} (x0 : Int32) (h : K (some (.int (jf_M_signsOf x0))) w) : T_M_signsOf cI tv [.int x0] w K := And.intro (q_le0 _ _ rfl) (fun G hG => sg_M_signsOf_0 hG w x0 (by have e := h; unfold jf_M_signsOf at e; exact e))
def jf_M_octaveOf (x0 x1 : Int32) : Int32 := ((x1 - (jf_M_signsOf x0)) + 12) / 12
theorem sg_M_octaveOf_0 {cI : ClassId} {tv : Nat} {K : q_K} {G : q_G} (hG : q_Cl (F_M_octaveOf cI tv K) G) (w : va_W) (x0 x1 : Int32) (h : K (some (.int (((x1 - (jf_M_signsOf x0)) + 12) / 12))) w) : G 0 [(0, .int x0), (1, .int x1)] [] w 0 0 := hG.1 0 [(0, .int x0), (1, .int x1)] [] w 0 0 (hG.1 1 [(0, .int x0), (1, .int x1)] [.int x1] w 0 0 (hG.1 2 [(0, .int x0), (1, .int x1)] [.int x0, .int x1] w 0 0 (And.intro (q_le0 _ _ rfl) (And.intro (Nat.le_refl 0) (And.intro (Nat.le_refl 0) (And.intro (q_le0 _ _ rfl) (sp_M_signsOf x0 (hG.1 5 [(0, .int x0), (1, .int x1)] [.int (jf_M_signsOf x0), .int x1] w 0 0 (hG.1 6 [(0, .int x0), (1, .int x1)] [.int (x1 - (jf_M_signsOf x0))] w 0 0 (hG.1 8 [(0, .int x0), (1, .int x1)] [.int 12, .int (x1 - (jf_M_signsOf x0))] w 0 0 (hG.1 9 [(0, .int x0), (1, .int x1)] [.int ((x1 - (jf_M_signsOf x0)) + 12)] w 0 0 (hG.1 11 [(0, .int x0), (1, .int x1)] [.int 12, .int ((x1 - (jf_M_signsOf x0)) + 12)] w 0 0 (And.intro (by decide) (hG.1 12 [(0, .int x0), (1, .int x1)] [.int (((x1 - (jf_M_signsOf x0)) + 12) / 12)] w 0 0 (And.intro rfl (And.intro (Nat.le_refl 0) (And.intro (Nat.le_refl 0) h)))))))))))))))))
theorem sp_M_octaveOf {cI : ClassId} {tv : Nat} {w : va_W} {K : q_K} (x0 x1 : Int32) (h : K (some (.int (jf_M_octaveOf x0 x1))) w) : T_M_octaveOf cI tv [.int x0, .int x1] w K := And.intro (q_le0 _ _ rfl) (fun G hG => sg_M_octaveOf_0 hG w x0 x1 (by have e := h; unfold jf_M_octaveOf at e; exact e))
def jf_M_placeOf (x0 x1 : Int32) : Int32 := (7 * (jf_M_octaveOf x0 x1)) + (jf_M_letterOf x0)
theorem sg_M_placeOf_0 {cI : ClassId} {tv : Nat} {K : q_K} {G : q_G} (hG : q_Cl (F_M_placeOf cI tv K) G) (w : va_W) (x0 x1 : Int32) (h : K (some (.int ((7 * (jf_M_octaveOf x0 x1)) + (jf_M_letterOf x0)))) w) : G 0 [(0, .int x0), (1, .int x1)] [] w 0 0 := hG.1 0 [(0, .int x0), (1, .int x1)] [] w 0 0 (hG.1 2 [(0, .int x0), (1, .int x1)] [.int 7] w 0 0 (hG.1 3 [(0, .int x0), (1, .int x1)] [.int x0, .int 7] w 0 0 (hG.1 4 [(0, .int x0), (1, .int x1)] [.int x1, .int x0, .int 7] w 0 0 (And.intro (q_le0 _ _ rfl) (And.intro (Nat.le_refl 0) (And.intro (Nat.le_refl 0) (And.intro (q_le0 _ _ rfl) (sp_M_octaveOf x0 x1 (hG.1 7 [(0, .int x0), (1, .int x1)] [.int (jf_M_octaveOf x0 x1), .int 7] w 0 0 (hG.1 8 [(0, .int x0), (1, .int x1)] [.int (7 * (jf_M_octaveOf x0 x1))] w 0 0 (hG.1 9 [(0, .int x0), (1, .int x1)] [.int x0, .int (7 * (jf_M_octaveOf x0 x1))] w 0 0 (And.intro (q_le0 _ _ rfl) (And.intro (Nat.le_refl 0) (And.intro (Nat.le_refl 0) (And.intro (q_le0 _ _ rfl) (sp_M_letterOf x0 (hG.1 12 [(0, .int x0), (1, .int x1)] [.int (jf_M_letterOf x0), .int (7 * (jf_M_octaveOf x0 x1))] w 0 0 (hG.1 13 [(0, .int x0), (1, .int x1)] [.int ((7 * (jf_M_octaveOf x0 x1)) + (jf_M_letterOf x0))] w 0 0 (And.intro rfl (And.intro (Nat.le_refl 0) (And.intro (Nat.le_refl 0) h)))))))))))))))))))))
theorem sp_M_placeOf {cI : ClassId} {tv : Nat} {w : va_W} {K : q_K} (x0 x1 : Int32) (h : K (some (.int (jf_M_placeOf x0 x1))) w) : T_M_placeOf cI tv [.int x0, .int x1] w K := And.intro (q_le0 _ _ rfl) (fun G hG => sg_M_placeOf_0 hG w x0 x1 (by have e := h; unfold jf_M_placeOf at e; exact e))
def jf_M_size (x0 : Int32) : Int32 := (if 0 ≤ x0 then x0 else -x0)
theorem sg_M_size_0 {cI : ClassId} {tv : Nat} {K : q_K} {G : q_G} (hG : q_Cl (F_M_size cI tv K) G) (w : va_W) (x0 : Int32) (h : (0 ≤ x0 → K (some (.int x0)) w) ∧ (¬ 0 ≤ x0 → K (some (.int (-x0))) w)) : G 0 [(0, .int x0)] [] w 0 0 := hG.1 0 [(0, .int x0)] [] w 0 0 (hG.1 1 [(0, .int x0)] [.int x0] w 0 0 (And.intro (fun d1 => hG.1 9 [(0, .int x0)] [] w 0 0 (hG.1 10 [(0, .int x0)] [.int x0] w 0 0 (And.intro rfl (And.intro (Nat.le_refl 0) (And.intro (Nat.le_refl 0) (h.1 d1)))))) (fun d1 => hG.1 4 [(0, .int x0)] [] w 0 0 (hG.1 5 [(0, .int x0)] [.int x0] w 0 0 (hG.1 6 [(0, .int x0)] [.int (-x0)] w 0 0 (hG.1 10 [(0, .int x0)] [.int (-x0)] w 0 0 (And.intro rfl (And.intro (Nat.le_refl 0) (And.intro (Nat.le_refl 0) (h.2 d1))))))))))
theorem sp_M_size {cI : ClassId} {tv : Nat} {w : va_W} {K : q_K} (x0 : Int32) (h : K (some (.int (jf_M_size x0))) w) : T_M_size cI tv [.int x0] w K := And.intro (q_le0 _ _ rfl) (fun G hG => sg_M_size_0 hG w x0 (And.intro (fun c0 => by have e := h; unfold jf_M_size at e; rw [if_pos c0] at e; exact e) (fun c0 => by have e := h; unfold jf_M_size at e; rw [if_neg c0] at e; exact e)))
def jf_M_isStep (x0 x1 x2 x3 : Int32) : Int32 := (if x1 = x3 then (if x0 = x2 then 0 else 1) else (if 2 < (jf_M_size (x3 - x1)) then 0 else (if x3 ≤ x1 then (if ((jf_M_placeOf x2 x3) - (jf_M_placeOf x0 x1)) = (-1) then 0 else 1) else (if ((jf_M_placeOf x2 x3) - (jf_M_placeOf x0 x1)) = 1 then 0 else 1))))
theorem sg_M_isStep_0 {cI : ClassId} {tv : Nat} {K : q_K} {G : q_G} (hG : q_Cl (F_M_isStep cI tv K) G) (w : va_W) (x0 x1 x2 x3 : Int32) (h : (¬ x1 = x3 → ((2 < (jf_M_size (x3 - x1)) → K (some (.int 0)) w) ∧ (¬ 2 < (jf_M_size (x3 - x1)) → ((x3 ≤ x1 → ((((jf_M_placeOf x2 x3) - (jf_M_placeOf x0 x1)) = (-1) → K (some (.int 0)) w) ∧ (¬ ((jf_M_placeOf x2 x3) - (jf_M_placeOf x0 x1)) = (-1) → K (some (.int 1)) w))) ∧ (¬ x3 ≤ x1 → ((((jf_M_placeOf x2 x3) - (jf_M_placeOf x0 x1)) = 1 → K (some (.int 0)) w) ∧ (¬ ((jf_M_placeOf x2 x3) - (jf_M_placeOf x0 x1)) = 1 → K (some (.int 1)) w))))))) ∧ (x1 = x3 → ((x0 = x2 → K (some (.int 0)) w) ∧ (¬ x0 = x2 → K (some (.int 1)) w)))) : G 0 [(0, .int x0), (1, .int x1), (2, .int x2), (3, .int x3)] [] w 0 0 := hG.1 0 [(0, .int x0), (1, .int x1), (2, .int x2), (3, .int x3)] [] w 0 0 (hG.1 1 [(0, .int x0), (1, .int x1), (2, .int x2), (3, .int x3)] [.int x1] w 0 0 (hG.1 2 [(0, .int x0), (1, .int x1), (2, .int x2), (3, .int x3)] [.int x3, .int x1] w 0 0 (And.intro (fun d1 => hG.1 16 [(0, .int x0), (1, .int x1), (2, .int x2), (3, .int x3)] [] w 0 0 (hG.1 17 [(0, .int x0), (1, .int x1), (2, .int x2), (3, .int x3)] [.int x2] w 0 0 (hG.1 18 [(0, .int x0), (1, .int x1), (2, .int x2), (3, .int x3)] [.int x3, .int x2] w 0 0 (And.intro (q_le0 _ _ rfl) (And.intro (Nat.le_refl 0) (And.intro (Nat.le_refl 0) (And.intro (q_le0 _ _ rfl) (sp_M_placeOf x2 x3 (hG.1 21 [(0, .int x0), (1, .int x1), (2, .int x2), (3, .int x3)] [.int (jf_M_placeOf x2 x3)] w 0 0 (hG.1 22 [(0, .int x0), (1, .int x1), (2, .int x2), (3, .int x3)] [.int x0, .int (jf_M_placeOf x2 x3)] w 0 0 (hG.1 23 [(0, .int x0), (1, .int x1), (2, .int x2), (3, .int x3)] [.int x1, .int x0, .int (jf_M_placeOf x2 x3)] w 0 0 (And.intro (q_le0 _ _ rfl) (And.intro (Nat.le_refl 0) (And.intro (Nat.le_refl 0) (And.intro (q_le0 _ _ rfl) (sp_M_placeOf x0 x1 (hG.1 26 [(0, .int x0), (1, .int x1), (2, .int x2), (3, .int x3)] [.int (jf_M_placeOf x0 x1), .int (jf_M_placeOf x2 x3)] w 0 0 (hG.1 27 [(0, .int x0), (1, .int x1), (2, .int x2), (3, .int x3)] [.int ((jf_M_placeOf x2 x3) - (jf_M_placeOf x0 x1))] w 0 0 (hG.1 29 [(0, .int x0), (1, .int x1), (2, .int x2), (3, .int x3), (4, .int ((jf_M_placeOf x2 x3) - (jf_M_placeOf x0 x1)))] [] w 0 0 (hG.1 30 [(0, .int x0), (1, .int x1), (2, .int x2), (3, .int x3), (4, .int ((jf_M_placeOf x2 x3) - (jf_M_placeOf x0 x1)))] [.int x3] w 0 0 (hG.1 31 [(0, .int x0), (1, .int x1), (2, .int x2), (3, .int x3), (4, .int ((jf_M_placeOf x2 x3) - (jf_M_placeOf x0 x1)))] [.int x1, .int x3] w 0 0 (hG.1 32 [(0, .int x0), (1, .int x1), (2, .int x2), (3, .int x3), (4, .int ((jf_M_placeOf x2 x3) - (jf_M_placeOf x0 x1)))] [.int (x3 - x1)] w 0 0 (And.intro (q_le0 _ _ rfl) (And.intro (Nat.le_refl 0) (And.intro (Nat.le_refl 0) (And.intro (q_le0 _ _ rfl) (sp_M_size (x3 - x1) (hG.1 35 [(0, .int x0), (1, .int x1), (2, .int x2), (3, .int x3), (4, .int ((jf_M_placeOf x2 x3) - (jf_M_placeOf x0 x1)))] [.int (jf_M_size (x3 - x1))] w 0 0 (hG.1 36 [(0, .int x0), (1, .int x1), (2, .int x2), (3, .int x3), (4, .int ((jf_M_placeOf x2 x3) - (jf_M_placeOf x0 x1)))] [.int 2, .int (jf_M_size (x3 - x1))] w 0 0 (And.intro (fun d2 => hG.1 58 [(0, .int x0), (1, .int x1), (2, .int x2), (3, .int x3), (4, .int ((jf_M_placeOf x2 x3) - (jf_M_placeOf x0 x1)))] [] w 0 0 (hG.1 59 [(0, .int x0), (1, .int x1), (2, .int x2), (3, .int x3), (4, .int ((jf_M_placeOf x2 x3) - (jf_M_placeOf x0 x1)))] [.int 0] w 0 0 (And.intro rfl (And.intro (Nat.le_refl 0) (And.intro (Nat.le_refl 0) ((h.1 d1).1 d2)))))) (fun d2 => hG.1 39 [(0, .int x0), (1, .int x1), (2, .int x2), (3, .int x3), (4, .int ((jf_M_placeOf x2 x3) - (jf_M_placeOf x0 x1)))] [] w 0 0 (hG.1 41 [(0, .int x0), (1, .int x1), (2, .int x2), (3, .int x3), (4, .int ((jf_M_placeOf x2 x3) - (jf_M_placeOf x0 x1)))] [.int ((jf_M_placeOf x2 x3) - (jf_M_placeOf x0 x1))] w 0 0 (hG.1 42 [(0, .int x0), (1, .int x1), (2, .int x2), (3, .int x3), (4, .int ((jf_M_placeOf x2 x3) - (jf_M_placeOf x0 x1)))] [.int x3, .int ((jf_M_placeOf x2 x3) - (jf_M_placeOf x0 x1))] w 0 0 (hG.1 43 [(0, .int x0), (1, .int x1), (2, .int x2), (3, .int x3), (4, .int ((jf_M_placeOf x2 x3) - (jf_M_placeOf x0 x1)))] [.int x1, .int x3, .int ((jf_M_placeOf x2 x3) - (jf_M_placeOf x0 x1))] w 0 0 (And.intro (fun d3 => hG.1 50 [(0, .int x0), (1, .int x1), (2, .int x2), (3, .int x3), (4, .int ((jf_M_placeOf x2 x3) - (jf_M_placeOf x0 x1)))] [.int ((jf_M_placeOf x2 x3) - (jf_M_placeOf x0 x1))] w 0 0 (hG.1 51 [(0, .int x0), (1, .int x1), (2, .int x2), (3, .int x3), (4, .int ((jf_M_placeOf x2 x3) - (jf_M_placeOf x0 x1)))] [.int (-1), .int ((jf_M_placeOf x2 x3) - (jf_M_placeOf x0 x1))] w 0 0 (And.intro (fun d4 => hG.1 58 [(0, .int x0), (1, .int x1), (2, .int x2), (3, .int x3), (4, .int ((jf_M_placeOf x2 x3) - (jf_M_placeOf x0 x1)))] [] w 0 0 (hG.1 59 [(0, .int x0), (1, .int x1), (2, .int x2), (3, .int x3), (4, .int ((jf_M_placeOf x2 x3) - (jf_M_placeOf x0 x1)))] [.int 0] w 0 0 (And.intro rfl (And.intro (Nat.le_refl 0) (And.intro (Nat.le_refl 0) ((((h.1 d1).2 d2).1 d3).1 d4)))))) (fun d4 => hG.1 54 [(0, .int x0), (1, .int x1), (2, .int x2), (3, .int x3), (4, .int ((jf_M_placeOf x2 x3) - (jf_M_placeOf x0 x1)))] [] w 0 0 (hG.1 55 [(0, .int x0), (1, .int x1), (2, .int x2), (3, .int x3), (4, .int ((jf_M_placeOf x2 x3) - (jf_M_placeOf x0 x1)))] [.int 1] w 0 0 (hG.1 59 [(0, .int x0), (1, .int x1), (2, .int x2), (3, .int x3), (4, .int ((jf_M_placeOf x2 x3) - (jf_M_placeOf x0 x1)))] [.int 1] w 0 0 (And.intro rfl (And.intro (Nat.le_refl 0) (And.intro (Nat.le_refl 0) ((((h.1 d1).2 d2).1 d3).2 d4)))))))))) (fun d3 => hG.1 46 [(0, .int x0), (1, .int x1), (2, .int x2), (3, .int x3), (4, .int ((jf_M_placeOf x2 x3) - (jf_M_placeOf x0 x1)))] [.int ((jf_M_placeOf x2 x3) - (jf_M_placeOf x0 x1))] w 0 0 (hG.1 47 [(0, .int x0), (1, .int x1), (2, .int x2), (3, .int x3), (4, .int ((jf_M_placeOf x2 x3) - (jf_M_placeOf x0 x1)))] [.int 1, .int ((jf_M_placeOf x2 x3) - (jf_M_placeOf x0 x1))] w 0 0 (hG.1 51 [(0, .int x0), (1, .int x1), (2, .int x2), (3, .int x3), (4, .int ((jf_M_placeOf x2 x3) - (jf_M_placeOf x0 x1)))] [.int 1, .int ((jf_M_placeOf x2 x3) - (jf_M_placeOf x0 x1))] w 0 0 (And.intro (fun d5 => hG.1 58 [(0, .int x0), (1, .int x1), (2, .int x2), (3, .int x3), (4, .int ((jf_M_placeOf x2 x3) - (jf_M_placeOf x0 x1)))] [] w 0 0 (hG.1 59 [(0, .int x0), (1, .int x1), (2, .int x2), (3, .int x3), (4, .int ((jf_M_placeOf x2 x3) - (jf_M_placeOf x0 x1)))] [.int 0] w 0 0 (And.intro rfl (And.intro (Nat.le_refl 0) (And.intro (Nat.le_refl 0) ((((h.1 d1).2 d2).2 d3).1 d5)))))) (fun d5 => hG.1 54 [(0, .int x0), (1, .int x1), (2, .int x2), (3, .int x3), (4, .int ((jf_M_placeOf x2 x3) - (jf_M_placeOf x0 x1)))] [] w 0 0 (hG.1 55 [(0, .int x0), (1, .int x1), (2, .int x2), (3, .int x3), (4, .int ((jf_M_placeOf x2 x3) - (jf_M_placeOf x0 x1)))] [.int 1] w 0 0 (hG.1 59 [(0, .int x0), (1, .int x1), (2, .int x2), (3, .int x3), (4, .int ((jf_M_placeOf x2 x3) - (jf_M_placeOf x0 x1)))] [.int 1] w 0 0 (And.intro rfl (And.intro (Nat.le_refl 0) (And.intro (Nat.le_refl 0) ((((h.1 d1).2 d2).2 d3).2 d5)))))))))))))))))))))))))))))))))))))))))))))) (fun d1 => hG.1 5 [(0, .int x0), (1, .int x1), (2, .int x2), (3, .int x3)] [] w 0 0 (hG.1 6 [(0, .int x0), (1, .int x1), (2, .int x2), (3, .int x3)] [.int x0] w 0 0 (hG.1 7 [(0, .int x0), (1, .int x1), (2, .int x2), (3, .int x3)] [.int x2, .int x0] w 0 0 (And.intro (fun d6 => hG.1 14 [(0, .int x0), (1, .int x1), (2, .int x2), (3, .int x3)] [] w 0 0 (hG.1 15 [(0, .int x0), (1, .int x1), (2, .int x2), (3, .int x3)] [.int 0] w 0 0 (And.intro rfl (And.intro (Nat.le_refl 0) (And.intro (Nat.le_refl 0) ((h.2 d1).1 d6)))))) (fun d6 => hG.1 10 [(0, .int x0), (1, .int x1), (2, .int x2), (3, .int x3)] [] w 0 0 (hG.1 11 [(0, .int x0), (1, .int x1), (2, .int x2), (3, .int x3)] [.int 1] w 0 0 (hG.1 15 [(0, .int x0), (1, .int x1), (2, .int x2), (3, .int x3)] [.int 1] w 0 0 (And.intro rfl (And.intro (Nat.le_refl 0) (And.intro (Nat.le_refl 0) ((h.2 d1).2 d6))))))))))))))
theorem sp_M_isStep {cI : ClassId} {tv : Nat} {w : va_W} {K : q_K} (x0 x1 x2 x3 : Int32) (h : K (some (.int (jf_M_isStep x0 x1 x2 x3))) w) : T_M_isStep cI tv [.int x0, .int x1, .int x2, .int x3] w K := And.intro (q_le0 _ _ rfl) (fun G hG => sg_M_isStep_0 hG w x0 x1 x2 x3 (And.intro (fun c0 => And.intro (fun c1 => by have e := h; unfold jf_M_isStep at e; rw [if_neg c0, if_pos c1] at e; exact e) (fun c1 => And.intro (fun c2 => And.intro (fun c3 => by have e := h; unfold jf_M_isStep at e; rw [if_neg c0, if_neg c1, if_pos c2, if_pos c3] at e; exact e) (fun c3 => by have e := h; unfold jf_M_isStep at e; rw [if_neg c0, if_neg c1, if_pos c2, if_neg c3] at e; exact e)) (fun c2 => And.intro (fun c3 => by have e := h; unfold jf_M_isStep at e; rw [if_neg c0, if_neg c1, if_neg c2, if_pos c3] at e; exact e) (fun c3 => by have e := h; unfold jf_M_isStep at e; rw [if_neg c0, if_neg c1, if_neg c2, if_neg c3] at e; exact e)))) (fun c0 => And.intro (fun c1 => by have e := h; unfold jf_M_isStep at e; rw [if_pos c0, if_pos c1] at e; exact e) (fun c1 => by have e := h; unfold jf_M_isStep at e; rw [if_pos c0, if_neg c1] at e; exact e))))
def jf_M_most (x0 : Int32) : Int32 := (if x0 ≤ 1000000 then x0 else 1000000)
theorem sg_M_most_0 {cI : ClassId} {tv : Nat} {K : q_K} {G : q_G} (hG : q_Cl (F_M_most cI tv K) G) (w : va_W) (x0 : Int32) (h : (x0 ≤ 1000000 → K (some (.int x0)) w) ∧ (¬ x0 ≤ 1000000 → K (some (.int 1000000)) w)) : G 0 [(0, .int x0)] [] w 0 0 := hG.1 0 [(0, .int x0)] [] w 0 0 (hG.1 1 [(0, .int x0)] [.int x0] w 0 0 (hG.1 3 [(0, .int x0)] [.int 1000000, .int x0] w 0 0 (And.intro (fun d1 => hG.1 11 [(0, .int x0)] [] w 0 0 (hG.1 12 [(0, .int x0)] [.int x0] w 0 0 (And.intro rfl (And.intro (Nat.le_refl 0) (And.intro (Nat.le_refl 0) (h.1 d1)))))) (fun d1 => hG.1 6 [(0, .int x0)] [] w 0 0 (hG.1 8 [(0, .int x0)] [.int 1000000] w 0 0 (hG.1 12 [(0, .int x0)] [.int 1000000] w 0 0 (And.intro rfl (And.intro (Nat.le_refl 0) (And.intro (Nat.le_refl 0) (h.2 d1))))))))))
theorem sp_M_most {cI : ClassId} {tv : Nat} {w : va_W} {K : q_K} (x0 : Int32) (h : K (some (.int (jf_M_most x0))) w) : T_M_most cI tv [.int x0] w K := And.intro (q_le0 _ _ rfl) (fun G hG => sg_M_most_0 hG w x0 (And.intro (fun c0 => by have e := h; unfold jf_M_most at e; rw [if_pos c0] at e; exact e) (fun c0 => by have e := h; unfold jf_M_most at e; rw [if_neg c0] at e; exact e)))
def jf_M_isInterval (x0 : Int32) : Int32 := (if x0 < 0 then 0 else (if 38 < x0 then 0 else 1))
theorem sg_M_isInterval_0 {cI : ClassId} {tv : Nat} {K : q_K} {G : q_G} (hG : q_Cl (F_M_isInterval cI tv K) G) (w : va_W) (x0 : Int32) (h : (x0 < 0 → K (some (.int 0)) w) ∧ (¬ x0 < 0 → ((38 < x0 → K (some (.int 0)) w) ∧ (¬ 38 < x0 → K (some (.int 1)) w)))) : G 0 [(0, .int x0)] [] w 0 0 := hG.1 0 [(0, .int x0)] [] w 0 0 (hG.1 1 [(0, .int x0)] [.int x0] w 0 0 (And.intro (fun d1 => hG.1 14 [(0, .int x0)] [] w 0 0 (hG.1 15 [(0, .int x0)] [.int 0] w 0 0 (And.intro rfl (And.intro (Nat.le_refl 0) (And.intro (Nat.le_refl 0) (h.1 d1)))))) (fun d1 => hG.1 4 [(0, .int x0)] [] w 0 0 (hG.1 5 [(0, .int x0)] [.int x0] w 0 0 (hG.1 7 [(0, .int x0)] [.int 38, .int x0] w 0 0 (And.intro (fun d2 => hG.1 14 [(0, .int x0)] [] w 0 0 (hG.1 15 [(0, .int x0)] [.int 0] w 0 0 (And.intro rfl (And.intro (Nat.le_refl 0) (And.intro (Nat.le_refl 0) ((h.2 d1).1 d2)))))) (fun d2 => hG.1 10 [(0, .int x0)] [] w 0 0 (hG.1 11 [(0, .int x0)] [.int 1] w 0 0 (hG.1 15 [(0, .int x0)] [.int 1] w 0 0 (And.intro rfl (And.intro (Nat.le_refl 0) (And.intro (Nat.le_refl 0) ((h.2 d1).2 d2)))))))))))))
theorem sp_M_isInterval {cI : ClassId} {tv : Nat} {w : va_W} {K : q_K} (x0 : Int32) (h : K (some (.int (jf_M_isInterval x0))) w) : T_M_isInterval cI tv [.int x0] w K := And.intro (q_le0 _ _ rfl) (fun G hG => sg_M_isInterval_0 hG w x0 (And.intro (fun c0 => by have e := h; unfold jf_M_isInterval at e; rw [if_pos c0] at e; exact e) (fun c0 => And.intro (fun c1 => by have e := h; unfold jf_M_isInterval at e; rw [if_neg c0, if_pos c1] at e; exact e) (fun c1 => by have e := h; unfold jf_M_isInterval at e; rw [if_neg c0, if_neg c1] at e; exact e))))
def jf_M_stepsOf (x0 : Int32) : Int32 := jf_M_modulo (4 * (x0 - 19)) 7
theorem sg_M_stepsOf_0 {cI : ClassId} {tv : Nat} {K : q_K} {G : q_G} (hG : q_Cl (F_M_stepsOf cI tv K) G) (w : va_W) (x0 : Int32) (h : K (some (.int (jf_M_modulo (4 * (x0 - 19)) 7))) w) : G 0 [(0, .int x0)] [] w 0 0 := hG.1 0 [(0, .int x0)] [] w 0 0 (hG.1 1 [(0, .int x0)] [.int 4] w 0 0 (hG.1 2 [(0, .int x0)] [.int x0, .int 4] w 0 0 (hG.1 4 [(0, .int x0)] [.int 19, .int x0, .int 4] w 0 0 (hG.1 5 [(0, .int x0)] [.int (x0 - 19), .int 4] w 0 0 (hG.1 6 [(0, .int x0)] [.int (4 * (x0 - 19))] w 0 0 (hG.1 8 [(0, .int x0)] [.int 7, .int (4 * (x0 - 19))] w 0 0 (And.intro (q_le0 _ _ rfl) (And.intro (Nat.le_refl 0) (And.intro (Nat.le_refl 0) (And.intro (q_le0 _ _ rfl) (sp_M_modulo (4 * (x0 - 19)) 7 (by decide) (hG.1 11 [(0, .int x0)] [.int (jf_M_modulo (4 * (x0 - 19)) 7)] w 0 0 (And.intro rfl (And.intro (Nat.le_refl 0) (And.intro (Nat.le_refl 0) h)))))))))))))))
theorem sp_M_stepsOf {cI : ClassId} {tv : Nat} {w : va_W} {K : q_K} (x0 : Int32) (h : K (some (.int (jf_M_stepsOf x0))) w) : T_M_stepsOf cI tv [.int x0] w K := And.intro (q_le0 _ _ rfl) (fun G hG => sg_M_stepsOf_0 hG w x0 (by have e := h; unfold jf_M_stepsOf at e; exact e))
def jf_M_halvesOf (x0 : Int32) : Int32 := (7 * (x0 - 19)) - (12 * (((4 * (x0 - 19)) - (jf_M_modulo (4 * (x0 - 19)) 7)) / 7))
theorem sg_M_halvesOf_0 {cI : ClassId} {tv : Nat} {K : q_K} {G : q_G} (hG : q_Cl (F_M_halvesOf cI tv K) G) (w : va_W) (x0 : Int32) (h : K (some (.int ((7 * (x0 - 19)) - (12 * (((4 * (x0 - 19)) - (jf_M_modulo (4 * (x0 - 19)) 7)) / 7))))) w) : G 0 [(0, .int x0)] [] w 0 0 := hG.1 0 [(0, .int x0)] [] w 0 0 (hG.1 1 [(0, .int x0)] [.int x0] w 0 0 (hG.1 3 [(0, .int x0)] [.int 19, .int x0] w 0 0 (hG.1 4 [(0, .int x0)] [.int (x0 - 19)] w 0 0 (hG.1 5 [(0, .int x0), (1, .int (x0 - 19))] [] w 0 0 (hG.1 6 [(0, .int x0), (1, .int (x0 - 19))] [.int 4] w 0 0 (hG.1 7 [(0, .int x0), (1, .int (x0 - 19))] [.int (x0 - 19), .int 4] w 0 0 (hG.1 8 [(0, .int x0), (1, .int (x0 - 19))] [.int (4 * (x0 - 19))] w 0 0 (hG.1 9 [(0, .int x0), (1, .int (x0 - 19))] [.int 4, .int (4 * (x0 - 19))] w 0 0 (hG.1 10 [(0, .int x0), (1, .int (x0 - 19))] [.int (x0 - 19), .int 4, .int (4 * (x0 - 19))] w 0 0 (hG.1 11 [(0, .int x0), (1, .int (x0 - 19))] [.int (4 * (x0 - 19)), .int (4 * (x0 - 19))] w 0 0 (hG.1 13 [(0, .int x0), (1, .int (x0 - 19))] [.int 7, .int (4 * (x0 - 19)), .int (4 * (x0 - 19))] w 0 0 (And.intro (q_le0 _ _ rfl) (And.intro (Nat.le_refl 0) (And.intro (Nat.le_refl 0) (And.intro (q_le0 _ _ rfl) (sp_M_modulo (4 * (x0 - 19)) 7 (by decide) (hG.1 16 [(0, .int x0), (1, .int (x0 - 19))] [.int (jf_M_modulo (4 * (x0 - 19)) 7), .int (4 * (x0 - 19))] w 0 0 (hG.1 17 [(0, .int x0), (1, .int (x0 - 19))] [.int ((4 * (x0 - 19)) - (jf_M_modulo (4 * (x0 - 19)) 7))] w 0 0 (hG.1 19 [(0, .int x0), (1, .int (x0 - 19))] [.int 7, .int ((4 * (x0 - 19)) - (jf_M_modulo (4 * (x0 - 19)) 7))] w 0 0 (And.intro (by decide) (hG.1 20 [(0, .int x0), (1, .int (x0 - 19))] [.int (((4 * (x0 - 19)) - (jf_M_modulo (4 * (x0 - 19)) 7)) / 7)] w 0 0 (hG.1 21 [(0, .int x0), (1, .int (x0 - 19)), (2, .int (((4 * (x0 - 19)) - (jf_M_modulo (4 * (x0 - 19)) 7)) / 7))] [] w 0 0 (hG.1 23 [(0, .int x0), (1, .int (x0 - 19)), (2, .int (((4 * (x0 - 19)) - (jf_M_modulo (4 * (x0 - 19)) 7)) / 7))] [.int 7] w 0 0 (hG.1 24 [(0, .int x0), (1, .int (x0 - 19)), (2, .int (((4 * (x0 - 19)) - (jf_M_modulo (4 * (x0 - 19)) 7)) / 7))] [.int (x0 - 19), .int 7] w 0 0 (hG.1 25 [(0, .int x0), (1, .int (x0 - 19)), (2, .int (((4 * (x0 - 19)) - (jf_M_modulo (4 * (x0 - 19)) 7)) / 7))] [.int (7 * (x0 - 19))] w 0 0 (hG.1 27 [(0, .int x0), (1, .int (x0 - 19)), (2, .int (((4 * (x0 - 19)) - (jf_M_modulo (4 * (x0 - 19)) 7)) / 7))] [.int 12, .int (7 * (x0 - 19))] w 0 0 (hG.1 28 [(0, .int x0), (1, .int (x0 - 19)), (2, .int (((4 * (x0 - 19)) - (jf_M_modulo (4 * (x0 - 19)) 7)) / 7))] [.int (((4 * (x0 - 19)) - (jf_M_modulo (4 * (x0 - 19)) 7)) / 7), .int 12, .int (7 * (x0 - 19))] w 0 0 (hG.1 29 [(0, .int x0), (1, .int (x0 - 19)), (2, .int (((4 * (x0 - 19)) - (jf_M_modulo (4 * (x0 - 19)) 7)) / 7))] [.int (12 * (((4 * (x0 - 19)) - (jf_M_modulo (4 * (x0 - 19)) 7)) / 7)), .int (7 * (x0 - 19))] w 0 0 (hG.1 30 [(0, .int x0), (1, .int (x0 - 19)), (2, .int (((4 * (x0 - 19)) - (jf_M_modulo (4 * (x0 - 19)) 7)) / 7))] [.int ((7 * (x0 - 19)) - (12 * (((4 * (x0 - 19)) - (jf_M_modulo (4 * (x0 - 19)) 7)) / 7)))] w 0 0 (And.intro rfl (And.intro (Nat.le_refl 0) (And.intro (Nat.le_refl 0) h))))))))))))))))))))))))))))))))
theorem sp_M_halvesOf {cI : ClassId} {tv : Nat} {w : va_W} {K : q_K} (x0 : Int32) (h : K (some (.int (jf_M_halvesOf x0))) w) : T_M_halvesOf cI tv [.int x0] w K := And.intro (q_le0 _ _ rfl) (fun G hG => sg_M_halvesOf_0 hG w x0 (by have e := h; unfold jf_M_halvesOf at e; exact e))
def jf_M_isName (x0 : Int32) : Int32 := (if x0 < 0 then 0 else (if 34 < x0 then 0 else 1))
theorem sg_M_isName_0 {cI : ClassId} {tv : Nat} {K : q_K} {G : q_G} (hG : q_Cl (F_M_isName cI tv K) G) (w : va_W) (x0 : Int32) (h : (x0 < 0 → K (some (.int 0)) w) ∧ (¬ x0 < 0 → ((34 < x0 → K (some (.int 0)) w) ∧ (¬ 34 < x0 → K (some (.int 1)) w)))) : G 0 [(0, .int x0)] [] w 0 0 := hG.1 0 [(0, .int x0)] [] w 0 0 (hG.1 1 [(0, .int x0)] [.int x0] w 0 0 (And.intro (fun d1 => hG.1 14 [(0, .int x0)] [] w 0 0 (hG.1 15 [(0, .int x0)] [.int 0] w 0 0 (And.intro rfl (And.intro (Nat.le_refl 0) (And.intro (Nat.le_refl 0) (h.1 d1)))))) (fun d1 => hG.1 4 [(0, .int x0)] [] w 0 0 (hG.1 5 [(0, .int x0)] [.int x0] w 0 0 (hG.1 7 [(0, .int x0)] [.int 34, .int x0] w 0 0 (And.intro (fun d2 => hG.1 14 [(0, .int x0)] [] w 0 0 (hG.1 15 [(0, .int x0)] [.int 0] w 0 0 (And.intro rfl (And.intro (Nat.le_refl 0) (And.intro (Nat.le_refl 0) ((h.2 d1).1 d2)))))) (fun d2 => hG.1 10 [(0, .int x0)] [] w 0 0 (hG.1 11 [(0, .int x0)] [.int 1] w 0 0 (hG.1 15 [(0, .int x0)] [.int 1] w 0 0 (And.intro rfl (And.intro (Nat.le_refl 0) (And.intro (Nat.le_refl 0) ((h.2 d1).2 d2)))))))))))))
theorem sp_M_isName {cI : ClassId} {tv : Nat} {w : va_W} {K : q_K} (x0 : Int32) (h : K (some (.int (jf_M_isName x0))) w) : T_M_isName cI tv [.int x0] w K := And.intro (q_le0 _ _ rfl) (fun G hG => sg_M_isName_0 hG w x0 (And.intro (fun c0 => by have e := h; unfold jf_M_isName at e; rw [if_pos c0] at e; exact e) (fun c0 => And.intro (fun c1 => by have e := h; unfold jf_M_isName at e; rw [if_neg c0, if_pos c1] at e; exact e) (fun c1 => by have e := h; unfold jf_M_isName at e; rw [if_neg c0, if_neg c1] at e; exact e))))
end
