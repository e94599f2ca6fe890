/-! the walker: bytecode as a predicate transformer over worlds (lists of cells), sound for the machine -/
abbrev q_L : Type := List (Nat × Value)
abbrev q_G : Type := Nat → q_L → List Value → va_W → Nat → Nat → Prop
abbrev q_K : Type := Option Value → va_W → Prop
abbrev q_T : Type := List Value → va_W → q_K → Prop
def q_look : q_L → Nat → Option Value
  | [], _ => none
  | q :: r, i => cond (Nat.beq q.1 i) (some q.2) (q_look r i)
theorem q_look_in : ∀ {ls : q_L} {i : Nat} {v : Value}, q_look ls i = some v → (i, v) ∈ ls
  | [], _, _, h => by cases h
  | q :: r, i, v, h => by
    unfold q_look at h
    cases hb : Nat.beq q.1 i with
    | true =>
      rw [hb] at h
      have e1 : q.1 = i := Nat.eq_of_beq_eq_true hb
      have e2 : q.2 = v := Option.some.inj h
      rw [← e1, ← e2]
      exact List.mem_cons_self
    | false =>
      rw [hb] at h
      exact List.mem_cons_of_mem _ (q_look_in h)
def q_keep (i : Nat) (q : Nat × Value) : Bool := !(q.1 == i) && !(q.1 + 1 == i && q.2.category == 2)
def q_put : q_L → Nat → Value → q_L
  | [], i, v => [(i, v)]
  | q :: r, i, v => cond (Nat.beq q.1 i) ((i, v) :: r.filter (q_keep i)) (cond (q_keep i q) (q :: q_put r i v) (q_put r i v))
theorem q_put_in : ∀ {ls : q_L} {i : Nat} {v : Value}, ∀ x ∈ q_put ls i v, x ∈ (i, v) :: ls.filter (q_keep i)
  | [], i, v, x, h => h
  | q :: r, i, v, x, h => by
    unfold q_put at h
    have sub : ∀ y, y ∈ (i, v) :: r.filter (q_keep i) → y ∈ (i, v) :: (q :: r).filter (q_keep i) := by
      intro y hy
      rcases List.mem_cons.mp hy with h1 | h1
      · rw [h1]; exact List.mem_cons_self
      · refine List.mem_cons_of_mem _ ?_
        rw [List.mem_filter] at h1 ⊢
        exact ⟨List.mem_cons_of_mem _ h1.1, h1.2⟩
    cases hb : Nat.beq q.1 i with
    | true =>
      rw [hb] at h
      exact sub x h
    | false =>
      rw [hb] at h
      cases hk : q_keep i q with
      | true =>
        rw [hk] at h
        rcases List.mem_cons.mp h with h1 | h1
        · rw [h1]
          refine List.mem_cons_of_mem _ ?_
          rw [List.mem_filter]
          exact ⟨List.mem_cons_self, hk⟩
        · exact sub x (q_put_in x h1)
      | false =>
        rw [hk] at h
        exact sub x (q_put_in x h)
theorem q_put_has {la : Array Slot} {nL i : Nat} {v : Value} {ls : q_L} (h : lv_has la nL ((i, v) :: ls.filter (fun q => !(q.1 == i) && !(q.1 + 1 == i && q.2.category == 2)))) : lv_has la nL (q_put ls i v) := ⟨h.1, h.2.1, fun q hq => h.2.2 q (q_put_in q hq)⟩
def q_jmp (pc : Nat) (off : Int) (k : Nat → Prop) : Prop := match (pc : Int) + off with
  | .ofNat t => k t
  | .negSucc _ => False
theorem q_jmp_to {pc : Nat} {off : Int} {k : Nat → Prop} (h : q_jmp pc off k) : ∃ t : Nat, (pc : Int) + off = (t : Int) ∧ k t := by
  unfold q_jmp at h
  cases e : (pc : Int) + off with
  | ofNat t => rw [e] at h; exact ⟨t, rfl, h⟩
  | negSucc t => rw [e] at h; exact h.elim
def q_find : List (Nat × Instr) → Nat → Option Instr
  | [], _ => none
  | q :: r, pc => cond (Nat.beq q.1 pc) (some q.2) (q_find r pc)
theorem q_find_in : ∀ {L : List (Nat × Instr)} {pc : Nat} {i : Instr}, q_find L pc = some i → (pc, i) ∈ L
  | [], _, _, h => by cases h
  | q :: r, pc, i, h => by
    unfold q_find at h
    cases hb : Nat.beq q.1 pc with
    | true =>
      rw [hb] at h
      have e1 : q.1 = pc := Nat.eq_of_beq_eq_true hb
      have e2 : q.2 = i := Option.some.inj h
      rw [← e1, ← e2]
      exact List.mem_cons_self
    | false =>
      rw [hb] at h
      exact List.mem_cons_of_mem _ (q_find_in h)
/-- a method's instructions, in runs: each with the first pc behind it -/
abbrev q_C : Type := List (Nat × List (Nat × Instr))
def q_tab : q_C → Nat → Option Instr
  | [], _ => none
  | s :: r, pc => cond (Nat.blt pc s.1) (q_find s.2 pc) (q_tab r pc)
def q_len : Instr → Nat
  | .aload _ => 2
  | .astore _ => 2
  | .iload _ => 2
  | .istore _ => 2
  | .lload _ => 2
  | .lstore _ => 2
  | .bipush _ => 2
  | .ldc _ => 2
  | .newarray _ => 2
  | .sipush _ => 3
  | .iinc _ _ => 3
  | .getfield _ => 3
  | .putfield _ => 3
  | .getstatic _ => 3
  | .goto _ => 3
  | .ifCond _ _ => 3
  | .if_icmp _ _ => 3
  | .if_acmp _ _ => 3
  | .ifnull _ => 3
  | .ifnonnull _ => 3
  | .invokevirtual _ => 3
  | .invokespecial _ => 3
  | .invokestatic _ => 3
  | .new _ => 3
  | .anewarray _ => 3
  | .ldc2_w _ => 3
  | .tableswitch _ _ _ _ => 0
  | .lookupswitch _ _ => 0
  | _ => 1
def q_dec (cc : ByteArray) (q : Nat × Instr) : Bool := match decode cc q.1 with
  | .ok (i, n) => decide (i = q.2) && (Nat.beq (q_len q.2) 0 || Nat.beq n (q_len q.2))
  | _ => false
theorem q_tab_ok {cc : ByteArray} : ∀ {S : q_C} (hS : S.all (fun s => s.2.all (q_dec cc)) = true) {pc : Nat} {i : Instr}, q_tab S pc = some i → ∃ n, decode cc pc = .ok (i, n) ∧ (q_len i = 0 ∨ n = q_len i)
  | [], _, _, _, h => by cases h
  | s :: r, hS, pc, i, h => by
    rw [List.all_cons, Bool.and_eq_true] at hS
    unfold q_tab at h
    cases hb : Nat.blt pc s.1 with
    | true =>
      rw [hb] at h
      have hd := List.all_eq_true.mp hS.1 _ (q_find_in h)
      unfold q_dec at hd
      dsimp only at hd
      cases e : decode cc pc with
      | error x => rw [e] at hd; cases hd
      | ok y =>
        obtain ⟨j, n⟩ := y
        rw [e] at hd
        simp only [Bool.and_eq_true, decide_eq_true_eq, Bool.or_eq_true] at hd
        obtain ⟨rfl, h2⟩ := hd
        refine ⟨n, rfl, ?_⟩
        rcases h2 with h2 | h2
        · exact Or.inl (Nat.eq_of_beq_eq_true h2)
        · exact Or.inr (Nat.eq_of_beq_eq_true h2)
    | false =>
      rw [hb] at h
      exact q_tab_ok hS.2 h
theorem q_tab_all {P : Nat × Instr → Bool} : ∀ {S : q_C} (hS : S.all (fun s => s.2.all P) = true) {pc : Nat} {i : Instr}, q_tab S pc = some i → P (pc, i) = true
  | [], _, _, _, h => by cases h
  | s :: r, hS, pc, i, h => by
    rw [List.all_cons, Bool.and_eq_true] at hS
    unfold q_tab at h
    cases hb : Nat.blt pc s.1 with
    | true =>
      rw [hb] at h
      exact List.all_eq_true.mp hS.1 _ (q_find_in h)
    | false =>
      rw [hb] at h
      exact q_tab_all hS.2 h
def q_if (c : Jvm.ClassFile.Cond) (x y : Int32) (a b : Prop) : Prop := match c with
  | .eq => (x = y → a) ∧ (¬ x = y → b)
  | .ne => (¬ x = y → a) ∧ (x = y → b)
  | .lt => (x < y → a) ∧ (¬ x < y → b)
  | .ge => (y ≤ x → a) ∧ (¬ y ≤ x → b)
  | .gt => (y < x → a) ∧ (¬ y < x → b)
  | .le => (x ≤ y → a) ∧ (¬ x ≤ y → b)
def q_c1 (v : Value) : Bool := Nat.beq v.category 1
/-- one step, backwards: what must hold at (pc, locals, stack, world, cells, slots) so that G holds behind it, or K at the end -/
def q_F (S : q_C) (fld : Nat → Option (Nat × Nat × FieldType × Bool)) (sta : Nat → Option Value) (ldc : Nat → Option Int32) (cal : Nat → Nat → Option (Nat × Nat × Nat × q_T)) (nw : Nat → Option (Nat × Nat × List Value)) (cI : ClassId) (tb : Nat → Nat → (Nat → Int32) → Prop) (nL RC RS : Nat) (ret : Option FieldType) (K : q_K) (G : q_G) (pc : Nat) (ls : q_L) (st : List Value) (w : va_W) (nc ns : Nat) : Prop :=
  match q_tab S pc with
  | none => False
  | some i => match i with
    | .aconst_null => G (pc + 1) ls (.null :: st) w nc ns
    | .iconst z => G (pc + 1) ls (.int (Int32.ofInt z) :: st) w nc ns
    | .bipush z => G (pc + 2) ls (.int (Int8.ofInt z).toInt32 :: st) w nc ns
    | .sipush z => G (pc + 3) ls (.int (Int16.ofInt z).toInt32 :: st) w nc ns
    | .ldc n => match ldc n with
      | some v => G (pc + 2) ls (.int v :: st) w nc ns
      | none => False
    | .iload n => match q_look ls n with
      | some (.int x) => G (pc + 2) ls (.int x :: st) w nc ns
      | _ => False
    | .iload_n n => match q_look ls n.val with
      | some (.int x) => G (pc + 1) ls (.int x :: st) w nc ns
      | _ => False
    | .aload n => match q_look ls n with
      | some (.ref x) => G (pc + 2) ls (.ref x :: st) w nc ns
      | _ => False
    | .aload_n n => match q_look ls n.val with
      | some (.ref x) => G (pc + 1) ls (.ref x :: st) w nc ns
      | _ => False
    | .istore n => match st with
      | .int x :: r => cond (Nat.blt n nL) (G (pc + 2) (q_put ls n (.int x)) r w nc ns) False
      | _ => False
    | .istore_n n => match st with
      | .int x :: r => cond (Nat.blt n.val nL) (G (pc + 1) (q_put ls n.val (.int x)) r w nc ns) False
      | _ => False
    | .astore n => match st with
      | .ref x :: r => cond (Nat.blt n nL) (G (pc + 2) (q_put ls n (.ref x)) r w nc ns) False
      | _ => False
    | .astore_n n => match st with
      | .ref x :: r => cond (Nat.blt n.val nL) (G (pc + 1) (q_put ls n.val (.ref x)) r w nc ns) False
      | _ => False
    | .iinc n z => match q_look ls n with
      | some (.int x) => cond (Nat.blt n nL) (G (pc + 3) (q_put ls n (.int (x + Int32.ofInt z))) st w nc ns) False
      | _ => False
    | .iadd => match st with
      | .int y :: .int x :: r => G (pc + 1) ls (.int (x + y) :: r) w nc ns
      | _ => False
    | .isub => match st with
      | .int y :: .int x :: r => G (pc + 1) ls (.int (x - y) :: r) w nc ns
      | _ => False
    | .imul => match st with
      | .int y :: .int x :: r => G (pc + 1) ls (.int (x * y) :: r) w nc ns
      | _ => False
    | .idiv => match st with
      | .int y :: .int x :: r => ¬ y = 0 ∧ G (pc + 1) ls (.int (x / y) :: r) w nc ns
      | _ => False
    | .irem => match st with
      | .int y :: .int x :: r => ¬ y = 0 ∧ G (pc + 1) ls (.int (x - x / y * y) :: r) w nc ns
      | _ => False
    | .iand => match st with
      | .int y :: .int x :: r => G (pc + 1) ls (.int (x &&& y) :: r) w nc ns
      | _ => False
    | .ixor => match st with
      | .int y :: .int x :: r => G (pc + 1) ls (.int (x ^^^ y) :: r) w nc ns
      | _ => False
    | .ineg => match st with
      | .int x :: r => G (pc + 1) ls (.int (-x) :: r) w nc ns
      | _ => False
    | .dup => match st with
      | v :: r => cond (q_c1 v) (G (pc + 1) ls (v :: v :: r) w nc ns) False
      | _ => False
    | .pop => match st with
      | v :: r => cond (q_c1 v) (G (pc + 1) ls r w nc ns) False
      | _ => False
    | .dup_x1 => match st with
      | v :: u :: r => cond (q_c1 v && q_c1 u) (G (pc + 1) ls (v :: u :: v :: r) w nc ns) False
      | _ => False
    | .dup2 => match st with
      | v :: u :: r => cond (q_c1 v && q_c1 u) (G (pc + 1) ls (v :: u :: v :: u :: r) w nc ns) False
      | _ => False
    | .getfield n => match st with
      | .ref a :: r => match fld n with
        | some (ci, k, _, _) => ∃ (q0 : Nat) (fs : List Value) (v : Value), w[q0]? = some (a, .inr (ci, fs)) ∧ fs[k]? = some v ∧ G (pc + 3) ls (v :: r) w nc ns
        | none => False
      | _ => False
    | .putfield n => match st with
      | v :: .ref a :: r => match fld n with
        | some (ci, k, ty, true) => ∃ (q0 : Nat) (fs : List Value), w[q0]? = some (a, .inr (ci, fs)) ∧ k < fs.length ∧ narrow ty v = v ∧ fits ty v = true ∧ G (pc + 3) ls r (w.set q0 (a, .inr (ci, fs.set k v))) nc ns
        | _ => False
      | _ => False
    | .getstatic n => match sta n with
      | some v => G (pc + 3) ls (v :: st) w nc ns
      | none => False
    | .iaload => match st with
      | .int j :: .ref a :: r => (∃ (q0 n : Nat) (f : Nat → Int32), w[q0]? = some (a, .inl (cI, n, .inl f)) ∧ vp_in j n ∧ G (pc + 1) ls (.int (f j.toNatClampNeg) :: r) w nc ns) ∨ (∃ (n : Nat) (f : Nat → Int32), tb a n f ∧ vp_in j n ∧ G (pc + 1) ls (.int (f j.toNatClampNeg) :: r) w nc ns)
      | _ => False
    | .iastore => match st with
      | .int x :: .int j :: .ref a :: r => ∃ (q0 n : Nat) (f : Nat → Int32), w[q0]? = some (a, .inl (cI, n, .inl f)) ∧ vp_in j n ∧ G (pc + 1) ls r (w.set q0 (a, .inl (cI, n, .inl (upd f j.toNatClampNeg x)))) nc ns
      | _ => False
    | .arraylength => match st with
      | .ref a :: r => (∃ (q0 n : Nat) (f : Nat → Int32), w[q0]? = some (a, .inl (cI, n, .inl f)) ∧ G (pc + 1) ls (.int (Int32.ofNat n) :: r) w nc ns) ∨ (∃ (n : Nat) (f : Nat → Int32), tb a n f ∧ G (pc + 1) ls (.int (Int32.ofNat n) :: r) w nc ns)
      | _ => False
    | .goto off => q_jmp pc off (fun t => G t ls st w nc ns)
    | .ifCond c off => match st with
      | .int x :: r => q_jmp pc off (fun t => q_if c x 0 (G t ls r w nc ns) (G (pc + 3) ls r w nc ns))
      | _ => False
    | .if_icmp c off => match st with
      | .int y :: .int x :: r => q_jmp pc off (fun t => q_if c x y (G t ls r w nc ns) (G (pc + 3) ls r w nc ns))
      | _ => False
    | .tableswitch d lo hi offs => match st with
      | .int x :: r => ((x.toInt < lo ∨ hi < x.toInt) → q_jmp pc d (fun t => G t ls r w nc ns)) ∧ ∀ k : Nat, x.toInt = lo + k → x.toInt ≤ hi → match offs.toList[k]? with
        | some off => q_jmp pc off (fun t => G t ls r w nc ns)
        | none => False
      | _ => False
    | .lookupswitch d ps => match st with
      | .int x :: r => (ps.toList.zip (ps.toList.drop 1)).all (fun (a, next) => a.1 < next.1) = true ∧ ∀ off : Int, Op.lookupswitch.offset ps.toList d x.toInt = off → q_jmp pc off (fun t => G t ls r w nc ns)
      | _ => False
    | .invokevirtual n => match cal 0 n with
      | some (na, mc, ms, T) => na ≤ st.length ∧ nc + mc ≤ RC ∧ ns + ms ≤ RS ∧ ((st.drop na).map fun v => v.category).sum ≤ 8 ∧ T (st.take na).reverse w (fun r w' => G (pc + 3) ls (r.toList ++ st.drop na) w' (nc + mc) (ns + ms))
      | none => False
    | .invokespecial n => match cal 1 n with
      | some (na, mc, ms, T) => na ≤ st.length ∧ nc + mc ≤ RC ∧ ns + ms ≤ RS ∧ ((st.drop na).map fun v => v.category).sum ≤ 8 ∧ T (st.take na).reverse w (fun r w' => G (pc + 3) ls (r.toList ++ st.drop na) w' (nc + mc) (ns + ms))
      | none => False
    | .invokestatic n => match cal 2 n with
      | some (na, mc, ms, T) => na ≤ st.length ∧ nc + mc ≤ RC ∧ ns + ms ≤ RS ∧ ((st.drop na).map fun v => v.category).sum ≤ 8 ∧ T (st.take na).reverse w (fun r w' => G (pc + 3) ls (r.toList ++ st.drop na) w' (nc + mc) (ns + ms))
      | none => False
    | .new n => match nw n with
      | some (ci, N, fs) => nc + 1 ≤ RC ∧ ns + N ≤ RS ∧ ∀ q : Nat, G (pc + 3) ls (.ref q :: st) (w ++ [(q, .inr (ci, fs))]) (nc + 1) (ns + N)
      | none => False
    | .newarray .int => match st with
      | .int n :: r => ¬ n < 0 ∧ n.toNatClampNeg * 4 ≤ 536870912 ∧ nc + 1 ≤ RC ∧ ns + n.toNatClampNeg ≤ RS ∧ ∀ q : Nat, G (pc + 2) ls (.ref q :: r) (w ++ [(q, .inl (cI, n.toNatClampNeg, .inl (fun _ => 0)))]) (nc + 1) (ns + n.toNatClampNeg)
      | _ => False
    | .ireturn => match st with
      | [.int v] => match ret with
        | some ty => narrow ty (.int v) = .int v ∧ nc ≤ RC ∧ ns ≤ RS ∧ K (some (.int v)) w
        | none => False
      | _ => False
    | .areturn => match st with
      | [.ref a] => match ret with
        | some (.object _) => nc ≤ RC ∧ ns ≤ RS ∧ K (some (.ref a)) w
        | some (.array _) => nc ≤ RC ∧ ns ≤ RS ∧ K (some (.ref a)) w
        | _ => False
      | _ => False
    | .return_ => match st with
      | [] => match ret with
        | none => nc ≤ RC ∧ ns ≤ RS ∧ K none w
        | some _ => False
      | _ => False
    | _ => False
def q_Cl (F : q_G → q_G) (G : q_G) : Prop := (∀ (pc : Nat) (ls : q_L) (st : List Value) (w : va_W) (nc ns : Nat), F G pc ls st w nc ns → G pc ls st w nc ns) ∧ (∀ (pc : Nat) (ls ls' : q_L) (st : List Value) (w : va_W) (nc ns : Nat), (∀ q ∈ ls, q ∈ ls') → G pc ls st w nc ns → G pc ls' st w nc ns) ∧ (∀ (pc : Nat) (ls : q_L) (st : List Value) (w w' : va_W) (is : List Nat) (nc ns : Nat), va_nd is = true → is.map (fun i => w[i]?) = w'.map some → G pc ls st w' nc ns → G pc ls st w nc ns)
theorem q_lsub {ls ls' : q_L} (ks : List Nat) (h : lv_pick ls' ks = ls) : ∀ q ∈ ls, q ∈ ls' := by
  intro q hq
  rw [← h] at hq
  obtain ⟨k, -, hk⟩ := List.mem_filterMap.mp hq
  exact List.mem_of_getElem? hk
def q_Fn (F : q_G → q_G) : Nat → q_G → q_G
  | 0, G => G
  | n + 1, G => F (q_Fn F n G)
/-- what a method does: K holds behind it, by whatever walk its code allows -/
def q_wp (F : q_K → q_G → q_G) : q_T := fun as w K => ∀ G : q_G, q_Cl (F K) G → G 0 (lv_args 0 as) [] w 0 0
/-- the contract of a method by what it does -/
def q_Qc (K : q_K) (D : va_G) (cl : List vw_C) (tys : List (ClassId × FieldType)) (A : Nat → Prop) : Array Value → State → Outcome → State → Prop := fun _ st oc t => (∃ (r : Option Value) (w' : va_W), oc = .returned r ∧ K r w' ∧ va_P D cl w' t.heap ∧ va_K D cl tys t ∧ va_D A w') ∧ va_F A st t
abbrev q_St : Type := (Nat → Prop) → State → Heap → Prop
def q_StOK (St : q_St) : Prop := (∀ (A : Nat → Prop) (s U : State) (H : Heap), s.WarmedH U.vm → St A s H → St A U H) ∧ (∀ (A : Nat → Prop) (U : State) (H H1 : Heap), St A U H → (∀ a : Nat, a < H.size → ¬ A a → H1[a]? = H[a]?) → St A U H1) ∧ (∀ (A B : Nat → Prop) (U : State) (H : Heap), (∀ q, B q → A q) → St A U H → St B U H) ∧ (∀ (A : Nat → Prop) (U : State) (g : JFrame) (mk : MethodId) (a : Array Value) (H : Heap), St A U H → St A (U.calling g mk a) H)
def q_Met (l : Launch) (y : MethodName) (ws : List Cond) (rm : Room) (D : va_G) (cl : List vw_C) (tys : List (ClassId × FieldType)) (St : q_St) (T : q_T) : Prop := ∀ (sz : Nat) (as : List Value) (w : va_W) (K : q_K), T as w K → Met l y ws rm (va_Pc as (fun U => U.heap.size = sz ∧ va_P D cl w U.heap ∧ va_K D cl tys U ∧ va_D (fun _ => True) w ∧ St (va_A w sz) U U.heap)) (q_Qc K D cl tys (va_A w sz)) rm.cells rm.slots (va_A w sz)
def q_as {α : Type} : List (Nat × α) → Nat → Option α
  | [], _ => none
  | q :: r, n => cond (Nat.beq q.1 n) (some q.2) (q_as r n)
theorem q_as_in {α : Type} : ∀ {L : List (Nat × α)} {n : Nat} {x : α}, q_as L n = some x → (n, x) ∈ L
  | [], _, _, h => by cases h
  | q :: r, n, x, h => by
    unfold q_as at h
    cases hb : Nat.beq q.1 n with
    | true =>
      rw [hb] at h
      have e1 : q.1 = n := Nat.eq_of_beq_eq_true hb
      have e2 : q.2 = x := Option.some.inj h
      rw [← e1, ← e2]
      exact List.mem_cons_self
    | false =>
      rw [hb] at h
      exact List.mem_cons_of_mem _ (q_as_in h)
def q_cal (V I S : List (Nat × (Nat × Nat × Nat × q_T))) : Nat → Nat → Option (Nat × Nat × Nat × q_T) := fun k n => match k with
  | 0 => q_as V n
  | 1 => q_as I n
  | _ => q_as S n
section QM
variable {p : Program} {l : Launch} {e : Env} {R : Room} {s : State} {m : MethodId} {args : Array Value} {below : List Frame} {meth : Method} {c : Code} {Q : State → Prop} {cc : ByteArray} {nL : Nat} {D : va_G} {cl : List vw_C} {A : Nat → Prop} {own : String} {Ts : List Cond} {cI : ClassId}
def q_M (p : Program) (l : Launch) (e : Env) (R : Room) (s : State) (m : MethodId) (args : Array Value) (below : List Frame) (meth : Method) (c : Code) (Q : State → Prop) (nL : Nat) (D : va_G) (cl : List vw_C) (A : Nat → Prop) : q_G := fun pc ls st w nc ns => ∀ (H : Heap) (locs : List Loc) (la : Array Slot), lv_has la nL ls → va_P D cl w H → va_D A w → va_S A s.heap H locs → W p l e R s m args below meth c H locs nc ns Q (F0 m pc la st)
def q_inv (k n : Nat) : Instr := match k with
  | 0 => .invokevirtual n
  | 1 => .invokespecial n
  | _ => .invokestatic n
def q_CallOK (p : Program) (l : Launch) (e : Env) (R : Room) (s : State) (m : MethodId) (args : Array Value) (below : List Frame) (meth : Method) (c : Code) (cc : ByteArray) (nL : Nat) (D : va_G) (cl : List vw_C) (A : Nat → Prop) (i : Instr) (na mc ms : Nat) (T : q_T) : Prop := ∀ (Q : State → Prop) (pc : Nat) (la : Array Slot) (as rest : List Value) (w : va_W) (K' : q_K) (H : Heap) (locs : List Loc) (nc ns : Nat), decode cc pc = .ok (i, 3) → la.size = nL → as.length = na → (rest.map fun v => v.category).sum ≤ 8 → nc + mc ≤ R.cells → ns + ms ≤ R.slots → T as w K' → va_P D cl w H → va_D A w → va_S A s.heap H locs → (∀ (r : Option Value) (w' : va_W) (H1 : Heap) (locs1 : List Loc), K' r w' → va_P D cl w' H1 → va_D A w' → va_S A s.heap H1 locs1 → W p l e R s m args below meth c H1 locs1 (nc + mc) (ns + ms) Q (F0 m (pc + 3) la (r.toList ++ rest))) → W p l e R s m args below meth c H locs nc ns Q (F0 m pc la (as.reverse ++ rest))
def q_FldOK (ini : Bool) (own : String) (Ts : List Cond) (cl : List vw_C) (n ci k : Nat) (ty : FieldType) (wr : Bool) : Prop := ∃ (C : String) (T : u_T) (N : Nat) (ref : String) (ty0 : Nat → FieldType), cl[ci]? = some (C, T, N) ∧ (∀ w ∈ u_ws C T N, w ∈ Ts) ∧ k < N ∧ Cond.fieldLink own n ref (T k).2.1 (T k).2.2.1 ∈ Ts ∧ (T k).1 = ref ∧ parseFieldDescriptor (T k).2.2.1 = some ty ∧ (∀ k, k < N → parseFieldDescriptor (T k).2.2.1 = some (ty0 k)) ∧ (∀ a, a < N → ∀ b, b < N → a ≠ b → (T a).2.1 ≠ (T b).2.1) ∧ (wr = true → ((T k).2.2.2 = false ∨ ((T k).2.2.2 = true ∧ ini = true ∧ (T k).1 = own)))
def q_NwOK (own : String) (Ts : List Cond) (cl : List vw_C) (n ci N : Nat) (fs : List Value) : Prop := ∃ (C : String) (T : u_T) (ty0 : Nat → FieldType), cl[ci]? = some (C, T, N) ∧ (∀ w ∈ u_ws C T N, w ∈ Ts) ∧ (∀ k, k < N → parseFieldDescriptor (T k).2.2.1 = some (ty0 k)) ∧ Cond.classLink own n C ∈ Ts ∧ Cond.instantiable C N ∈ Ts ∧ Cond.initialized C ∈ Ts ∧ ∀ j, j < N → defaultValue (ty0 j) = vp_V fs j
theorem q_cI {cA : ClassId} (hK : va_K D cl [(cI, .int)] s) (h : va_K D cl ([(cI, FieldType.int)] ++ [(cA, .int)]) s) : cA = cI := by
  have h1 : s.vm.findClass ("[" ++ FieldType.int.toString) = some cI := (hK.2 0 _ rfl).2
  have h2 : s.vm.findClass ("[" ++ FieldType.int.toString) = some cA := (h.2 1 _ rfl).2
  exact Option.some.inj (h2.symm.trans h1)
def q_Ctx (p : Program) (s : State) (m : MethodId) (args : Array Value) (c : Code) (cc : ByteArray) (nL : Nat) (own : String) (Ts : List Cond) (D : va_G) (cl : List vw_C) (cI : ClassId) (A : Nat → Prop) (St : q_St) : Prop := p.tables.exec = Jvm.exec ∧ c.code = cc ∧ c.maxLocals = nL ∧ s.vm.findClass own = some m.cls ∧ (∀ w ∈ Ts, w.before args s = true) ∧ va_K D cl [(cI, .int)] s ∧ (∀ q : Nat, s.heap.size ≤ q → A q) ∧ St A s s.heap
def q_CalOK (l : Launch) (R : Room) (cc : ByteArray) (nL : Nat) (own : String) (Ts : List Cond) (D : va_G) (cl : List vw_C) (cI : ClassId) (St : q_St) (i : Instr) (na mc ms : Nat) (T : q_T) : Prop := ∀ (p : Program) (e : Env) (s : State) (m : MethodId) (args : Array Value) (below : List Frame) (meth : Method) (c : Code) (A : Nat → Prop), q_Ctx p s m args c cc nL own Ts D cl cI A St → q_CallOK p l e R s m args below meth c cc nL D cl A i na mc ms T
/-- the words of a method's code are there -/
def q_OK (S : q_C) (fld : Nat → Option (Nat × Nat × FieldType × Bool)) (sta : Nat → Option Value) (ldc : Nat → Option Int32) (cal : Nat → Nat → Option (Nat × Nat × Nat × q_T)) (nw : Nat → Option (Nat × Nat × List Value)) (tb : Nat → Nat → (Nat → Int32) → Prop) (l : Launch) (R : Room) (cc : ByteArray) (nL : Nat) (own : String) (Ts : List Cond) (D : va_G) (cl : List vw_C) (cI : ClassId) (St : q_St) (ini : Bool) : Prop :=
  S.all (fun x => x.2.all (q_dec cc)) = true ∧ (∀ n ci k ty wr, fld n = some (ci, k, ty, wr) → q_FldOK ini own Ts cl n ci k ty wr) ∧
  (∀ n v, sta n = some v → ∃ C nm d, (∀ (A : Nat → Prop) (U : State) (H : Heap), St A U H → va_Z C nm d v A U H) ∧ Cond.fieldLink own n C nm d ∈ Ts) ∧
  (∀ n v, ldc n = some v → Jvm.Cond.constant own n v ∈ Ts) ∧ (∀ a n f, tb a n f → ∀ (A : Nat → Prop) (U : State) (H : Heap), St A U H → va_T .int a n (fun j => .int (f j)) A U H) ∧
  (∀ k n na mc ms T, cal k n = some (na, mc, ms, T) → q_CalOK l R cc nL own Ts D cl cI St (q_inv k n) na mc ms T) ∧
  (∀ n ci N fs, nw n = some (ci, N, fs) → q_NwOK own Ts cl n ci N fs) ∧ (S.all (fun x => x.2.all (fun y => !(decide (y.2 = .newarray .int)))) = true ∨ Cond.arrayClass .int ∈ Ts)
theorem q_Psub {w w' : va_W} {H : Heap} (hP : va_P D cl w H) (is : List Nat) (he : is.map (fun i => w[i]?) = w'.map some) : va_P D cl w' H := by
  intro k q hq
  have h1 : (is.map (fun i => w[i]?))[k]? = some (some q) := by rw [he, List.getElem?_map, hq]; rfl
  rw [List.getElem?_map] at h1
  cases hi : is[k]? with
  | none => rw [hi] at h1; cases h1
  | some i => rw [hi] at h1; exact hP i q (Option.some.inj h1)
/-- what a return does -/
def q_Ret (p : Program) (l : Launch) (e : Env) (R : Room) (s : State) (m : MethodId) (args : Array Value) (below : List Frame) (meth : Method) (c : Code) (cc : ByteArray) (D : va_G) (cl : List vw_C) (A : Nat → Prop) (Q : State → Prop) (ret : Option FieldType) (RC RS : Nat) (K : q_K) : Prop :=
  (∀ (v : Int32) (ty : FieldType) (pc : Nat) (la : Array Slot) (w : va_W) (nc ns : Nat) (H : Heap) (locs : List Loc), ret = some ty → decode cc pc = .ok (.ireturn, 1) → narrow ty (.int v) = .int v → nc ≤ RC → ns ≤ RS → K (some (.int v)) w → va_P D cl w H → va_D A w → va_S A s.heap H locs → W p l e R s m args below meth c H locs nc ns Q (F0 m pc la [.int v])) ∧
  (∀ (a : Nat) (ty : FieldType) (pc : Nat) (la : Array Slot) (w : va_W) (nc ns : Nat) (H : Heap) (locs : List Loc), ret = some ty → ((∃ n, ty = .object n) ∨ ∃ t, ty = .array t) → decode cc pc = .ok (.areturn, 1) → nc ≤ RC → ns ≤ RS → K (some (.ref a)) w → va_P D cl w H → va_D A w → va_S A s.heap H locs → W p l e R s m args below meth c H locs nc ns Q (F0 m pc la [.ref a])) ∧
  (∀ (pc : Nat) (la : Array Slot) (w : va_W) (nc ns : Nat) (H : Heap) (locs : List Loc), ret = none → decode cc pc = .ok (.return_, 1) → nc ≤ RC → ns ≤ RS → K none w → va_P D cl w H → va_D A w → va_S A s.heap H locs → W p l e R s m args below meth c H locs nc ns Q (F0 m pc la []))
theorem q_ret_MQ {ret : Option FieldType} {RC RS : Nat} {K : q_K} (hx : p.tables.exec = Jvm.exec) (hb : c.code = cc) (hK : va_K D cl [(cI, .int)] s) (hr : meth.sig.returnType = ret) (hlocks : meth.locks = false) : q_Ret p l e R s m args below meth c cc D cl A (MQ below (q_Qc K D cl [(cI, .int)] A) args s RC RS A) ret RC RS K := by
  refine ⟨fun v ty pc la w nc ns H locs e1 hd h1 h2 h3 h4 hP hD hS => ?_, fun a ty pc la w nc ns H locs e1 e2 hd h2 h3 h4 hP hD hS => ?_, fun pc la w nc ns H locs e1 hd h2 h3 h4 hP hD hS => ?_⟩
  · exact W.widen h2 h3 (W.zret hx hb (hr.trans e1) h1 (fun t ht hW => ⟨⟨_, w, rfl, h4, by rw [ht]; exact hP, va_K.moved hW.alike hK, hD⟩, hS.F ht⟩) hS.2.2 hd hlocks)
  · exact W.widen h2 h3 (W.aret hx hb (hr.trans e1) e2 (Or.inr ⟨_, rfl⟩) (fun t ht hW => ⟨⟨_, w, rfl, h4, by rw [ht]; exact hP, va_K.moved hW.alike hK, hD⟩, hS.F ht⟩) hS.2.2 hd hlocks)
  · exact W.widen h2 h3 (W.vret hx hb (hr.trans e1) (fun t ht hW => ⟨⟨_, w, rfl, h4, by rw [ht]; exact hP, va_K.moved hW.alike hK, hD⟩, hS.F ht⟩) hS.2.2 hd hlocks)
set_option maxHeartbeats 4000000 in
theorem q_sound {St : q_St} {S : q_C} {fld : Nat → Option (Nat × Nat × FieldType × Bool)} {sta : Nat → Option Value} {ldc : Nat → Option Int32} {cal : Nat → Nat → Option (Nat × Nat × Nat × q_T)} {nw : Nat → Option (Nat × Nat × List Value)} {tb : Nat → Nat → (Nat → Int32) → Prop} {RC RS : Nat} {ret : Option FieldType} {K : q_K} {ini : Bool}
    (hC : q_Ctx p s m args c cc nL own Ts D cl cI A St) (hin : ini = true → meth.name = "<init>") (hO : q_OK S fld sta ldc cal nw tb l R cc nL own Ts D cl cI St ini)
    (hRC : RC = R.cells) (hRS : RS = R.slots) (hRet : q_Ret p l e R s m args below meth c cc D cl A Q ret RC RS K) :
    q_Cl (q_F S fld sta ldc cal nw cI tb nL RC RS ret K) (q_M p l e R s m args below meth c Q nL D cl A) := by
  obtain ⟨htab, hfld, hsta, hldc, htb, hcal, hnw, harr⟩ := hO
  obtain ⟨hx, hb, hml, hown, hts, hK, hA, hSt⟩ := id hC
  refine ⟨?_, fun pc ls ls' st w nc ns hsub h H locs la hl hP hD hS => h H locs la ⟨hl.1, hl.2.1, fun q hq => hl.2.2 q (hsub q hq)⟩ hP hD hS, fun pc ls st w w' is nc ns hn he h H locs la hl hP hD hS => h H locs la hl (q_Psub hP is he) (hD.sub is hn he) hS⟩
  intro pc ls st w nc ns h H locs la hl hP hD hS
  unfold q_F at h
  cases ht : q_tab S pc with
  | none => rw [ht] at h; exact h.elim
  | some i =>
    rw [ht] at h
    obtain ⟨n0, hd, hn0⟩ := q_tab_ok htab ht
    have call : ∀ (k n : Nat), i = q_inv k n → (match cal k n with
      | some (na, mc, ms, T) => na ≤ st.length ∧ nc + mc ≤ RC ∧ ns + ms ≤ RS ∧ ((st.drop na).map fun v => v.category).sum ≤ 8 ∧ T (st.take na).reverse w (fun r w' => q_M p l e R s m args below meth c Q nL D cl A (pc + 3) ls (r.toList ++ st.drop na) w' (nc + mc) (ns + ms))
      | none => False) → W p l e R s m args below meth c H locs nc ns Q (F0 m pc la st) := by
      intro k n hi h
      cases hc : cal k n with
      | none => rw [hc] at h; exact h.elim
      | some x =>
        obtain ⟨na, mc, ms, T⟩ := x
        rw [hc] at h
        obtain ⟨h1, h2, h3, h4, h5⟩ := h
        have hn3 : n0 = 3 := by
          rcases hn0 with h | h
          · rw [hi] at h; unfold q_inv at h; split at h <;> cases h
          · rw [hi] at h; unfold q_inv at h; split at h <;> exact h
        subst hn3
        have e1 : st = (st.take na).reverse.reverse ++ st.drop na := by rw [List.reverse_reverse, List.take_append_drop]
        have e2 : F0 m pc la st = F0 m pc la ((st.take na).reverse.reverse ++ st.drop na) := by rw [← e1]
        rw [e2]
        refine hcal k n na mc ms T hc p e s m args below meth c A hC Q pc la (st.take na).reverse (st.drop na) w _ H locs nc ns (by rw [← hi]; exact hd) hl.1 (by rw [List.length_reverse, List.length_take]; omega) h4 (by rw [← hRC]; exact h2) (by rw [← hRS]; exact h3) h5 hP hD hS ?_
        intro r w' H1 locs1 hk hP1 hD1 hS1
        exact hk H1 locs1 la hl hP1 hD1 hS1
    cases i with
    | aconst_null =>
      cases hn0.resolve_left (Nat.succ_ne_zero _)
      exact lv_null hx hb hd (h H locs la hl hP hD hS)
    | iconst z =>
      cases hn0.resolve_left (Nat.succ_ne_zero _)
      exact lv_iconst hx hb hd rfl (h H locs la hl hP hD hS)
    | bipush z =>
      cases hn0.resolve_left (Nat.succ_ne_zero _)
      exact lv_bipush hx hb hd rfl (h H locs la hl hP hD hS)
    | sipush z =>
      cases hn0.resolve_left (Nat.succ_ne_zero _)
      exact lv_sipush hx hb hd rfl (h H locs la hl hP hD hS)
    | ldc n =>
      cases hn0.resolve_left (Nat.succ_ne_zero _)
      dsimp only at h
      cases hc : ldc n with
      | none => rw [hc] at h; exact h.elim
      | some v => rw [hc] at h; exact lv_ldc hx hb hown (hts _ (hldc n v hc)) hd (h H locs la hl hP hD hS)
    | iload n =>
      cases hn0.resolve_left (Nat.succ_ne_zero _)
      dsimp only at h
      split at h
      · rename_i x hq; exact lv_iload hx hb hd (hl.2.2 _ (q_look_in hq)) (h H locs la hl hP hD hS)
      · exact h.elim
    | iload_n n =>
      cases hn0.resolve_left (Nat.succ_ne_zero _)
      dsimp only at h
      split at h
      · rename_i x hq; exact lv_iload_n hx hb hd rfl (hl.2.2 _ (q_look_in hq)) (h H locs la hl hP hD hS)
      · exact h.elim
    | aload n =>
      cases hn0.resolve_left (Nat.succ_ne_zero _)
      dsimp only at h
      split at h
      · rename_i x hq; exact lv_aload hx hb hd (hl.2.2 _ (q_look_in hq)) (h H locs la hl hP hD hS)
      · exact h.elim
    | aload_n n =>
      cases hn0.resolve_left (Nat.succ_ne_zero _)
      dsimp only at h
      split at h
      · rename_i x hq; exact lv_aload_n hx hb hd rfl (hl.2.2 _ (q_look_in hq)) (h H locs la hl hP hD hS)
      · exact h.elim
    | istore n =>
      cases hn0.resolve_left (Nat.succ_ne_zero _)
      dsimp only at h
      split at h
      · cases hq : Nat.blt n nL with
        | false => rw [hq] at h; exact h.elim
        | true => rw [hq] at h; exact lv_istore hx hb hd hl (Nat.le_of_ble_eq_true hq) rfl (fun la' hl' => h H locs la' (q_put_has hl') hP hD hS)
      · exact h.elim
    | istore_n n =>
      cases hn0.resolve_left (Nat.succ_ne_zero _)
      dsimp only at h
      split at h
      · cases hq : Nat.blt n.val nL with
        | false => rw [hq] at h; exact h.elim
        | true => rw [hq] at h; exact lv_istore_n hx hb hd rfl hl (Nat.le_of_ble_eq_true hq) rfl (fun la' hl' => h H locs la' (q_put_has hl') hP hD hS)
      · exact h.elim
    | astore n =>
      cases hn0.resolve_left (Nat.succ_ne_zero _)
      dsimp only at h
      split at h
      · cases hq : Nat.blt n nL with
        | false => rw [hq] at h; exact h.elim
        | true => rw [hq] at h; exact lv_astore hx hb hd hl (Nat.le_of_ble_eq_true hq) rfl (fun la' hl' => h H locs la' (q_put_has hl') hP hD hS)
      · exact h.elim
    | astore_n n =>
      cases hn0.resolve_left (Nat.succ_ne_zero _)
      dsimp only at h
      split at h
      · cases hq : Nat.blt n.val nL with
        | false => rw [hq] at h; exact h.elim
        | true => rw [hq] at h; exact lv_astore_n hx hb hd rfl hl (Nat.le_of_ble_eq_true hq) rfl (fun la' hl' => h H locs la' (q_put_has hl') hP hD hS)
      · exact h.elim
    | iinc n z =>
      cases hn0.resolve_left (Nat.succ_ne_zero _)
      dsimp only at h
      split at h
      · rename_i x hq0
        cases hq : Nat.blt n nL with
        | false => rw [hq] at h; exact h.elim
        | true =>
          rw [hq] at h
          obtain ⟨k, hk⟩ := List.getElem?_of_mem (q_look_in hq0)
          exact lv_iinc hx hb hd hl hk rfl (Nat.le_of_ble_eq_true hq) rfl (fun la' hl' => h H locs la' (q_put_has hl') hP hD hS)
      · exact h.elim
    | iadd =>
      cases hn0.resolve_left (Nat.succ_ne_zero _)
      dsimp only at h
      split at h
      · exact lv_iadd hx hb hd (h H locs la hl hP hD hS)
      · exact h.elim
    | isub =>
      cases hn0.resolve_left (Nat.succ_ne_zero _)
      dsimp only at h
      split at h
      · exact lv_isub hx hb hd (h H locs la hl hP hD hS)
      · exact h.elim
    | imul =>
      cases hn0.resolve_left (Nat.succ_ne_zero _)
      dsimp only at h
      split at h
      · exact lv_imul hx hb hd (h H locs la hl hP hD hS)
      · exact h.elim
    | idiv =>
      cases hn0.resolve_left (Nat.succ_ne_zero _)
      dsimp only at h
      split at h
      · exact lv_idiv hx hb hd h.1 (h.2 H locs la hl hP hD hS)
      · exact h.elim
    | irem =>
      cases hn0.resolve_left (Nat.succ_ne_zero _)
      dsimp only at h
      split at h
      · exact lv_irem hx hb hd h.1 (h.2 H locs la hl hP hD hS)
      · exact h.elim
    | iand =>
      cases hn0.resolve_left (Nat.succ_ne_zero _)
      dsimp only at h
      split at h
      · exact lv_iand hx hb hd (h H locs la hl hP hD hS)
      · exact h.elim
    | ixor =>
      cases hn0.resolve_left (Nat.succ_ne_zero _)
      dsimp only at h
      split at h
      · exact lv_ixor hx hb hd (h H locs la hl hP hD hS)
      · exact h.elim
    | ineg =>
      cases hn0.resolve_left (Nat.succ_ne_zero _)
      dsimp only at h
      split at h
      · exact lv_ineg hx hb hd (h H locs la hl hP hD hS)
      · exact h.elim
    | dup =>
      cases hn0.resolve_left (Nat.succ_ne_zero _)
      dsimp only at h
      split at h
      · rename_i v r
        cases hq : q_c1 v with
        | false => rw [hq] at h; exact h.elim
        | true => rw [hq] at h; exact lv_dup hx hb hd (Nat.eq_of_beq_eq_true hq) (h H locs la hl hP hD hS)
      · exact h.elim
    | pop =>
      cases hn0.resolve_left (Nat.succ_ne_zero _)
      dsimp only at h
      split at h
      · rename_i v r
        cases hq : q_c1 v with
        | false => rw [hq] at h; exact h.elim
        | true => rw [hq] at h; exact lv_pop hx hb hd (Nat.eq_of_beq_eq_true hq) (h H locs la hl hP hD hS)
      · exact h.elim
    | dup_x1 =>
      cases hn0.resolve_left (Nat.succ_ne_zero _)
      dsimp only at h
      split at h
      · rename_i v u r
        cases hq : (q_c1 v && q_c1 u) with
        | false => rw [hq] at h; exact h.elim
        | true =>
          rw [hq] at h
          rw [Bool.and_eq_true] at hq
          exact lv_dup_x1 hx hb hd (Nat.eq_of_beq_eq_true hq.1) (Nat.eq_of_beq_eq_true hq.2) (h H locs la hl hP hD hS)
      · exact h.elim
    | dup2 =>
      cases hn0.resolve_left (Nat.succ_ne_zero _)
      dsimp only at h
      split at h
      · rename_i v u r
        cases hq : (q_c1 v && q_c1 u) with
        | false => rw [hq] at h; exact h.elim
        | true =>
          rw [hq] at h
          rw [Bool.and_eq_true] at hq
          exact lv_dup2_11 hx hb hd (Nat.eq_of_beq_eq_true hq.1) (Nat.eq_of_beq_eq_true hq.2) (h H locs la hl hP hD hS)
      · exact h.elim
    | getfield n =>
      cases hn0.resolve_left (Nat.succ_ne_zero _)
      dsimp only at h
      split at h
      · cases hc : fld n with
        | none => rw [hc] at h; exact h.elim
        | some x =>
          obtain ⟨ci, k, ty, wr⟩ := x
          rw [hc] at h
          obtain ⟨q0, fs, v, h1, h2, h3⟩ := h
          obtain ⟨C, T, N, ref, ty0, g1, g2, g3, g4, g5, g6, g7, g8, g9⟩ := hfld n ci k ty wr hc
          exact va_get hx hb hts g2 hown hK hP q0 h1 g1 k g3 (hts _ g4) (fun x hx => by rw [← g5]; exact hx) h2 hd (h3 H locs la hl hP hD hS)
      · exact h.elim
    | putfield n =>
      cases hn0.resolve_left (Nat.succ_ne_zero _)
      dsimp only at h
      split at h
      · cases hc : fld n with
        | none => rw [hc] at h; exact h.elim
        | some x =>
          obtain ⟨ci, k, ty, wr⟩ := x
          rw [hc] at h
          cases wr with
          | false => exact h.elim
          | true =>
            obtain ⟨q0, fs, h1, h2, h3, h4, h5⟩ := h
            obtain ⟨C, T, N, ref, ty0, g1, g2, g3, g4, g5, g6, g7, g8, g9⟩ := hfld n ci k ty true hc
            rcases g9 rfl with g9 | ⟨g9, g10, g11⟩
            · exact va_put hx hb hts g2 ty0 g7 g8 hown hK hP hD hS q0 h1 g1 k g3 (hts _ g4) (fun x hx => by rw [← g5]; exact hx) g9 g6 h3 h4 h2 hd (fun H1 locs1 hP1 hD1 hS1 => h5 H1 locs1 la hl hP1 hD1 hS1)
            · exact va_putF hx hb hts g2 ty0 g7 g8 hown hK hP hD hS q0 h1 g1 k g3 (hts _ g4) (fun x hx => by rw [← g5]; exact hx) g9 (hin g10) g11 g6 h3 h4 h2 hd (fun H1 locs1 hP1 hD1 hS1 => h5 H1 locs1 la hl hP1 hD1 hS1)
      · exact h.elim
    | getstatic n =>
      cases hn0.resolve_left (Nat.succ_ne_zero _)
      dsimp only at h
      cases hc : sta n with
      | none => rw [hc] at h; exact h.elim
      | some v =>
        rw [hc] at h
        obtain ⟨C, nm, d, g1, g2⟩ := hsta n v hc
        exact va_gets hx hb (g1 _ _ _ hSt) hS hown (hts _ g2) (fun x hx => hx) hd (h H locs la hl hP hD hS)
    | iaload =>
      cases hn0.resolve_left (Nat.succ_ne_zero _)
      dsimp only at h
      split at h
      · rcases h with ⟨q0, n, f, h1, h2, h3⟩ | ⟨n, f, h1, h2, h3⟩
        · exact va_iald hx hb hK hP q0 0 h1 rfl h2 hd (h3 H locs la hl hP hD hS)
        · exact va_ti hx hb (htb _ _ _ h1 _ _ _ hSt) hS h2 rfl hd (h3 H locs la hl hP hD hS)
      · exact h.elim
    | iastore =>
      cases hn0.resolve_left (Nat.succ_ne_zero _)
      dsimp only at h
      split at h
      · obtain ⟨q0, n, f, h1, h2, h3⟩ := h
        exact va_iast hx hb hK hP hD hS q0 0 h1 rfl h2 hd (fun H1 locs1 hP1 hD1 hS1 => h3 H1 locs1 la hl hP1 hD1 hS1)
      · exact h.elim
    | arraylength =>
      cases hn0.resolve_left (Nat.succ_ne_zero _)
      dsimp only at h
      split at h
      · rcases h with ⟨q0, n, f, h1, h3⟩ | ⟨n, f, h1, h3⟩
        · exact va_alen hx hb hK hP q0 0 h1 rfl rfl hd (h3 H locs la hl hP hD hS)
        · exact va_tlen hx hb (htb _ _ _ h1 _ _ _ hSt) hS rfl hd (h3 H locs la hl hP hD hS)
      · exact h.elim
    | goto off =>
      cases hn0.resolve_left (Nat.succ_ne_zero _)
      obtain ⟨t, e1, h1⟩ := q_jmp_to h
      exact lv_goto hx hb hd e1 (h1 H locs la hl hP hD hS)
    | ifCond cn off =>
      cases hn0.resolve_left (Nat.succ_ne_zero _)
      dsimp only at h
      split at h
      · obtain ⟨t, e1, h1⟩ := q_jmp_to h
        cases cn with
        | eq => exact lv_if_eq hx hb hd e1 (fun g => h1.1 g H locs la hl hP hD hS) (fun g => h1.2 g H locs la hl hP hD hS)
        | ne => exact lv_if_ne hx hb hd e1 (fun g => h1.1 g H locs la hl hP hD hS) (fun g => h1.2 g H locs la hl hP hD hS)
        | lt => exact lv_if_lt hx hb hd e1 (fun g => h1.1 g H locs la hl hP hD hS) (fun g => h1.2 g H locs la hl hP hD hS)
        | ge => exact lv_if_ge hx hb hd e1 (fun g => h1.1 g H locs la hl hP hD hS) (fun g => h1.2 g H locs la hl hP hD hS)
        | gt => exact lv_if_gt hx hb hd e1 (fun g => h1.1 g H locs la hl hP hD hS) (fun g => h1.2 g H locs la hl hP hD hS)
        | le => exact lv_if_le hx hb hd e1 (fun g => h1.1 g H locs la hl hP hD hS) (fun g => h1.2 g H locs la hl hP hD hS)
      · exact h.elim
    | if_icmp cn off =>
      cases hn0.resolve_left (Nat.succ_ne_zero _)
      dsimp only at h
      split at h
      · obtain ⟨t, e1, h1⟩ := q_jmp_to h
        cases cn with
        | eq => exact lv_icmp_eq hx hb hd e1 (fun g => h1.1 g H locs la hl hP hD hS) (fun g => h1.2 g H locs la hl hP hD hS)
        | ne => exact lv_icmp_ne hx hb hd e1 (fun g => h1.1 g H locs la hl hP hD hS) (fun g => h1.2 g H locs la hl hP hD hS)
        | lt => exact lv_icmp_lt hx hb hd e1 (fun g => h1.1 g H locs la hl hP hD hS) (fun g => h1.2 g H locs la hl hP hD hS)
        | ge => exact lv_icmp_ge hx hb hd e1 (fun g => h1.1 g H locs la hl hP hD hS) (fun g => h1.2 g H locs la hl hP hD hS)
        | gt => exact lv_icmp_gt hx hb hd e1 (fun g => h1.1 g H locs la hl hP hD hS) (fun g => h1.2 g H locs la hl hP hD hS)
        | le => exact lv_icmp_le hx hb hd e1 (fun g => h1.1 g H locs la hl hP hD hS) (fun g => h1.2 g H locs la hl hP hD hS)
      · exact h.elim
    | tableswitch d lo hi offs =>
      dsimp only at h
      split at h
      · rename_i x r
        by_cases hc : x.toInt < lo ∨ hi < x.toInt
        · obtain ⟨t, e1, h1⟩ := q_jmp_to (h.1 hc)
          exact lv_tableOut hx hb hd hc e1 (h1 H locs la hl hP hD hS)
        · have g1 : ¬ x.toInt < lo := fun q => hc (Or.inl q)
          have g2 : ¬ hi < x.toInt := fun q => hc (Or.inr q)
          have h2 := h.2 (x.toInt - lo).toNat (by omega) (by omega)
          cases ho : offs.toList[(x.toInt - lo).toNat]? with
          | none => rw [ho] at h2; exact h2.elim
          | some off =>
            rw [ho] at h2
            obtain ⟨t, e1, h1⟩ := q_jmp_to h2
            exact lv_tableIn hx hb hd g1 g2 (by rw [← Array.getElem?_toList]; exact ho) e1 (h1 H locs la hl hP hD hS)
      · exact h.elim
    | lookupswitch d ps =>
      dsimp only at h
      split at h
      · rename_i x r
        obtain ⟨t, e1, h1⟩ := q_jmp_to (h.2 _ rfl)
        exact lv_lookup hx hb hd h.1 rfl e1 (h1 H locs la hl hP hD hS)
      · exact h.elim
    | invokevirtual n => exact call 0 n rfl h
    | invokespecial n => exact call 1 n rfl h
    | invokestatic n => exact call 2 n rfl h
    | new n =>
      cases hn0.resolve_left (Nat.succ_ne_zero _)
      dsimp only at h
      cases hc : nw n with
      | none => rw [hc] at h; exact h.elim
      | some x =>
        obtain ⟨ci, N, fs⟩ := x
        rw [hc] at h
        obtain ⟨h1, h2, h3⟩ := h
        obtain ⟨C, T, ty0, g1, g2, g3, g4, g5, g6, g7⟩ := hnw n ci N fs hc
        exact va_new hx hb hts g2 ty0 g3 hown (hts _ g4) (hts _ g5) (hts _ g6) hK hP hD hS hA g1 g7 (by rw [← hRC]; exact h1) (by rw [← hRS]; exact h2) hd (fun q H1 hP1 hD1 hS1 => h3 q H1 locs la hl hP1 hD1 hS1)
    | newarray ty =>
      cases hn0.resolve_left (Nat.succ_ne_zero _)
      cases ty with
      | int =>
        dsimp only at h
        split at h
        · rename_i n r
          obtain ⟨h1, h2, h3, h4, h5⟩ := h
          have ha2 : (Cond.arrayClass .int).before args s = true := by
            rcases harr with g | g
            · exact absurd (q_tab_all g ht) (by simp)
            · exact hts _ g
          refine va_newa (ty := .int) (a0 := (n.toNatClampNeg, .inl (fun _ => 0))) hx hb (atype := .int) ha2 rfl hK hP hD hS hA (fun cA => rfl) h1 rfl h2 (by rw [← hRC]; exact h3) (by rw [← hRS]; exact h4) hd (fun q cA H1 hK1 hP1 hD1 hS1 => ?_)
          have hcA := q_cI hK hK1
          subst hcA
          exact h5 q H1 locs la hl hP1 hD1 hS1
        · exact h.elim
      | _ => exact h.elim
    | ireturn =>
      cases hn0.resolve_left (Nat.succ_ne_zero _)
      dsimp only at h
      split at h
      · rename_i v
        cases ret with
        | none => exact h.elim
        | some ty => exact hRet.1 v ty pc la w nc ns H locs rfl hd h.1 h.2.1 h.2.2.1 h.2.2.2 hP hD hS
      · exact h.elim
    | areturn =>
      cases hn0.resolve_left (Nat.succ_ne_zero _)
      dsimp only at h
      split at h
      · rename_i a
        split at h
        · exact hRet.2.1 a _ pc la w nc ns H locs rfl (Or.inl ⟨_, rfl⟩) hd h.1 h.2.1 h.2.2 hP hD hS
        · exact hRet.2.1 a _ pc la w nc ns H locs rfl (Or.inr ⟨_, rfl⟩) hd h.1 h.2.1 h.2.2 hP hD hS
        · exact h.elim
      · exact h.elim
    | return_ =>
      cases hn0.resolve_left (Nat.succ_ne_zero _)
      dsimp only at h
      split at h
      · cases ret with
        | some ty => exact h.elim
        | none => exact hRet.2.2 pc la w nc ns H locs rfl hd h.1 h.2.1 h.2.2 hP hD hS
      · exact h.elim
    | _ => exact h.elim
theorem q_free {w : va_W} {H : Heap} {locs : List Loc} (hD : va_D A w) (hS : va_S A s.heap H locs) (hA : ∀ q : Nat, s.heap.size ≤ q → A q) : ∀ q, va_A w H.size q → A q := by
  intro q h
  rcases h with ⟨k, x, h⟩ | h
  · exact hD.2 k _ h
  · exact hA q (Nat.le_trans hS.1 h)
theorem q_go {tys : List (ClassId × FieldType)} {H : Heap} {locs : List Loc} {nc ns mc ms pc : Nat} {la : Array Slot} {st0 rest : List Value} {w : va_W} {K' : q_K} {a : Array Value} (hr : va_Run p l e R s m args below meth c H locs nc ns mc ms (F0 m pc la st0) rest (q_Qc K' D cl tys (va_A w H.size) a) (va_A w H.size)) (hS : va_S A s.heap H locs) (hF : ∀ q, va_A w H.size q → A q)
    (kk : ∀ (r : Option Value) (w' : va_W) (H1 : Heap) (locs1 : List Loc), K' r w' → va_P D cl w' H1 → va_D A w' → va_S A s.heap H1 locs1 → W p l e R s m args below meth c H1 locs1 (nc + mc) (ns + ms) Q (F0 m (pc + 3) la (r.toList ++ rest))) : W p l e R s m args below meth c H locs nc ns Q (F0 m pc la st0) := by
  intro T hT X
  obtain ⟨v, st₀, t, T', L, h0, X', hL, e1, e2, ⟨⟨r, w', hv, hk, hP1, hK1, hD1⟩, hz, hkp⟩, st⟩ := hr T hT X
  cases hv
  rw [h0] at hz hkp
  obtain ⟨t2, a1, b1⟩ := kk v w' T'.heap (locs ++ L) hk (by rw [e1]; exact hP1) (hD1.weaken (fun k q _ h => hF q.1 h))
    ⟨Nat.le_trans hS.1 (by rw [e1]; exact hz), fun q h1 h2 => by rw [e1, hkp q (Nat.lt_of_lt_of_le h1 hS.1) (fun z => h2 (hF q z))]; exact hS.2.1 q h1 h2, fun q hq => by
      rcases List.mem_append.mp hq with h | h
      · exact hS.2.2 q h
      · exact hF _ (hL q h)⟩ T' rfl X'
  exact ⟨t2, st t2 a1, b1⟩
/-- a call on a receiver: it is an object of the class -/
def q_V (ci : Nat) (T : q_T) : q_T := fun as w K => ∃ (b : Nat) (As : List Value) (fs : List Value) (q0 : Nat), as = .ref b :: As ∧ w[q0]? = some (b, .inr (ci, fs)) ∧ T as w K
theorem q_blind {St : q_St} {tys : List (ClassId × FieldType)} {sz : Nat} {as : List Value} {w : va_W} (hSt : q_StOK St) : FrameBlind (va_Pc as (fun U => U.heap.size = sz ∧ va_P D cl w U.heap ∧ va_K D cl tys U ∧ va_D (fun _ => True) w ∧ St (va_A w sz) U U.heap)) := by
  intro a U g mk q
  obtain ⟨q0, q1, qP, qK, qD, qS⟩ := q
  exact ⟨q0, q1, qP, va_K.moved (u := U) (U := U.calling g mk a) (Vm.Alike.refl U.vm) qK, qD, hSt.2.2.2 _ _ _ _ _ _ qS⟩
theorem q_pre {St : q_St} {w : va_W} {H : Heap} {locs : List Loc} {as : List Value} (hSt : q_StOK St) (hC : q_Ctx p s m args c cc nL own Ts D cl cI A St) (hP : va_P D cl w H) (hD : va_D A w) (hS : va_S A s.heap H locs) (U : State) (hU : U.heap = H) (hW : s.WarmedH U.vm) : va_Pc as (fun U => U.heap.size = H.size ∧ va_P D cl w U.heap ∧ va_K D cl [(cI, .int)] U ∧ va_D (fun _ => True) w ∧ St (va_A w H.size) U U.heap) as.toArray U := by
  obtain ⟨hx, hb, hml, hown, hts, hK, hA, hs⟩ := id hC
  refine ⟨rfl, by rw [hU], by rw [hU]; exact hP, va_K.moved hW.alike hK, hD.weaken (fun _ _ _ _ => trivial), ?_⟩
  rw [hU]
  exact hSt.1 _ s U H hW (hSt.2.2.1 A _ s H (q_free hD hS hA) (hSt.2.1 A s s.heap H hs hS.2.1))
section QC
variable {St : q_St} {y : MethodName} {ws ws' : List Cond} {rm : Room} {T : q_T} {C : String} {T' : u_T} {N' ci n k maxL : Nat} {bytes : ByteArray} {ret : Option FieldType} {host : String}
theorem q_callV (hSt : q_StOK St) (hM : q_Met l y ws rm D cl [(cI, .int)] St T) (hT : GoodIn Ts (wsV own n C y ws)) (hw : ws = Cond.code y bytes maxL ret :: ws') (hd : y.cls = C ∧ y.cls ≠ "java/lang/invoke/MethodHandle" ∧ y.cls ≠ "java/lang/invoke/VarHandle" ∧ (parseMethodDescriptor y.desc).map (fun d => d.parameters.length) = some k) (hR : rm.frames + 1 ≤ R.frames ∧ 8 + (maxL + 11) + rm.locals ≤ R.locals) (hc : cl[ci]? = some (C, T', N')) :
    q_CalOK l R cc nL own Ts D cl cI St (.invokevirtual n) (k + 1) rm.cells rm.slots (q_V ci T) := by
  intro p e s m args below meth c A hC Q pc la as rest w K' H locs nc ns hdc hla hlen hcat h1 h2 hTT hP hD hS kk
  obtain ⟨b, As, fs, q0, rfl, hq0, hTT⟩ := hTT
  obtain ⟨hx, hb, hml, hown, hts, hK, hA, hs⟩ := id hC
  refine q_go (va_runV (As := As) (rest := rest) ⟨hx, hb, hml, hown, hts⟩ (hM H.size (.ref b :: As) w K' hTT) (cwV k hts hT hw rfl rfl hd hR) ⟨q_blind hSt, va_recv hK hP hc hq0, fun U hU hW => q_pre hSt hC hP hD hS U hU hW⟩ rfl (Nat.succ.inj hlen) hla ?_ (lv_room hcat) hdc ⟨h1, h2⟩) hS (q_free hD hS hA) kk
  show (Value.ref b :: As).reverse ++ rest = _
  rw [List.reverse_cons, List.append_assoc]
  rfl
theorem q_callS (hSt : q_StOK St) (hM : q_Met l y ws rm D cl [(cI, .int)] St T) (hT : GoodIn Ts (va_wsS own n y ws)) (hw : ws = Cond.code y bytes maxL ret :: ws') (hd : y.cls ≠ "java/lang/invoke/MethodHandle" ∧ y.cls ≠ "java/lang/invoke/VarHandle" ∧ (parseMethodDescriptor y.desc).map (fun d => d.parameters.length) = some k) (hR : rm.frames + 1 ≤ R.frames ∧ 8 + (maxL + 11) + rm.locals ≤ R.locals) :
    q_CalOK l R cc nL own Ts D cl cI St (.invokestatic n) k rm.cells rm.slots T := by
  intro p e s m args below meth c A hC Q pc la as rest w K' H locs nc ns hdc hla hlen hcat h1 h2 hTT hP hD hS kk
  obtain ⟨hx, hb, hml, hown, hts, hK, hA, hs⟩ := id hC
  exact q_go (va_runS (As := as) (rest := rest) ⟨hx, hb, hml, hown, hts⟩ (hM H.size as w K' hTT) (va_cwS k hts hT hw rfl rfl hd hR) ⟨q_blind hSt, fun U hU hW => q_pre hSt hC hP hD hS U hU hW⟩ rfl hlen hla rfl (lv_room hcat) hdc ⟨h1, h2⟩) hS (q_free hD hS hA) kk
theorem q_callI (hSt : q_StOK St) (hM : q_Met l y ws rm D cl [(cI, .int)] St T) (hG : GoodIn Ts ws) (hw : ws = Cond.code y bytes maxL none :: ws') (hini : Cond.initialized y.cls ∈ Ts) (hl : Cond.methodLink own n y ∈ Ts) (hin : Cond.instanceMethod y ∈ Ts) (hy1 : y.name = "<init>") (hd : y.cls ≠ "java/lang/invoke/MethodHandle" ∧ y.cls ≠ "java/lang/invoke/VarHandle" ∧ (parseMethodDescriptor y.desc).map (fun d => d.parameters.length) = some k) (hR : rm.frames + 1 ≤ R.frames ∧ 8 + (maxL + 11) + rm.locals ≤ R.locals) :
    q_CalOK l R cc nL own Ts D cl cI St (.invokespecial n) (k + 1) rm.cells rm.slots (q_V ci T) := by
  intro p e s m args below meth c A hC Q pc la as rest w K' H locs nc ns hdc hla hlen hcat h1 h2 hTT hP hD hS kk
  obtain ⟨b, As, fs, q0, rfl, hq0, hTT⟩ := hTT
  obtain ⟨hx, hb, hml, hown, hts, hK, hA, hs⟩ := id hC
  refine q_go (va_runI (As := As) (rest := rest) ⟨hx, hb, hml, hown, hts⟩ (hM H.size (.ref b :: As) w K' hTT) (cwI k hts hG hw rfl rfl (hts _ hini) (hts _ hl) (hts _ hin) hy1 hd hR) ⟨q_blind hSt, fun U hU hW => q_pre hSt hC hP hD hS U hU hW⟩ rfl (Nat.succ.inj hlen) hla ?_ (lv_room hcat) hdc ⟨h1, h2⟩) hS (q_free hD hS hA) kk
  show (Value.ref b :: As).reverse ++ rest = _
  rw [List.reverse_cons, List.append_assoc]
  rfl
theorem q_callSN (hSt : q_StOK St) (hM : q_Met l y ws rm D cl [(cI, .int)] St T) (hG : GoodIn Ts ws) (hw : ws = Cond.code y bytes maxL ret :: ws') (hN : ∀ (A : Nat → Prop) (U : State) (H : Heap), St A U H → va_Nw (.methodLinkNest own n y host) U) (hini : Cond.initialized y.cls ∈ Ts) (hst : Cond.static y ∈ Ts) (hd : y.cls ≠ "java/lang/invoke/MethodHandle" ∧ y.cls ≠ "java/lang/invoke/VarHandle" ∧ (parseMethodDescriptor y.desc).map (fun d => d.parameters.length) = some k) (hR : rm.frames + 1 ≤ R.frames ∧ 8 + (maxL + 11) + rm.locals ≤ R.locals) :
    q_CalOK l R cc nL own Ts D cl cI St (.invokestatic n) k rm.cells rm.slots T := by
  intro p e s m args below meth c A hC Q pc la as rest w K' H locs nc ns hdc hla hlen hcat h1 h2 hTT hP hD hS kk
  obtain ⟨hx, hb, hml, hown, hts, hK, hA, hs⟩ := id hC
  exact q_go (va_runSN (As := as) (rest := rest) ⟨hx, hb, hml, hown, hts⟩ (hM H.size as w K' hTT) ⟨va_cnB k hts hG hw rfl rfl (hN _ _ _ hs) (hts _ hini) hd hR, hts _ hst, trivial⟩ ⟨q_blind hSt, fun U hU hW => q_pre hSt hC hP hD hS U hU hW⟩ rfl hlen hla rfl (lv_room hcat) hdc ⟨h1, h2⟩) hS (q_free hD hS hA) kk
theorem q_callIN (hSt : q_StOK St) (hM : q_Met l y ws rm D cl [(cI, .int)] St T) (hG : GoodIn Ts ws) (hw : ws = Cond.code y bytes maxL none :: ws') (hN : ∀ (A : Nat → Prop) (U : State) (H : Heap), St A U H → va_Nw (.methodLinkNest own n y host) U) (hini : Cond.initialized y.cls ∈ Ts) (hin : Cond.instanceMethod y ∈ Ts) (hy1 : y.name = "<init>") (hd : y.cls ≠ "java/lang/invoke/MethodHandle" ∧ y.cls ≠ "java/lang/invoke/VarHandle" ∧ (parseMethodDescriptor y.desc).map (fun d => d.parameters.length) = some k) (hR : rm.frames + 1 ≤ R.frames ∧ 8 + (maxL + 11) + rm.locals ≤ R.locals) :
    q_CalOK l R cc nL own Ts D cl cI St (.invokespecial n) (k + 1) rm.cells rm.slots (q_V ci T) := by
  intro p e s m args below meth c A hC Q pc la as rest w K' H locs nc ns hdc hla hlen hcat h1 h2 hTT hP hD hS kk
  obtain ⟨b, As, fs, q0, rfl, hq0, hTT⟩ := hTT
  obtain ⟨hx, hb, hml, hown, hts, hK, hA, hs⟩ := id hC
  refine q_go (va_runIN (As := As) (rest := rest) ⟨hx, hb, hml, hown, hts⟩ (hM H.size (.ref b :: As) w K' hTT) ⟨va_cnB k hts hG hw rfl rfl (hN _ _ _ hs) (hts _ hini) hd hR, hy1, hts _ hin⟩ ⟨q_blind hSt, fun U hU hW => q_pre hSt hC hP hD hS U hU hW⟩ rfl (Nat.succ.inj hlen) hla ?_ (lv_room hcat) hdc ⟨h1, h2⟩) hS (q_free hD hS hA) kk
  show (Value.ref b :: As).reverse ++ rest = _
  rw [List.reverse_cons, List.append_assoc]
  rfl
def q_obj : q_T := fun as w K => ∃ b : Nat, as = [.ref b] ∧ K none w
theorem q_callO (hl : Cond.methodLink own n Lib.objectInit ∈ Ts) (hin : Cond.instanceMethod Lib.objectInit ∈ Ts) (hco : Cond.code Lib.objectInit ⟨#[0xb1]⟩ 1 none ∈ Ts) (hR : 1 ≤ R.frames ∧ 20 ≤ R.locals) : q_CalOK l R cc nL own Ts D cl cI St (.invokespecial n) 1 0 0 q_obj := by
  intro p e s m args below meth c A hC Q pc la as rest w K' H locs nc ns hdc hla hlen hcat h1 h2 hTT hP hD hS kk
  obtain ⟨b, rfl, hk⟩ := hTT
  obtain ⟨hx, hb, hml, hown, hts, hK, hA, hs⟩ := id hC
  exact W.objInit hx hb hown (hts _ hl) (hts _ hin) (hts _ hco) rfl (by rw [hml]; exact hla) rfl hdc hR.1 (by show 2 * 0 + (rest.map fun v => v.category).sum + 12 ≤ R.locals; have := hR.2; omega) (kk none w H locs hk hP hD hS)
def q_copy (cI : ClassId) : q_T := fun as w K => ∃ (a0 a : Nat) (sp dp n : Int32) (q0 q1 n0 n1 : Nat) (f g : Nat → Int32), as = [.ref a0, .int sp, .ref a, .int dp, .int n] ∧ w[q0]? = some (a0, .inl (cI, n0, .inl f)) ∧ w[q1]? = some (a, .inl (cI, n1, .inl g)) ∧ ¬ sp < 0 ∧ ¬ dp < 0 ∧ ¬ n < 0 ∧ sp.toNatClampNeg + n.toNatClampNeg ≤ n0 ∧ dp.toNatClampNeg + n.toNatClampNeg ≤ n1 ∧ K none (w.set q1 (a, .inl (cI, n1, .inl (va_cpy f g sp.toNatClampNeg dp.toNatClampNeg n.toNatClampNeg))))
theorem q_callC (hl : Cond.methodLink own n arraycopyName ∈ Ts) (hna : Cond.native arraycopyName ∈ Ts) (hst : Cond.static arraycopyName ∈ Ts) (hini : Cond.initialized "java/lang/System" ∈ Ts) (hR : 1 ≤ R.frames ∧ 8 + (nativeFrameWords "java/lang/System" "arraycopy" 5 + 11) ≤ R.locals) : q_CalOK l R cc nL own Ts D cl cI St (.invokestatic n) 5 0 0 (q_copy cI) := by
  intro p e s m args below meth c A hC Q pc la as rest w K' H locs nc ns hdc hla hlen hcat h1 h2 hTT hP hD hS kk
  obtain ⟨a0, a, sp, dp, n', q0, q1, n0, n1, f, g, rfl, g1, g2, g3, g4, g5, g6, g7, hk⟩ := hTT
  obtain ⟨hx, hb, hml, hown, hts, hK, hA, hs⟩ := id hC
  exact va_copyi (ty := .int) hx hb (by rw [hml]; exact hla.symm) hown (hts _ hl) (hts _ hna) (hts _ hst) (hts _ hini) hK hP hD hS q0 q1 0 0 g1 g2 rfl rfl rfl g3 g4 g5 g6 g7 (fun _ _ => rfl) hR.1 (by show (rest.map fun v => v.category).sum + _ ≤ R.locals; have := hR.2; omega) hdc (fun H1 locs1 hP1 hD1 hS1 => kk none _ H1 locs1 hk hP1 hD1 hS1)
/-- a call that is given a part of the world -/
def q_Sub (isC isR : List Nat) (T : q_T) : q_T := fun as w K => ∃ wc wr : va_W, isC.map (fun i => w[i]?) = wc.map some ∧ isR.map (fun i => w[i]?) = wr.map some ∧ T as wc (fun r w1 => K r (wr ++ w1))
theorem q_join {A0 : Nat → Prop} {ws wc wr w1 : va_W} {H H1 : Heap} {isC isR : List Nat} (hP : va_P D cl ws H) (hD : va_D A0 ws) (hC : isC.map (fun i => ws[i]?) = wc.map some) (hR : isR.map (fun i => ws[i]?) = wr.map some) (hn : va_nd isR = true) (hdis : isR.all (fun i => !(isC.contains i)) = true) (hk : ∀ q : Nat, q < H.size → ¬ va_A wc H.size q → H1[q]? = H[q]?) (hF : ∀ q, va_A wc H.size q → A0 q) (hP1 : va_P D cl w1 H1) (hD1 : va_D (va_A wc H.size) w1) : va_P D cl (wr ++ w1) H1 ∧ va_D A0 (wr ++ w1) := by
  refine va_join hP hD isC isR hC hR hn (fun i hi hc => ?_) hk hF hP1 hD1
  have := List.all_eq_true.mp hdis i hi
  rw [List.contains_iff_mem.mpr hc] at this
  cases this
theorem q_subS {i : Instr} {mc ms : Nat} (isC isR : List Nat) (hn : va_nd isR = true) (hnC : va_nd isC = true) (hdis : isR.all (fun i => !(isC.contains i)) = true)
    (hrun : ∀ (p : Program) (e : Env) (s : State) (m : MethodId) (args : Array Value) (below : List Frame) (meth : Method) (c : Code) (A : Nat → Prop), q_Ctx p s m args c cc nL own Ts D cl cI A St → ∀ (pc : Nat) (la : Array Slot) (as rest : List Value) (w : va_W) (K' : q_K) (H : Heap) (locs : List Loc) (nc ns : Nat), decode cc pc = .ok (i, 3) → la.size = nL → as.length = k → (rest.map fun v => v.category).sum ≤ 8 → nc + mc ≤ R.cells → ns + ms ≤ R.slots → T as w K' → va_P D cl w H → va_D A w → va_S A s.heap H locs → va_Run p l e R s m args below meth c H locs nc ns mc ms (F0 m pc la (as.reverse ++ rest)) rest (q_Qc K' D cl [(cI, .int)] (va_A w H.size) as.toArray) (va_A w H.size)) :
    q_CalOK l R cc nL own Ts D cl cI St i k mc ms (q_Sub isC isR T) := by
  intro p e s m args below meth c A hC Q pc la as rest w K' H locs nc ns hdc hla hlen hcat h1 h2 hTT hP hD hS kk
  obtain ⟨wc, wr, hc, hr, hTT⟩ := hTT
  have hA := hC.2.2.2.2.2.2.1
  have hPc := q_Psub hP isC hc
  have hDc := hD.sub isC hnC hc
  have hF : ∀ q, va_A wc H.size q → A q := q_free hDc hS hA
  have hr1 := hrun p e s m args below meth c A hC pc la as rest wc _ H locs nc ns hdc hla hlen hcat h1 h2 hTT hPc hDc hS
  intro T0 hT X
  obtain ⟨v, st₀, t, T', L, h0, X', hL, e1, e2, ⟨⟨r, w', hv, hk, hP1, hK1, hD1⟩, hz, hkp⟩, st⟩ := hr1 T0 hT X
  cases hv
  rw [h0] at hz hkp
  obtain ⟨hP2, hD2⟩ := q_join hP hD hc hr hn hdis hkp hF hP1 hD1
  obtain ⟨t2, a1, b1⟩ := kk v (wr ++ w') T'.heap (locs ++ L) hk (by rw [e1]; exact hP2) hD2
    ⟨Nat.le_trans hS.1 (by rw [e1]; exact hz), fun q h1 h2 => by rw [e1, hkp q (Nat.lt_of_lt_of_le h1 hS.1) (fun z => h2 (hF q z))]; exact hS.2.1 q h1 h2, fun q hq => by
      rcases List.mem_append.mp hq with h | h
      · exact hS.2.2 q h
      · exact hF _ (hL q h)⟩ T' rfl X'
  exact ⟨t2, st t2 a1, b1⟩
end QC
theorem q_ofW {y : MethodName} {ws ws' : List Cond} {rm : Room} {Pc : Array Value → State → Prop} {Qc : Array Value → State → Outcome → State → Prop} {mc ms : Nat} {free : Addr → Prop} {cc : ByteArray} {maxL : Nat} {ret : Option FieldType}
    (hy : plainFor y = true) (hw : ws = Cond.code y cc maxL ret :: ws')
    (body : ∀ p e s m args below meth c s₁, BodyLoose p l y (headSpec ws rm) cc maxL ret e s m args below meth c s₁ → c.maxLocals = maxL → Pc args s →
      W p l e (headSpec ws rm).room s m args below meth c s.heap [] 0 0 (MQ below Qc args s mc ms free) (entryFrame m args maxL)) : Met l y ws rm Pc Qc mc ms free := by
  refine MetFree.of_bodySF (code := cc) (maxLocals := maxL) (ret := ret) hy ?_ ?_
  · intro args s m h hn
    obtain ⟨meth, c, h1, h2, h3, h4, h5, h6, -, -⟩ := Cond.code_spec hn (atoms_spec (ws := ws) h _ (by rw [hw]; exact List.mem_cons_self))
    exact ⟨meth, c, h1, h2, h3, h4, h5, h6⟩
  · intro p e s m args below meth c s₁ B hml hP _
    have hh0 : s₁.heap = s.heap := by rw [B.state]; rfl
    obtain ⟨t, a1, o, b1, b2, b3⟩ := body p e s m args below meth c s₁ B hml hP s₁ hh0 (Stand.of_body B)
    exact ⟨t, o, a1, b1, b2, ⟨b3.1, b3.2⟩⟩
/-- a method's contract, out of its code alone -/
theorem q_contract {St : q_St} {S : q_C} {fld : Nat → Option (Nat × Nat × FieldType × Bool)} {sta : Nat → Option Value} {ldc : Nat → Option Int32} {cal : Nat → Nat → Option (Nat × Nat × Nat × q_T)} {nw : Nat → Option (Nat × Nat × List Value)} {tb : Nat → Nat → (Nat → Int32) → Prop} {ret : Option FieldType} {y : MethodName} {ws ws' : List Cond} {rm : Room} {ini : Bool}
    (hy : plainFor y = true) (hw : ws = Cond.code y cc nL ret :: ws') (hyc : y.cls = own) (hyi : ini = true → y.name = "<init>") (hO : q_OK S fld sta ldc cal nw tb l rm cc nL own ws D cl cI St ini) :
    q_Met l y ws rm D cl [(cI, .int)] St (fun as w K => (lg_sl as).length ≤ nL ∧ q_wp (q_F S fld sta ldc cal nw cI tb nL rm.cells rm.slots ret) as w K) := by
  intro sz as w K hT
  obtain ⟨hlen, hT⟩ := hT
  refine q_ofW (cc := cc) (maxL := nL) (ret := ret) hy hw ?_
  intro p e s m args below meth c s₁ B hml hv
  obtain ⟨rfl, hsz, hP, hK, hD0, hs⟩ := hv
  have hts := atoms_spec (ws := ws) B.pre
  have hown : s.vm.findClass own = some m.cls := by rw [← hyc]; exact findClass_of_methodNamed B.named
  have hin : ini = true → meth.name = "<init>" := fun h => by rw [(name_of_methodNamed B.named B.method).1]; exact hyi h
  subst hsz
  have hD := hD0.self (sz := s.heap.size)
  have hA : ∀ q : Nat, s.heap.size ≤ q → va_A w s.heap.size q := fun q h => Or.inr h
  have hl := lv_entry as (n := nL) hlen
  rw [lg_entry_eq]
  exact hT _ (q_sound (R := rm) ⟨B.exec, B.bytes, hml, hown, hts, hK, hA, hs⟩ hin hO rfl rfl (q_ret_MQ B.exec B.bytes hK B.returns B.notSynchronized)) s.heap [] _ hl hP hD va_S.rf
theorem q_cal_ok {St : q_St} {V I S : List (Nat × (Nat × Nat × Nat × q_T))} (hV : ∀ q ∈ V, q_CalOK l R cc nL own Ts D cl cI St (.invokevirtual q.1) q.2.1 q.2.2.1 q.2.2.2.1 q.2.2.2.2) (hI : ∀ q ∈ I, q_CalOK l R cc nL own Ts D cl cI St (.invokespecial q.1) q.2.1 q.2.2.1 q.2.2.2.1 q.2.2.2.2) (hS : ∀ q ∈ S, q_CalOK l R cc nL own Ts D cl cI St (.invokestatic q.1) q.2.1 q.2.2.1 q.2.2.2.1 q.2.2.2.2) :
    ∀ k n na mc ms T, q_cal V I S k n = some (na, mc, ms, T) → q_CalOK l R cc nL own Ts D cl cI St (q_inv k n) na mc ms T := by
  intro k n na mc ms T h
  match k, h with
  | 0, h => exact hV _ (q_as_in h)
  | 1, h => exact hI _ (q_as_in h)
  | k + 2, h => exact hS _ (q_as_in h)
end QM
theorem q_nil {α : Type} {P : α → Prop} : ∀ q ∈ ([] : List α), P q := fun _ h => absurd h List.not_mem_nil
theorem q_cons {α : Type} {P : α → Prop} {a : α} {l : List α} (h : P a) (r : ∀ q ∈ l, P q) : ∀ q ∈ a :: l, P q := List.forall_mem_cons.mpr ⟨h, r⟩
