/-! step with n = 0: the class throws -/
def xAE : String := "java/lang/ArithmeticException"
def upAE : List String := ["java/lang/RuntimeException", "java/lang/Exception"]
def zOwn : List Cond := Bundle.ownAtoms "SpellPitch" 151 xAE upAE
def zk (w : Cond) : Bool := goodWord w || (match w with
  | .laysStatic _ _ _ => true
  | .declares _ => true
  | .castable _ _ => true
  | .isRef (.static C n d) => decide (Cond.laysStatic C n d ∈ zOwn)
  | _ => false)
theorem zk_all : zOwn.all zk = true := by decide +kernel
section ZW
variable {s U : State} {a a' : Array Value}
theorem z_lays (hW : s.WarmedH U.vm) (hH : ∀ q : Nat, q < s.heap.size → U.heap[q]? = s.heap[q]?) {C n d : String} (h : (Cond.laysStatic C n d).before a s = true) : (Cond.laysStatic C n d).before a' U = true := by
  obtain ⟨c, k, i, f, ad, cell, h1, h2, h3, h4, h5, h6, h7, h8, h9⟩ := Cond.laysStatic_spec h
  obtain ⟨k', hi', he⟩ := State.fieldFound?_setVm hW.alike h2
  have h1' : U.vm.findClass C = some c := by rw [hW.alike.findClass]; exact h1
  have h2' : U.fieldFound? C n d = some (c, k', i, f) := hi'
  have h4' : k'.statics = some ad := by rw [he]; exact h4
  have h9' : k'.staticTypes[f.slot]? = some f.type := by rw [he]; exact h9
  have h5' : U.heap[ad]? = some cell := by rw [hH ad (Array.getElem?_eq_some_iff.mp h5).1]; exact h5
  simp [Cond.before, Cond.holds, Cond.value, h1', h2', h4', h5', h3, h6, h7, h8, h9']
theorem z_ref (hW : s.WarmedH U.vm) (hH : ∀ q : Nat, q < s.heap.size → U.heap[q]? = s.heap[q]?) {C n d : String} (hl : (Cond.laysStatic C n d).before a s = true) (h : (Cond.isRef (.static C n d)).before a s = true) : (Cond.isRef (.static C n d)).before a' U = true := by
  obtain ⟨c, k, i, f, ad, cell, h1, h2, h3, h4, h5, h6, h7, h8, h9⟩ := Cond.laysStatic_spec hl
  obtain ⟨k', hi', he⟩ := State.fieldFound?_setVm hW.alike h2
  have h2' : U.fieldFound? C n d = some (c, k', i, f) := hi'
  have h4' : k'.statics = some ad := by rw [he]; exact h4
  have h5' : U.heap[ad]? = some cell := by rw [hH ad (Array.getElem?_eq_some_iff.mp h5).1]; exact h5
  cases hv : (Term.static C n d).eval a s none [] s with
  | none => simp [Cond.before, Cond.holds, Cond.value, hv] at h
  | some v =>
    obtain ⟨-, ad', cell', g1, g2, -, g3⟩ := Term.static_spec h2 hv
    cases h4.symm.trans g1
    cases h5.symm.trans g2
    have ev : (Term.static C n d).eval a' U none [] U = some v := by simp [Term.eval, State.fieldNamed?, h2', h3, h4', h5', h6, g3]
    simp only [Cond.before, Cond.holds, Cond.value, hv] at h
    simp only [Cond.before, Cond.holds, Cond.value, ev]
    exact h
theorem z_decl (hW : s.WarmedH U.vm) {x : MethodName} (h : (Cond.declares x).before a s = true) : (Cond.declares x).before a' U = true := by
  have e1 : U.methodNamed? x = s.methodNamed? x := State.methodNamed?_setVm hW.alike x
  have e2 : U.vm.method? = s.vm.method? := funext fun m => hW.alike.method? m
  simp only [Cond.before, Cond.holds, Cond.value] at h ⊢
  rw [e1, e2]
  exact h
theorem z_cast (hW : s.WarmedH U.vm) {C E : String} (h : (Cond.castable C E).before a s = true) : (Cond.castable C E).before a' U = true := by
  obtain ⟨c, t, h1, h2, h3⟩ := Cond.castable_spec h
  have h1' : U.vm.findClass C = some c := by rw [hW.alike.findClass]; exact h1
  have h2' : U.vm.findClass E = some t := by rw [hW.alike.findClass]; exact h2
  have h3' : U.vm.assignable c t = true := by rw [hW.alike.assignable]; exact h3
  simp [Cond.before, Cond.holds, Cond.value, h1', h2', h3']
theorem z_own (hW : s.WarmedH U.vm) (hH : ∀ q : Nat, q < s.heap.size → U.heap[q]? = s.heap[q]?) (h : ∀ w ∈ zOwn, w.before a s = true) : ∀ w ∈ zOwn, w.before a' U = true := by
  intro w hw
  have hk := List.all_eq_true.mp zk_all w hw
  unfold zk at hk
  rw [Bool.or_eq_true] at hk
  rcases hk with hg | hg
  · exact word_at hW (good_of_word hg) (h w hw)
  · have hb := h w hw
    split at hg
    · exact z_lays hW hH hb
    · exact z_decl hW hb
    · exact z_cast hW hb
    · exact z_ref hW hH (h _ (of_decide_eq_true hg)) hb
    · cases hg
end ZW
/-- what the throw asks of a state -/
def zAt (U : State) : Prop := (∀ w ∈ zOwn, w.before #[] U = true) ∧ (∃ sa : Nat, vk_R "SpellPitch" 149 "n is 0" sa U) ∧ (Cond.classLink "SpellPitch" 147 xAE).before #[] U = true ∧ (Cond.initialized xAE).before #[] U = true
theorem zAt_warm {s U : State} (hW : s.WarmedH U.vm) (hH : ∀ q : Nat, q < s.heap.size → U.heap[q]? = s.heap[q]?) (h : zAt s) : zAt U := by
  obtain ⟨h1, ⟨sa, h2⟩, h3, h4⟩ := h
  exact ⟨z_own hW hH h1, ⟨sa, vk_R.warm hW h2⟩, word_at hW (good_of_word (by rfl)) h3, word_at hW (good_of_word (by rfl)) h4⟩
def z_rm : Room := { frames := 6, cells := 1, slots := 6, locals := 100 }
def z_Q (_ : Array Value) (st : State) (o : Outcome) (t : State) : Prop := ∃ (q : Nat) (ce : Cell), o = .threw q ∧ t.heap[q]? = some ce ∧ ce.vm = .none ∧ st.vm.findClass xAE = some ce.cls ∧ st.WarmedH t.vm ∧ st.sameButNew ({ t with vm := st.vm } : State) [] 1 6
def z_P (args : Array Value) (U : State) : Prop := (∃ (b : Nat) (x : Int32), args = #[.ref b, .int x, .int 0]) ∧ zAt U
theorem z_d0 : decode prog_1_method_19_code 0 = .ok (.iload_n 2, 1) := by decide +kernel
theorem z_d1 : decode prog_1_method_19_code 1 = .ok (.ifCond .ne 13, 3) := by decide +kernel
theorem z_d4 : decode prog_1_method_19_code 4 = .ok (.new 147, 3) := by decide +kernel
theorem z_d7 : decode prog_1_method_19_code 7 = .ok (.dup, 1) := by decide +kernel
theorem z_d8 : decode prog_1_method_19_code 8 = .ok (.ldc 149, 2) := by decide +kernel
theorem z_d10 : decode prog_1_method_19_code 10 = .ok (.invokespecial 151, 3) := by decide +kernel
theorem z_d13 : decode prog_1_method_19_code 13 = .ok (.athrow, 1) := by decide +kernel
abbrev zWs : List Cond := Cond.code y_X_step prog_1_method_19_code 3 (some FieldType.int) :: aW
set_option maxHeartbeats 1000000 in
theorem z_met (l : Launch) (hl : l.stackTraces = false) : MetFree l y_X_step (headSpec zWs z_rm) z_P (fun _ _ _ _ _ => True) z_Q := by
  refine MetFree.of_bodyS (code := prog_1_method_19_code) (maxLocals := 3) (ret := some FieldType.int) (by decide +kernel) ?_ ?_
  · intro args s m h hn
    obtain ⟨meth, c, h1, h2, h3, h4, h5, h6, -, -⟩ := Cond.code_spec hn (atoms_spec (ws := zWs) h _ List.mem_cons_self)
    exact ⟨meth, c, h1, h2, h3, h4, h5, h6⟩
  · intro p e s m args below meth c s₁ B hml hP _
    obtain ⟨⟨b, x, rfl⟩, hz⟩ := hP
    obtain ⟨z1, ⟨sa, z2⟩, z3, z4⟩ := hz
    have hW0 : s.WarmedH s.vm := State.WarmedH.refl s
    have hown9 : ∀ w ∈ zOwn, w.before #[.ref b, .int x, .int 0] s = true := z_own hW0 (fun _ _ => rfl) z1
    have hcodeV := atoms_spec (ws := zWs) B.pre _ List.mem_cons_self
    have X₀ := Stand.of_body B
    have htr : e.platform.stackTraces = false := (show e.platform.stackTraces = l.stackTraces by rw [X₀.admits.platform]).trans hl
    have hheap : s₁.heap = s.heap := by rw [B.state]; rfl
    have hown : s.vm.findClass "SpellPitch" = some m.cls := findClass_of_methodNamed B.named
    obtain ⟨vm₁, cX, kX, hfX, hkX, -, -, X₁, st1⟩ := X₀.newCold B.exec (own := "SpellPitch") (C := xAE) (index := 147) (n := 6) hown z3 (hown9 (.instantiable xAE 6) (by decide +kernel)) z4
      (g := { method := m, pc := 4, locals := #[.val (.ref b), .val (.int x), .val (.int 0)], stack := [], locked := none }) rfl (by rw [B.bytes]; exact z_d4) (Nat.le_refl _) (Nat.le_refl _)
    generalize hT : (s₁.setVm vm₁).pushCell { cls := cX, slots := kX.instanceTypes.map defaultValue, vm := .none } = T at X₁ st1
    have hcellA : T.heap[s₁.heap.size]? = some (freshCell cX kX) := by rw [← hT]; exact State.heap_pushCell_size _ _
    obtain ⟨W, hsteps, hrun, hend, hW, hsame, ce, hce, hO⟩ := X₁.ctorThrowS B.exec htr (own := "SpellPitch") (cls := xAE) (names := upAE) (ic := 151) hown (by decide +kernel) (by decide +kernel)
      hown9 (fun y hy => nomatch hy) hfX hkX hcellA (by rw [hheap]; exact Nat.le_refl _) (msg := .ref sa) rfl
      (g := { method := m, pc := 10, locals := #[.val (.ref b), .val (.int x), .val (.int 0)], stack := [.ref sa, .ref s₁.heap.size, .ref s₁.heap.size], locked := none }) rfl (by rw [hml]; rfl) rfl rfl (rest := []) rfl
      (by rw [B.bytes]; exact z_d10) (by rw [B.bytes]; exact z_d13) (covers_of_empty (B.noHandlers hcodeV) _) (by decide) (q_le0 _ _ rfl) B.notSynchronized
    refine ⟨W, .threw s₁.heap.size, ?_, hrun, hend, s₁.heap.size, ce, rfl, hce, hO.vm, hO.cls, hW, hsame⟩
    show Steps p.tables e below (s₁.setTop { method := m, pc := 0, locals := #[.val (.ref b), .val (.int x), .val (.int 0)], stack := [], locked := none }) _
    have n0 : ¬ ((0 : Int32) ≠ 0) := fun h => h rfl
    jvm_step B.here [B.exec, B.bytes, z_d0]
    jvm_step B.here [B.exec, B.bytes, z_d1, ifCond.wp_sem, ifCond.holds, n0]
    refine st1 _ ?_
    show Steps p.tables e below (T.setTop { method := m, pc := 7, locals := #[.val (.ref b), .val (.int x), .val (.int 0)], stack := [.ref s₁.heap.size], locked := none }) _
    jvm_step X₁.here [X₁.here.top, B.exec, B.bytes, z_d7, Value.category]
    exact X₁.ldcString B.exec (own := "SpellPitch") (text := "n is 0") (index := 149) (a := sa) hown z2.1 z2.2 (g := { method := m, pc := 8, locals := #[.val (.ref b), .val (.int x), .val (.int 0)], stack := [.ref s₁.heap.size, .ref s₁.heap.size], locked := none }) rfl (by rw [B.bytes]; exact z_d8) _ hsteps
