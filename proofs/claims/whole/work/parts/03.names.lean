-- ===== PART A: goes FIRST, ahead of the names: the tables' words, and 'selects' of the private methods out of them =====
/-- a private method of a class that the tables say can be made, by its rows of tables_1 -/
def lw_okq (q : MethodName × Nat) : Prop := (q.1.cls ≠ "java/lang/invoke/MethodHandle" ∧ q.1.cls ≠ "java/lang/invoke/VarHandle") ∧ Cond.instantiable q.1.cls q.2 ∈ tables_1 ∧ Cond.privateMethod q.1 ∈ tables_1 ∧ Cond.instanceMethod q.1 ∈ tables_1
theorem lw_p0 : lw_okq (⟨"SpellPitch$Score", "listOptions", "(I)V"⟩, 10) := ⟨⟨by decide +kernel, by decide +kernel⟩, List.mem_of_getElem? (i := 27) (by decide +kernel), List.mem_of_getElem? (i := 196) (by decide +kernel), List.mem_of_getElem? (i := 197) (by decide +kernel)⟩
theorem lw_p1 : lw_okq (⟨"SpellPitch", "meant", "()LSpellPitch$Search;"⟩, 4) := ⟨⟨by decide +kernel, by decide +kernel⟩, List.mem_of_getElem? (i := 13) (by decide +kernel), List.mem_of_getElem? (i := 256) (by decide +kernel), List.mem_of_getElem? (i := 257) (by decide +kernel)⟩
theorem lw_p2 : lw_okq (⟨"SpellPitch$Search", "layOutStates", "()V"⟩, 18) := ⟨⟨by decide +kernel, by decide +kernel⟩, List.mem_of_getElem? (i := 21) (by decide +kernel), List.mem_of_getElem? (i := 264) (by decide +kernel), List.mem_of_getElem? (i := 265) (by decide +kernel)⟩
theorem lw_p3 : lw_okq (⟨"SpellPitch$Search", "picksAt", "(I)I"⟩, 18) := ⟨⟨by decide +kernel, by decide +kernel⟩, List.mem_of_getElem? (i := 21) (by decide +kernel), List.mem_of_getElem? (i := 268) (by decide +kernel), List.mem_of_getElem? (i := 269) (by decide +kernel)⟩
theorem lw_p4 : lw_okq (⟨"SpellPitch$Search", "linkKeys", "()V"⟩, 18) := ⟨⟨by decide +kernel, by decide +kernel⟩, List.mem_of_getElem? (i := 21) (by decide +kernel), List.mem_of_getElem? (i := 274) (by decide +kernel), List.mem_of_getElem? (i := 275) (by decide +kernel)⟩
theorem lw_p5 : lw_okq (⟨"SpellPitch$Search", "lookAtTheEnd", "()V"⟩, 18) := ⟨⟨by decide +kernel, by decide +kernel⟩, List.mem_of_getElem? (i := 21) (by decide +kernel), List.mem_of_getElem? (i := 285) (by decide +kernel), List.mem_of_getElem? (i := 286) (by decide +kernel)⟩
theorem lw_p6 : lw_okq (⟨"SpellPitch$Search", "weigh", "(I)V"⟩, 18) := ⟨⟨by decide +kernel, by decide +kernel⟩, List.mem_of_getElem? (i := 21) (by decide +kernel), List.mem_of_getElem? (i := 289) (by decide +kernel), List.mem_of_getElem? (i := 290) (by decide +kernel)⟩
theorem lw_p7 : lw_okq (⟨"SpellPitch$Search", "tryNames", "(II)Z"⟩, 18) := ⟨⟨by decide +kernel, by decide +kernel⟩, List.mem_of_getElem? (i := 21) (by decide +kernel), List.mem_of_getElem? (i := 293) (by decide +kernel), List.mem_of_getElem? (i := 294) (by decide +kernel)⟩
theorem lw_p8 : lw_okq (⟨"SpellPitch$Search", "valueOfTried", "(I)I"⟩, 18) := ⟨⟨by decide +kernel, by decide +kernel⟩, List.mem_of_getElem? (i := 21) (by decide +kernel), List.mem_of_getElem? (i := 305) (by decide +kernel), List.mem_of_getElem? (i := 306) (by decide +kernel)⟩
theorem lw_p9 : lw_okq (⟨"SpellPitch$Search", "valueOutside", "(II)I"⟩, 18) := ⟨⟨by decide +kernel, by decide +kernel⟩, List.mem_of_getElem? (i := 21) (by decide +kernel), List.mem_of_getElem? (i := 318) (by decide +kernel), List.mem_of_getElem? (i := 319) (by decide +kernel)⟩
theorem lw_p10 : lw_okq (⟨"SpellPitch$Search", "lookAheadFrom", "(I)V"⟩, 18) := ⟨⟨by decide +kernel, by decide +kernel⟩, List.mem_of_getElem? (i := 21) (by decide +kernel), List.mem_of_getElem? (i := 322) (by decide +kernel), List.mem_of_getElem? (i := 323) (by decide +kernel)⟩
theorem lw_p11 : lw_okq (⟨"SpellPitch$Search", "foldLines", "(III[II)V"⟩, 18) := ⟨⟨by decide +kernel, by decide +kernel⟩, List.mem_of_getElem? (i := 21) (by decide +kernel), List.mem_of_getElem? (i := 329) (by decide +kernel), List.mem_of_getElem? (i := 330) (by decide +kernel)⟩
theorem lw_p12 : lw_okq (⟨"SpellPitch$Search", "foldOne", "(II[II)V"⟩, 18) := ⟨⟨by decide +kernel, by decide +kernel⟩, List.mem_of_getElem? (i := 21) (by decide +kernel), List.mem_of_getElem? (i := 333) (by decide +kernel), List.mem_of_getElem? (i := 334) (by decide +kernel)⟩
theorem lw_p13 : lw_okq (⟨"SpellPitch$Search", "linkSteps", "(I)V"⟩, 18) := ⟨⟨by decide +kernel, by decide +kernel⟩, List.mem_of_getElem? (i := 21) (by decide +kernel), List.mem_of_getElem? (i := 341) (by decide +kernel), List.mem_of_getElem? (i := 342) (by decide +kernel)⟩
theorem lw_p14 : lw_okq (⟨"SpellPitch$Search", "isBadStep", "(IIII)Z"⟩, 18) := ⟨⟨by decide +kernel, by decide +kernel⟩, List.mem_of_getElem? (i := 21) (by decide +kernel), List.mem_of_getElem? (i := 345) (by decide +kernel), List.mem_of_getElem? (i := 346) (by decide +kernel)⟩
theorem lw_p15 : lw_okq (⟨"SpellPitch$Search", "countChoices", "()V"⟩, 18) := ⟨⟨by decide +kernel, by decide +kernel⟩, List.mem_of_getElem? (i := 21) (by decide +kernel), List.mem_of_getElem? (i := 349) (by decide +kernel), List.mem_of_getElem? (i := 350) (by decide +kernel)⟩
def lw_privs_1 : List (MethodName × Nat) := [(⟨"SpellPitch$Score", "listOptions", "(I)V"⟩, 10), (⟨"SpellPitch", "meant", "()LSpellPitch$Search;"⟩, 4), (⟨"SpellPitch$Search", "layOutStates", "()V"⟩, 18), (⟨"SpellPitch$Search", "picksAt", "(I)I"⟩, 18), (⟨"SpellPitch$Search", "linkKeys", "()V"⟩, 18), (⟨"SpellPitch$Search", "lookAtTheEnd", "()V"⟩, 18), (⟨"SpellPitch$Search", "weigh", "(I)V"⟩, 18), (⟨"SpellPitch$Search", "tryNames", "(II)Z"⟩, 18), (⟨"SpellPitch$Search", "valueOfTried", "(I)I"⟩, 18), (⟨"SpellPitch$Search", "valueOutside", "(II)I"⟩, 18), (⟨"SpellPitch$Search", "lookAheadFrom", "(I)V"⟩, 18), (⟨"SpellPitch$Search", "foldLines", "(III[II)V"⟩, 18), (⟨"SpellPitch$Search", "foldOne", "(II[II)V"⟩, 18), (⟨"SpellPitch$Search", "linkSteps", "(I)V"⟩, 18), (⟨"SpellPitch$Search", "isBadStep", "(IIII)Z"⟩, 18), (⟨"SpellPitch$Search", "countChoices", "()V"⟩, 18)]
theorem lw_r1 : ∀ q ∈ lw_privs_1, lw_okq q := List.forall_mem_cons.mpr ⟨lw_p0, List.forall_mem_cons.mpr ⟨lw_p1, List.forall_mem_cons.mpr ⟨lw_p2, List.forall_mem_cons.mpr ⟨lw_p3, List.forall_mem_cons.mpr ⟨lw_p4, List.forall_mem_cons.mpr ⟨lw_p5, List.forall_mem_cons.mpr ⟨lw_p6, List.forall_mem_cons.mpr ⟨lw_p7, List.forall_mem_cons.mpr ⟨lw_p8, List.forall_mem_cons.mpr ⟨lw_p9, List.forall_mem_cons.mpr ⟨lw_p10, List.forall_mem_cons.mpr ⟨lw_p11, List.forall_mem_cons.mpr ⟨lw_p12, List.forall_mem_cons.mpr ⟨lw_p13, List.forall_mem_cons.mpr ⟨lw_p14, List.forall_mem_cons.mpr ⟨lw_p15, fun _ h => absurd h List.not_mem_nil⟩⟩⟩⟩⟩⟩⟩⟩⟩⟩⟩⟩⟩⟩⟩⟩
theorem lw_p16 : lw_okq (⟨"SpellPitch$Search", "readOff", "()V"⟩, 18) := ⟨⟨by decide +kernel, by decide +kernel⟩, List.mem_of_getElem? (i := 21) (by decide +kernel), List.mem_of_getElem? (i := 353) (by decide +kernel), List.mem_of_getElem? (i := 354) (by decide +kernel)⟩
theorem lw_p17 : lw_okq (⟨"SpellPitch$Search", "firstOfBest", "(II)I"⟩, 18) := ⟨⟨by decide +kernel, by decide +kernel⟩, List.mem_of_getElem? (i := 21) (by decide +kernel), List.mem_of_getElem? (i := 357) (by decide +kernel), List.mem_of_getElem? (i := 358) (by decide +kernel)⟩
theorem lw_p18 : lw_okq (⟨"SpellPitch$Search", "valueBetween", "(III)I"⟩, 18) := ⟨⟨by decide +kernel, by decide +kernel⟩, List.mem_of_getElem? (i := 21) (by decide +kernel), List.mem_of_getElem? (i := 361) (by decide +kernel), List.mem_of_getElem? (i := 362) (by decide +kernel)⟩
theorem lw_p19 : lw_okq (⟨"SpellPitch$Search", "keep", "(II)V"⟩, 18) := ⟨⟨by decide +kernel, by decide +kernel⟩, List.mem_of_getElem? (i := 21) (by decide +kernel), List.mem_of_getElem? (i := 365) (by decide +kernel), List.mem_of_getElem? (i := 366) (by decide +kernel)⟩
theorem lw_p20 : lw_okq (⟨"java/lang/Throwable", "fillInStackTrace", "(I)Ljava/lang/Throwable;"⟩, 6) := ⟨⟨by decide +kernel, by decide +kernel⟩, List.mem_of_getElem? (i := 479) (by decide +kernel), List.mem_of_getElem? (i := 477) (by decide +kernel), List.mem_of_getElem? (i := 478) (by decide +kernel)⟩
theorem lw_p21 : lw_okq (⟨"SpellPitchModel", "isSound", "(I)Z"⟩, 34) := ⟨⟨by decide +kernel, by decide +kernel⟩, List.mem_of_getElem? (i := 509) (by decide +kernel), List.mem_of_getElem? (i := 630) (by decide +kernel), List.mem_of_getElem? (i := 631) (by decide +kernel)⟩
theorem lw_p22 : lw_okq (⟨"SpellPitchModel", "find", "()V"⟩, 34) := ⟨⟨by decide +kernel, by decide +kernel⟩, List.mem_of_getElem? (i := 509) (by decide +kernel), List.mem_of_getElem? (i := 656) (by decide +kernel), List.mem_of_getElem? (i := 657) (by decide +kernel)⟩
theorem lw_p23 : lw_okq (⟨"SpellPitchModel", "begin", "()V"⟩, 34) := ⟨⟨by decide +kernel, by decide +kernel⟩, List.mem_of_getElem? (i := 509) (by decide +kernel), List.mem_of_getElem? (i := 660) (by decide +kernel), List.mem_of_getElem? (i := 661) (by decide +kernel)⟩
theorem lw_p24 : lw_okq (⟨"SpellPitchModel", "findNames", "(I)V"⟩, 34) := ⟨⟨by decide +kernel, by decide +kernel⟩, List.mem_of_getElem? (i := 509) (by decide +kernel), List.mem_of_getElem? (i := 664) (by decide +kernel), List.mem_of_getElem? (i := 665) (by decide +kernel)⟩
theorem lw_p25 : lw_okq (⟨"SpellPitchModel", "nameIn", "(III)I"⟩, 34) := ⟨⟨by decide +kernel, by decide +kernel⟩, List.mem_of_getElem? (i := 509) (by decide +kernel), List.mem_of_getElem? (i := 668) (by decide +kernel), List.mem_of_getElem? (i := 669) (by decide +kernel)⟩
theorem lw_p26 : lw_okq (⟨"SpellPitchModel", "judge", "(III)Z"⟩, 34) := ⟨⟨by decide +kernel, by decide +kernel⟩, List.mem_of_getElem? (i := 509) (by decide +kernel), List.mem_of_getElem? (i := 672) (by decide +kernel), List.mem_of_getElem? (i := 673) (by decide +kernel)⟩
theorem lw_p27 : lw_okq (⟨"SpellPitchModel", "goOn", "(I)V"⟩, 34) := ⟨⟨by decide +kernel, by decide +kernel⟩, List.mem_of_getElem? (i := 509) (by decide +kernel), List.mem_of_getElem? (i := 682) (by decide +kernel), List.mem_of_getElem? (i := 683) (by decide +kernel)⟩
theorem lw_p28 : lw_okq (⟨"SpellPitchModel", "findSteps", "(I)V"⟩, 34) := ⟨⟨by decide +kernel, by decide +kernel⟩, List.mem_of_getElem? (i := 509) (by decide +kernel), List.mem_of_getElem? (i := 686) (by decide +kernel), List.mem_of_getElem? (i := 687) (by decide +kernel)⟩
theorem lw_p29 : lw_okq (⟨"SpellPitchModel", "reach", "(II)V"⟩, 34) := ⟨⟨by decide +kernel, by decide +kernel⟩, List.mem_of_getElem? (i := 509) (by decide +kernel), List.mem_of_getElem? (i := 705) (by decide +kernel), List.mem_of_getElem? (i := 706) (by decide +kernel)⟩
theorem lw_p30 : lw_okq (⟨"SpellPitchModel", "keysCost", "(II)I"⟩, 34) := ⟨⟨by decide +kernel, by decide +kernel⟩, List.mem_of_getElem? (i := 509) (by decide +kernel), List.mem_of_getElem? (i := 709) (by decide +kernel), List.mem_of_getElem? (i := 710) (by decide +kernel)⟩
theorem lw_p31 : lw_okq (⟨"SpellPitchModel", "isTurn", "(I)Z"⟩, 34) := ⟨⟨by decide +kernel, by decide +kernel⟩, List.mem_of_getElem? (i := 509) (by decide +kernel), List.mem_of_getElem? (i := 737) (by decide +kernel), List.mem_of_getElem? (i := 738) (by decide +kernel)⟩
def lw_privs_2 : List (MethodName × Nat) := [(⟨"SpellPitch$Search", "readOff", "()V"⟩, 18), (⟨"SpellPitch$Search", "firstOfBest", "(II)I"⟩, 18), (⟨"SpellPitch$Search", "valueBetween", "(III)I"⟩, 18), (⟨"SpellPitch$Search", "keep", "(II)V"⟩, 18), (⟨"java/lang/Throwable", "fillInStackTrace", "(I)Ljava/lang/Throwable;"⟩, 6), (⟨"SpellPitchModel", "isSound", "(I)Z"⟩, 34), (⟨"SpellPitchModel", "find", "()V"⟩, 34), (⟨"SpellPitchModel", "begin", "()V"⟩, 34), (⟨"SpellPitchModel", "findNames", "(I)V"⟩, 34), (⟨"SpellPitchModel", "nameIn", "(III)I"⟩, 34), (⟨"SpellPitchModel", "judge", "(III)Z"⟩, 34), (⟨"SpellPitchModel", "goOn", "(I)V"⟩, 34), (⟨"SpellPitchModel", "findSteps", "(I)V"⟩, 34), (⟨"SpellPitchModel", "reach", "(II)V"⟩, 34), (⟨"SpellPitchModel", "keysCost", "(II)I"⟩, 34), (⟨"SpellPitchModel", "isTurn", "(I)Z"⟩, 34)]
theorem lw_r2 : ∀ q ∈ lw_privs_2, lw_okq q := List.forall_mem_cons.mpr ⟨lw_p16, List.forall_mem_cons.mpr ⟨lw_p17, List.forall_mem_cons.mpr ⟨lw_p18, List.forall_mem_cons.mpr ⟨lw_p19, List.forall_mem_cons.mpr ⟨lw_p20, List.forall_mem_cons.mpr ⟨lw_p21, List.forall_mem_cons.mpr ⟨lw_p22, List.forall_mem_cons.mpr ⟨lw_p23, List.forall_mem_cons.mpr ⟨lw_p24, List.forall_mem_cons.mpr ⟨lw_p25, List.forall_mem_cons.mpr ⟨lw_p26, List.forall_mem_cons.mpr ⟨lw_p27, List.forall_mem_cons.mpr ⟨lw_p28, List.forall_mem_cons.mpr ⟨lw_p29, List.forall_mem_cons.mpr ⟨lw_p30, List.forall_mem_cons.mpr ⟨lw_p31, fun _ h => absurd h List.not_mem_nil⟩⟩⟩⟩⟩⟩⟩⟩⟩⟩⟩⟩⟩⟩⟩⟩
def lw_privs : List (MethodName × Nat) := lw_privs_1 ++ (lw_privs_2)
def lw_tbl : List Cond := k2_sels lw_privs ++ tables_1
theorem lw_privs_ok : ∀ q ∈ lw_privs, lw_okq q := by
  show ∀ q ∈ lw_privs_1 ++ (lw_privs_2), lw_okq q
  exact List.forall_mem_append.mpr ⟨lw_r1, lw_r2⟩
theorem aW_mem_T {i : Nat} {w : Cond} (h : tables_1[i]? = some w) (hg : goodWord w = true) : w ∈ lw_tbl.filter goodWord := List.mem_filter.mpr ⟨List.mem_append_right _ (List.mem_of_getElem? h), hg⟩
def aW : List Cond := lw_tbl.filter goodWord
theorem aW_ok {w : Cond} (h : w ∈ aW) : (w.onTables && w.keeps) = true ∨ ∃ ty, w = .arrayClass ty := good_of_word (List.mem_filter.mp h).2
theorem aW_T (i : Nat) {w : Cond} (h : tables_1[i]? = some w) (hg : goodWord w = true) : w ∈ aW := aW_mem_T h hg
theorem aW_S (i : Nat) {q : MethodName × Nat} (h : lw_privs[i]? = some q) : Cond.selects q.1.cls q.1 q.1 ∈ aW := List.mem_filter.mpr ⟨List.mem_append_left _ (List.mem_map.mpr ⟨q, List.mem_of_getElem? h, rfl⟩), by rfl⟩
theorem aW_in {c w : Cond} (h : w ∈ aW) : w ∈ c :: aW := List.mem_cons_of_mem _ h
theorem gW {c1 c2 : Cond} (h : c2 ∈ aW) : GoodIn (c1 :: aW) (c2 :: aW) := fun w hw => (List.mem_cons.mp hw).elim (fun e => by rw [e]; exact ⟨aW_in h, aW_ok h⟩) (fun h => ⟨aW_in h, aW_ok h⟩)
theorem gA {c1 : Cond} {a ws : List Cond} (ha : ∀ w ∈ a, w ∈ aW) (hw : GoodIn (c1 :: aW) ws) : GoodIn (c1 :: aW) (a ++ ws) := fun w h => (List.mem_append.mp h).elim (fun h => ⟨aW_in (ha w h), aW_ok (ha w h)⟩) (hw w)
theorem gV {c1 c2 : Cond} {own C : String} {n : Nat} {y : MethodName} (h1 : Cond.methodLink own n y ∈ aW) (h2 : Cond.instanceMethod y ∈ aW) (h3 : Cond.selects C y y ∈ aW) (h4 : Cond.initialized C ∈ aW) (h5 : c2 ∈ aW) : GoodIn (c1 :: aW) (wsV own n C y (c2 :: aW)) := gA (q_cons h1 (q_cons h2 (q_cons h3 (q_cons h4 q_nil)))) (gW h5)
theorem gS {c1 c2 : Cond} {own : String} {n : Nat} {y : MethodName} (h1 : Cond.methodLink own n y ∈ aW) (h2 : Cond.static y ∈ aW) (h4 : Cond.initialized y.cls ∈ aW) (h5 : c2 ∈ aW) : GoodIn (c1 :: aW) (va_wsS own n y (c2 :: aW)) := gA (q_cons h1 (q_cons h2 (q_cons h4 q_nil))) (gW h5)
def tt_S : u_T := fun k => match k with
  | 0 => ("SpellPitch$Score", "pitches", "[I", true)
  | 1 => ("SpellPitch$Score", "toldNames", "[I", true)
  | 2 => ("SpellPitch$Score", "momentOf", "[I", true)
  | 3 => ("SpellPitch$Score", "firstSound", "[I", true)
  | 4 => ("SpellPitch$Score", "soundsAt", "[I", true)
  | 5 => ("SpellPitch$Score", "toldKeys", "[I", true)
  | 6 => ("SpellPitch$Score", "optionNames", "[I", true)
  | 7 => ("SpellPitch$Score", "optionPlaces", "[I", true)
  | 8 => ("SpellPitch$Score", "sounds", "I", false)
  | _ => ("SpellPitch$Score", "moments", "I", false)
def ty_S : Nat → FieldType := fun k => match k with
  | 0 => (.array .int)
  | 1 => (.array .int)
  | 2 => (.array .int)
  | 3 => (.array .int)
  | 4 => (.array .int)
  | 5 => (.array .int)
  | 6 => (.array .int)
  | 7 => (.array .int)
  | 8 => .int
  | _ => .int
theorem tn_S : ∀ a, a < 10 → ∀ b, b < 10 → a ≠ b → (tt_S a).2.1 ≠ (tt_S b).2.1 := by decide +kernel
theorem tk_S : ∀ k, k < 10 → parseFieldDescriptor (tt_S k).2.2.1 = some (ty_S k) := by decide +kernel
def tt_R : u_T := fun k => match k with
  | 0 => ("SpellPitch$Search", "names", "[I", true)
  | 1 => ("SpellPitch$Search", "keys", "[I", true)
  | 2 => ("SpellPitch$Search", "cost", "I", false)
  | 3 => ("SpellPitch$Search", "signCount", "I", false)
  | 4 => ("SpellPitch$Search", "choices", "I", false)
  | 5 => ("SpellPitch$Search", "score", "LSpellPitch$Score;", true)
  | 6 => ("SpellPitch$Search", "weights", "LSpellPitch$Weights;", true)
  | 7 => ("SpellPitch$Search", "values", "[I", true)
  | 8 => ("SpellPitch$Search", "firstState", "[I", true)
  | 9 => ("SpellPitch$Search", "ways", "[I", true)
  | 10 => ("SpellPitch$Search", "ahead", "[I", true)
  | 11 => ("SpellPitch$Search", "waysAhead", "[I", true)
  | 12 => ("SpellPitch$Search", "line", "[I", true)
  | 13 => ("SpellPitch$Search", "lineWays", "[I", true)
  | 14 => ("SpellPitch$Search", "keyLinks", "[I", true)
  | 15 => ("SpellPitch$Search", "stepLinks", "[I", true)
  | 16 => ("SpellPitch$Search", "tried", "[I", true)
  | _ => ("SpellPitch$Search", "picksAhead", "I", false)
def ty_R : Nat → FieldType := fun k => match k with
  | 0 => (.array .int)
  | 1 => (.array .int)
  | 2 => .int
  | 3 => .int
  | 4 => .int
  | 5 => (.object "SpellPitch$Score")
  | 6 => (.object "SpellPitch$Weights")
  | 7 => (.array .int)
  | 8 => (.array .int)
  | 9 => (.array .int)
  | 10 => (.array .int)
  | 11 => (.array .int)
  | 12 => (.array .int)
  | 13 => (.array .int)
  | 14 => (.array .int)
  | 15 => (.array .int)
  | 16 => (.array .int)
  | _ => .int
theorem tn_R : ∀ a, a < 18 → ∀ b, b < 18 → a ≠ b → (tt_R a).2.1 ≠ (tt_R b).2.1 := by decide +kernel
theorem tk_R : ∀ k, k < 18 → parseFieldDescriptor (tt_R k).2.2.1 = some (ty_R k) := by decide +kernel
def tt_G : u_T := fun k => match k with
  | 0 => ("SpellPitch$Weights", "out", "I", false)
  | 1 => ("SpellPitch$Weights", "twice", "I", false)
  | 2 => ("SpellPitch$Weights", "wide", "I", false)
  | 3 => ("SpellPitch$Weights", "step", "I", false)
  | _ => ("SpellPitch$Weights", "change", "I", false)
def ty_G : Nat → FieldType := fun k => match k with
  | 0 => .int
  | 1 => .int
  | 2 => .int
  | 3 => .int
  | _ => .int
theorem tn_G : ∀ a, a < 5 → ∀ b, b < 5 → a ≠ b → (tt_G a).2.1 ≠ (tt_G b).2.1 := by decide +kernel
theorem tk_G : ∀ k, k < 5 → parseFieldDescriptor (tt_G k).2.2.1 = some (ty_G k) := by decide +kernel
def tt_X : u_T := fun k => match k with
  | 0 => ("SpellPitch", "score", "LSpellPitch$Score;", true)
  | 1 => ("SpellPitch", "weights", "LSpellPitch$Weights;", true)
  | 2 => ("SpellPitch", "search", "LSpellPitch$Search;", true)
  | _ => ("SpellPitch", "searched", "Z", false)
def ty_X : Nat → FieldType := fun k => match k with
  | 0 => (.object "SpellPitch$Score")
  | 1 => (.object "SpellPitch$Weights")
  | 2 => (.object "SpellPitch$Search")
  | _ => .boolean
theorem tn_X : ∀ a, a < 4 → ∀ b, b < 4 → a ≠ b → (tt_X a).2.1 ≠ (tt_X b).2.1 := by decide +kernel
theorem tk_X : ∀ k, k < 4 → parseFieldDescriptor (tt_X k).2.2.1 = some (ty_X k) := by decide +kernel
def tt_M : u_T := fun k => match k with
  | 0 => ("SpellPitchModel", "code", "I", false)
  | 1 => ("SpellPitchModel", "sounds", "I", false)
  | 2 => ("SpellPitchModel", "moments", "I", false)
  | 3 => ("SpellPitchModel", "pitches", "[I", true)
  | 4 => ("SpellPitchModel", "momentOf", "[I", true)
  | 5 => ("SpellPitchModel", "told", "[I", true)
  | 6 => ("SpellPitchModel", "firstOf", "[I", true)
  | 7 => ("SpellPitchModel", "sizeOf", "[I", true)
  | 8 => ("SpellPitchModel", "keyTold", "[I", true)
  | 9 => ("SpellPitchModel", "out", "I", false)
  | 10 => ("SpellPitchModel", "twice", "I", false)
  | 11 => ("SpellPitchModel", "wide", "I", false)
  | 12 => ("SpellPitchModel", "step", "I", false)
  | 13 => ("SpellPitchModel", "change", "I", false)
  | 14 => ("SpellPitchModel", "rowCost", "I", false)
  | 15 => ("SpellPitchModel", "rowSigns", "I", false)
  | 16 => ("SpellPitchModel", "names", "[I", true)
  | 17 => ("SpellPitchModel", "before", "[I", true)
  | 18 => ("SpellPitchModel", "steps", "[I", true)
  | 19 => ("SpellPitchModel", "known", "Z", false)
  | 20 => ("SpellPitchModel", "cost", "[I", true)
  | 21 => ("SpellPitchModel", "sign", "[I", true)
  | 22 => ("SpellPitchModel", "rank", "[I", true)
  | 23 => ("SpellPitchModel", "many", "[I", true)
  | 24 => ("SpellPitchModel", "nextCost", "[I", true)
  | 25 => ("SpellPitchModel", "nextSign", "[I", true)
  | 26 => ("SpellPitchModel", "nextCode", "[I", true)
  | 27 => ("SpellPitchModel", "nextMany", "[I", true)
  | 28 => ("SpellPitchModel", "from", "[I", true)
  | 29 => ("SpellPitchModel", "meantKey", "[I", true)
  | 30 => ("SpellPitchModel", "meant", "[I", true)
  | 31 => ("SpellPitchModel", "leastCost", "I", false)
  | 32 => ("SpellPitchModel", "leastSigns", "I", false)
  | _ => ("SpellPitchModel", "leastMany", "I", false)
def ty_M : Nat → FieldType := fun k => match k with
  | 0 => .int
  | 1 => .int
  | 2 => .int
  | 3 => (.array .int)
  | 4 => (.array .int)
  | 5 => (.array .int)
  | 6 => (.array .int)
  | 7 => (.array .int)
  | 8 => (.array .int)
  | 9 => .int
  | 10 => .int
  | 11 => .int
  | 12 => .int
  | 13 => .int
  | 14 => .int
  | 15 => .int
  | 16 => (.array .int)
  | 17 => (.array .int)
  | 18 => (.array .int)
  | 19 => .boolean
  | 20 => (.array .int)
  | 21 => (.array .int)
  | 22 => (.array .int)
  | 23 => (.array .int)
  | 24 => (.array .int)
  | 25 => (.array .int)
  | 26 => (.array .int)
  | 27 => (.array .int)
  | 28 => (.array .int)
  | 29 => (.array .int)
  | 30 => (.array .int)
  | 31 => .int
  | 32 => .int
  | _ => .int
theorem tn_M : ∀ a, a < 34 → ∀ b, b < 34 → a ≠ b → (tt_M a).2.1 ≠ (tt_M b).2.1 := by decide +kernel
theorem tk_M : ∀ k, k < 34 → parseFieldDescriptor (tt_M k).2.2.1 = some (ty_M k) := by decide +kernel
abbrev cls5 : List vw_C := [("SpellPitch$Score", tt_S, 10), ("SpellPitch$Search", tt_R, 18), ("SpellPitch$Weights", tt_G, 5), ("SpellPitch", tt_X, 4), ("SpellPitchModel", tt_M, 34)]
theorem tw_S : ∀ w ∈ u_ws "SpellPitch$Score" tt_S 10, w ∈ aW := by decide +kernel
theorem fo_S {own : String} {n k : Nat} {ty : FieldType} {wr ini : Bool} {c : Cond} (hk : k < 10) (hl : Cond.fieldLink own n "SpellPitch$Score" (tt_S k).2.1 (tt_S k).2.2.1 ∈ aW) (hr : (tt_S k).1 = "SpellPitch$Score") (ht : ty_S k = ty) (hw : wr = true → ((tt_S k).2.2.2 = false ∨ ((tt_S k).2.2.2 = true ∧ ini = true ∧ (tt_S k).1 = own))) : q_FldOK ini own (c :: aW) cls5 n 0 k ty wr := ⟨"SpellPitch$Score", tt_S, 10, "SpellPitch$Score", ty_S, rfl, fun w h => aW_in (tw_S w h), hk, aW_in hl, hr, by rw [← ht]; exact tk_S k hk, tk_S, tn_S, hw⟩
theorem tw_R : ∀ w ∈ u_ws "SpellPitch$Search" tt_R 18, w ∈ aW := by decide +kernel
theorem fo_R {own : String} {n k : Nat} {ty : FieldType} {wr ini : Bool} {c : Cond} (hk : k < 18) (hl : Cond.fieldLink own n "SpellPitch$Search" (tt_R k).2.1 (tt_R k).2.2.1 ∈ aW) (hr : (tt_R k).1 = "SpellPitch$Search") (ht : ty_R k = ty) (hw : wr = true → ((tt_R k).2.2.2 = false ∨ ((tt_R k).2.2.2 = true ∧ ini = true ∧ (tt_R k).1 = own))) : q_FldOK ini own (c :: aW) cls5 n 1 k ty wr := ⟨"SpellPitch$Search", tt_R, 18, "SpellPitch$Search", ty_R, rfl, fun w h => aW_in (tw_R w h), hk, aW_in hl, hr, by rw [← ht]; exact tk_R k hk, tk_R, tn_R, hw⟩
theorem tw_G : ∀ w ∈ u_ws "SpellPitch$Weights" tt_G 5, w ∈ aW := by decide +kernel
theorem fo_G {own : String} {n k : Nat} {ty : FieldType} {wr ini : Bool} {c : Cond} (hk : k < 5) (hl : Cond.fieldLink own n "SpellPitch$Weights" (tt_G k).2.1 (tt_G k).2.2.1 ∈ aW) (hr : (tt_G k).1 = "SpellPitch$Weights") (ht : ty_G k = ty) (hw : wr = true → ((tt_G k).2.2.2 = false ∨ ((tt_G k).2.2.2 = true ∧ ini = true ∧ (tt_G k).1 = own))) : q_FldOK ini own (c :: aW) cls5 n 2 k ty wr := ⟨"SpellPitch$Weights", tt_G, 5, "SpellPitch$Weights", ty_G, rfl, fun w h => aW_in (tw_G w h), hk, aW_in hl, hr, by rw [← ht]; exact tk_G k hk, tk_G, tn_G, hw⟩
theorem tw_X : ∀ w ∈ u_ws "SpellPitch" tt_X 4, w ∈ aW := by decide +kernel
theorem fo_X {own : String} {n k : Nat} {ty : FieldType} {wr ini : Bool} {c : Cond} (hk : k < 4) (hl : Cond.fieldLink own n "SpellPitch" (tt_X k).2.1 (tt_X k).2.2.1 ∈ aW) (hr : (tt_X k).1 = "SpellPitch") (ht : ty_X k = ty) (hw : wr = true → ((tt_X k).2.2.2 = false ∨ ((tt_X k).2.2.2 = true ∧ ini = true ∧ (tt_X k).1 = own))) : q_FldOK ini own (c :: aW) cls5 n 3 k ty wr := ⟨"SpellPitch", tt_X, 4, "SpellPitch", ty_X, rfl, fun w h => aW_in (tw_X w h), hk, aW_in hl, hr, by rw [← ht]; exact tk_X k hk, tk_X, tn_X, hw⟩
theorem tw_M : ∀ w ∈ u_ws "SpellPitchModel" tt_M 34, w ∈ aW := by decide +kernel
theorem fo_M {own : String} {n k : Nat} {ty : FieldType} {wr ini : Bool} {c : Cond} (hk : k < 34) (hl : Cond.fieldLink own n "SpellPitchModel" (tt_M k).2.1 (tt_M k).2.2.1 ∈ aW) (hr : (tt_M k).1 = "SpellPitchModel") (ht : ty_M k = ty) (hw : wr = true → ((tt_M k).2.2.2 = false ∨ ((tt_M k).2.2.2 = true ∧ ini = true ∧ (tt_M k).1 = own))) : q_FldOK ini own (c :: aW) cls5 n 4 k ty wr := ⟨"SpellPitchModel", tt_M, 34, "SpellPitchModel", ty_M, rfl, fun w h => aW_in (tw_M w h), hk, aW_in hl, hr, by rw [← ht]; exact tk_M k hk, tk_M, tn_M, hw⟩
def y_X_init : MethodName := ⟨"SpellPitch", "<init>", "()V"⟩
def y_X_pitch : MethodName := ⟨"SpellPitch", "pitch", "(IZ)I"⟩
def y_X_key : MethodName := ⟨"SpellPitch", "key", "(II)I"⟩
def y_X_fix : MethodName := ⟨"SpellPitch", "fix", "(II)I"⟩
def y_X_weights : MethodName := ⟨"SpellPitch", "weights", "(IIIII)I"⟩
def y_X_clear : MethodName := ⟨"SpellPitch", "clear", "()I"⟩
def y_X_sum : MethodName := ⟨"SpellPitch", "sum", "()I"⟩
def y_X_signs : MethodName := ⟨"SpellPitch", "signs", "()I"⟩
def y_X_ties : MethodName := ⟨"SpellPitch", "ties", "()I"⟩
def y_X_name : MethodName := ⟨"SpellPitch", "name", "(II)I"⟩
def y_X_keyOf : MethodName := ⟨"SpellPitch", "keyOf", "(I)I"⟩
def y_X_turned : MethodName := ⟨"SpellPitch", "turned", "()I"⟩
def y_X_turn : MethodName := ⟨"SpellPitch", "turn", "(I)I"⟩
def y_X_interval : MethodName := ⟨"SpellPitch", "interval", "(III)I"⟩
def y_X_quality : MethodName := ⟨"SpellPitch", "quality", "(II)I"⟩
def y_X_add : MethodName := ⟨"SpellPitch", "add", "(II)I"⟩
def y_X_transpose : MethodName := ⟨"SpellPitch", "transpose", "(III)I"⟩
def y_X_micro : MethodName := ⟨"SpellPitch", "micro", "(III)I"⟩
def y_X_step : MethodName := ⟨"SpellPitch", "step", "(II)I"⟩
def y_X_equal : MethodName := ⟨"SpellPitch", "equal", "(II)I"⟩
def y_X_scale : MethodName := ⟨"SpellPitch", "scale", "(II)I"⟩
def y_X_meant : MethodName := ⟨"SpellPitch", "meant", "()LSpellPitch$Search;"⟩
def y_X_isName : MethodName := ⟨"SpellPitch", "isName", "(I)Z"⟩
def y_X_isInterval : MethodName := ⟨"SpellPitch", "isInterval", "(I)Z"⟩
def y_X_isWeight : MethodName := ⟨"SpellPitch", "isWeight", "(I)Z"⟩
def y_X_isTurn : MethodName := ⟨"SpellPitch", "isTurn", "(II)Z"⟩
def y_X_soundsAs : MethodName := ⟨"SpellPitch", "soundsAs", "(II)Z"⟩
def y_X_letterOf : MethodName := ⟨"SpellPitch", "letterOf", "(I)I"⟩
def y_X_signsOf : MethodName := ⟨"SpellPitch", "signsOf", "(I)I"⟩
def y_X_octaveOf : MethodName := ⟨"SpellPitch", "octaveOf", "(II)I"⟩
def y_X_placeOf : MethodName := ⟨"SpellPitch", "placeOf", "(II)I"⟩
def y_X_stepsOf : MethodName := ⟨"SpellPitch", "stepsOf", "(I)I"⟩
def y_X_halvesOf : MethodName := ⟨"SpellPitch", "halvesOf", "(I)I"⟩
def y_X_sortOf : MethodName := ⟨"SpellPitch", "sortOf", "(I)I"⟩
def y_M_init : MethodName := ⟨"SpellPitchModel", "<init>", "()V"⟩
def y_M_thrown : MethodName := ⟨"SpellPitchModel", "thrown", "()I"⟩
def y_M_isSound : MethodName := ⟨"SpellPitchModel", "isSound", "(I)Z"⟩
def y_M_pitch : MethodName := ⟨"SpellPitchModel", "pitch", "(IZ)I"⟩
def y_M_key : MethodName := ⟨"SpellPitchModel", "key", "(II)I"⟩
def y_M_soundsAs : MethodName := ⟨"SpellPitchModel", "soundsAs", "(II)Z"⟩
def y_M_fix : MethodName := ⟨"SpellPitchModel", "fix", "(II)I"⟩
def y_M_isWeight : MethodName := ⟨"SpellPitchModel", "isWeight", "(I)Z"⟩
def y_M_weights : MethodName := ⟨"SpellPitchModel", "weights", "(IIIII)I"⟩
def y_M_clear : MethodName := ⟨"SpellPitchModel", "clear", "()I"⟩
def y_M_modulo : MethodName := ⟨"SpellPitchModel", "modulo", "(II)I"⟩
def y_M_letterOf : MethodName := ⟨"SpellPitchModel", "letterOf", "(I)I"⟩
def y_M_signsOf : MethodName := ⟨"SpellPitchModel", "signsOf", "(I)I"⟩
def y_M_octaveOf : MethodName := ⟨"SpellPitchModel", "octaveOf", "(II)I"⟩
def y_M_placeOf : MethodName := ⟨"SpellPitchModel", "placeOf", "(II)I"⟩
def y_M_size : MethodName := ⟨"SpellPitchModel", "size", "(I)I"⟩
def y_M_nameIn : MethodName := ⟨"SpellPitchModel", "nameIn", "(III)I"⟩
def y_M_findNames : MethodName := ⟨"SpellPitchModel", "findNames", "(I)V"⟩
def y_M_judge : MethodName := ⟨"SpellPitchModel", "judge", "(III)Z"⟩
def y_M_findSteps : MethodName := ⟨"SpellPitchModel", "findSteps", "(I)V"⟩
def y_M_isStep : MethodName := ⟨"SpellPitchModel", "isStep", "(IIII)Z"⟩
def y_M_keysCost : MethodName := ⟨"SpellPitchModel", "keysCost", "(II)I"⟩
def y_M_most : MethodName := ⟨"SpellPitchModel", "most", "(I)I"⟩
def y_M_begin : MethodName := ⟨"SpellPitchModel", "begin", "()V"⟩
def y_M_reach : MethodName := ⟨"SpellPitchModel", "reach", "(II)V"⟩
def y_M_goOn : MethodName := ⟨"SpellPitchModel", "goOn", "(I)V"⟩
def y_M_find : MethodName := ⟨"SpellPitchModel", "find", "()V"⟩
def y_M_sum : MethodName := ⟨"SpellPitchModel", "sum", "()I"⟩
def y_M_signs : MethodName := ⟨"SpellPitchModel", "signs", "()I"⟩
def y_M_ties : MethodName := ⟨"SpellPitchModel", "ties", "()I"⟩
def y_M_name : MethodName := ⟨"SpellPitchModel", "name", "(II)I"⟩
def y_M_keyOf : MethodName := ⟨"SpellPitchModel", "keyOf", "(I)I"⟩
def y_M_isTurn : MethodName := ⟨"SpellPitchModel", "isTurn", "(I)Z"⟩
def y_M_turned : MethodName := ⟨"SpellPitchModel", "turned", "()I"⟩
def y_M_turn : MethodName := ⟨"SpellPitchModel", "turn", "(I)I"⟩
def y_M_isInterval : MethodName := ⟨"SpellPitchModel", "isInterval", "(I)Z"⟩
def y_M_stepsOf : MethodName := ⟨"SpellPitchModel", "stepsOf", "(I)I"⟩
def y_M_halvesOf : MethodName := ⟨"SpellPitchModel", "halvesOf", "(I)I"⟩
def y_M_interval : MethodName := ⟨"SpellPitchModel", "interval", "(III)I"⟩
def y_M_quality : MethodName := ⟨"SpellPitchModel", "quality", "(II)I"⟩
def y_M_add : MethodName := ⟨"SpellPitchModel", "add", "(II)I"⟩
def y_M_transpose : MethodName := ⟨"SpellPitchModel", "transpose", "(III)I"⟩
def y_M_micro : MethodName := ⟨"SpellPitchModel", "micro", "(III)I"⟩
def y_M_step : MethodName := ⟨"SpellPitchModel", "step", "(II)I"⟩
def y_M_isName : MethodName := ⟨"SpellPitchModel", "isName", "(I)Z"⟩
def y_M_equal : MethodName := ⟨"SpellPitchModel", "equal", "(II)I"⟩
def y_M_scale : MethodName := ⟨"SpellPitchModel", "scale", "(II)I"⟩
def y_S_init : MethodName := ⟨"SpellPitch$Score", "<init>", "()V"⟩
def y_S_has : MethodName := ⟨"SpellPitch$Score", "has", "(I)Z"⟩
def y_S_canJoin : MethodName := ⟨"SpellPitch$Score", "canJoin", "()Z"⟩
def y_S_put : MethodName := ⟨"SpellPitch$Score", "put", "(IZ)I"⟩
def y_S_listOptions : MethodName := ⟨"SpellPitch$Score", "listOptions", "(I)V"⟩
def y_S_empty : MethodName := ⟨"SpellPitch$Score", "empty", "()V"⟩
def y_S_allowsName : MethodName := ⟨"SpellPitch$Score", "allowsName", "(II)Z"⟩
def y_S_allowsKey : MethodName := ⟨"SpellPitch$Score", "allowsKey", "(II)Z"⟩
def y_R_init : MethodName := ⟨"SpellPitch$Search", "<init>", "()V"⟩
def y_R_run : MethodName := ⟨"SpellPitch$Search", "run", "()V"⟩
def y_R_picksAt : MethodName := ⟨"SpellPitch$Search", "picksAt", "(I)I"⟩
def y_R_layOutStates : MethodName := ⟨"SpellPitch$Search", "layOutStates", "()V"⟩
def y_R_linkKeys : MethodName := ⟨"SpellPitch$Search", "linkKeys", "()V"⟩
def y_R_linkSteps : MethodName := ⟨"SpellPitch$Search", "linkSteps", "(I)V"⟩
def y_R_isBadStep : MethodName := ⟨"SpellPitch$Search", "isBadStep", "(IIII)Z"⟩
def y_R_lookAtTheEnd : MethodName := ⟨"SpellPitch$Search", "lookAtTheEnd", "()V"⟩
def y_R_weigh : MethodName := ⟨"SpellPitch$Search", "weigh", "(I)V"⟩
def y_R_tryNames : MethodName := ⟨"SpellPitch$Search", "tryNames", "(II)Z"⟩
def y_R_digit : MethodName := ⟨"SpellPitch$Search", "digit", "(III)I"⟩
def y_R_valueOfTried : MethodName := ⟨"SpellPitch$Search", "valueOfTried", "(I)I"⟩
def y_R_valueOutside : MethodName := ⟨"SpellPitch$Search", "valueOutside", "(II)I"⟩
def y_R_lookAheadFrom : MethodName := ⟨"SpellPitch$Search", "lookAheadFrom", "(I)V"⟩
def y_R_foldLines : MethodName := ⟨"SpellPitch$Search", "foldLines", "(III[II)V"⟩
def y_R_foldOne : MethodName := ⟨"SpellPitch$Search", "foldOne", "(II[II)V"⟩
def y_R_countChoices : MethodName := ⟨"SpellPitch$Search", "countChoices", "()V"⟩
def y_R_readOff : MethodName := ⟨"SpellPitch$Search", "readOff", "()V"⟩
def y_R_firstOfBest : MethodName := ⟨"SpellPitch$Search", "firstOfBest", "(II)I"⟩
def y_R_valueBetween : MethodName := ⟨"SpellPitch$Search", "valueBetween", "(III)I"⟩
def y_R_keep : MethodName := ⟨"SpellPitch$Search", "keep", "(II)V"⟩
def y_G_init : MethodName := ⟨"SpellPitch$Weights", "<init>", "()V"⟩
def y_J_abs : MethodName := ⟨"java/lang/Math", "abs", "(I)I"⟩
def y_J_floorDiv : MethodName := ⟨"java/lang/Math", "floorDiv", "(II)I"⟩
def y_J_floorMod : MethodName := ⟨"java/lang/Math", "floorMod", "(II)I"⟩
def y_J_max : MethodName := ⟨"java/lang/Math", "max", "(II)I"⟩
def y_J_min : MethodName := ⟨"java/lang/Math", "min", "(II)I"⟩
theorem kw_1 : Cond.initialized "SpellPitch" ∈ aW := aW_T 1 (by decide +kernel) (by decide +kernel)
theorem kw_2 : Cond.initialized "SpellPitch$Search" ∈ aW := aW_T 2 (by decide +kernel) (by decide +kernel)
theorem kw_3 : Cond.initialized "SpellPitch$Score" ∈ aW := aW_T 3 (by decide +kernel) (by decide +kernel)
theorem kw_4 : Cond.initialized "SpellPitch$Weights" ∈ aW := aW_T 4 (by decide +kernel) (by decide +kernel)
theorem kw_5 : Cond.initialized "SpellPitchModel" ∈ aW := aW_T 5 (by decide +kernel) (by decide +kernel)
theorem kw_6 : Cond.initialized "java/lang/Math" ∈ aW := aW_T 6 (by decide +kernel) (by decide +kernel)
theorem kw_7 : Cond.initialized "java/lang/System" ∈ aW := aW_T 7 (by decide +kernel) (by decide +kernel)
theorem kw_17 : Cond.methodLink "SpellPitch" 3 ⟨"java/lang/Object", "<init>", "()V"⟩ ∈ aW := aW_T 17 (by decide +kernel) (by decide +kernel)
theorem kw_18 : Cond.instanceMethod ⟨"java/lang/Object", "<init>", "()V"⟩ ∈ aW := aW_T 18 (by decide +kernel) (by decide +kernel)
theorem kw_19 : Cond.code ⟨"java/lang/Object", "<init>", "()V"⟩ object_method_1_code 1 (Option.none : Option Jvm.ClassFile.FieldType) ∈ aW := aW_T 19 (by decide +kernel) (by decide +kernel)
theorem kw_20 : Cond.classLink "SpellPitch" 9 "SpellPitch$Search" ∈ aW := aW_T 20 (by decide +kernel) (by decide +kernel)
theorem kw_21 : Cond.instantiable "SpellPitch$Search" 18 ∈ aW := aW_T 21 (by decide +kernel) (by decide +kernel)
theorem kw_23 : Cond.instanceMethod y_R_init ∈ aW := aW_T 23 (by decide +kernel) (by decide +kernel)
theorem kw_24 : Cond.code y_R_init prog_3_method_1_code 1 (Option.none : Option Jvm.ClassFile.FieldType) ∈ aW := aW_T 24 (by decide +kernel) (by decide +kernel)
theorem kw_25 : Cond.methodLink "SpellPitch$Search" 3 ⟨"java/lang/Object", "<init>", "()V"⟩ ∈ aW := aW_T 25 (by decide +kernel) (by decide +kernel)
theorem kw_26 : Cond.classLink "SpellPitch$Search" 28 "SpellPitch$Score" ∈ aW := aW_T 26 (by decide +kernel) (by decide +kernel)
theorem kw_27 : Cond.instantiable "SpellPitch$Score" 10 ∈ aW := aW_T 27 (by decide +kernel) (by decide +kernel)
theorem kw_29 : Cond.instanceMethod y_S_init ∈ aW := aW_T 29 (by decide +kernel) (by decide +kernel)
theorem kw_30 : Cond.code y_S_init prog_2_method_1_code 1 (Option.none : Option Jvm.ClassFile.FieldType) ∈ aW := aW_T 30 (by decide +kernel) (by decide +kernel)
theorem kw_31 : Cond.methodLink "SpellPitch$Score" 3 ⟨"java/lang/Object", "<init>", "()V"⟩ ∈ aW := aW_T 31 (by decide +kernel) (by decide +kernel)
theorem kw_32 : Cond.fieldLink "SpellPitch$Score" 9 "SpellPitch$Score" "pitches" "[I" ∈ aW := aW_T 32 (by decide +kernel) (by decide +kernel)
theorem kw_33 : Cond.fieldLink "SpellPitch" 58 "SpellPitch$Score" "pitches" "[I" ∈ aW := aW_T 33 (by decide +kernel) (by decide +kernel)
theorem kw_34 : Cond.fieldLink "SpellPitch$Search" 136 "SpellPitch$Score" "pitches" "[I" ∈ aW := aW_T 34 (by decide +kernel) (by decide +kernel)
theorem kw_35 : Cond.fieldLink "SpellPitch$Score" 15 "SpellPitch$Score" "toldNames" "[I" ∈ aW := aW_T 35 (by decide +kernel) (by decide +kernel)
theorem kw_36 : Cond.fieldLink "SpellPitch" 65 "SpellPitch$Score" "toldNames" "[I" ∈ aW := aW_T 36 (by decide +kernel) (by decide +kernel)
theorem kw_37 : Cond.fieldLink "SpellPitch$Score" 18 "SpellPitch$Score" "momentOf" "[I" ∈ aW := aW_T 37 (by decide +kernel) (by decide +kernel)
theorem kw_38 : Cond.fieldLink "SpellPitch" 48 "SpellPitch$Score" "momentOf" "[I" ∈ aW := aW_T 38 (by decide +kernel) (by decide +kernel)
theorem kw_39 : Cond.fieldLink "SpellPitch$Score" 21 "SpellPitch$Score" "firstSound" "[I" ∈ aW := aW_T 39 (by decide +kernel) (by decide +kernel)
theorem kw_40 : Cond.fieldLink "SpellPitch$Search" 122 "SpellPitch$Score" "firstSound" "[I" ∈ aW := aW_T 40 (by decide +kernel) (by decide +kernel)
theorem kw_41 : Cond.fieldLink "SpellPitch$Score" 24 "SpellPitch$Score" "soundsAt" "[I" ∈ aW := aW_T 41 (by decide +kernel) (by decide +kernel)
theorem kw_42 : Cond.fieldLink "SpellPitch$Search" 103 "SpellPitch$Score" "soundsAt" "[I" ∈ aW := aW_T 42 (by decide +kernel) (by decide +kernel)
theorem kw_43 : Cond.fieldLink "SpellPitch$Score" 27 "SpellPitch$Score" "toldKeys" "[I" ∈ aW := aW_T 43 (by decide +kernel) (by decide +kernel)
theorem kw_44 : Cond.fieldLink "SpellPitch" 52 "SpellPitch$Score" "toldKeys" "[I" ∈ aW := aW_T 44 (by decide +kernel) (by decide +kernel)
theorem kw_45 : Cond.fieldLink "SpellPitch$Score" 30 "SpellPitch$Score" "optionNames" "[I" ∈ aW := aW_T 45 (by decide +kernel) (by decide +kernel)
theorem kw_46 : Cond.fieldLink "SpellPitch$Search" 155 "SpellPitch$Score" "optionNames" "[I" ∈ aW := aW_T 46 (by decide +kernel) (by decide +kernel)
theorem kw_47 : Cond.fieldLink "SpellPitch$Score" 33 "SpellPitch$Score" "optionPlaces" "[I" ∈ aW := aW_T 47 (by decide +kernel) (by decide +kernel)
theorem kw_48 : Cond.fieldLink "SpellPitch$Search" 139 "SpellPitch$Score" "optionPlaces" "[I" ∈ aW := aW_T 48 (by decide +kernel) (by decide +kernel)
theorem kw_49 : Cond.fieldLink "SpellPitch$Score" 36 "SpellPitch$Score" "sounds" "I" ∈ aW := aW_T 49 (by decide +kernel) (by decide +kernel)
theorem kw_50 : Cond.fieldLink "SpellPitch" 36 "SpellPitch$Score" "sounds" "I" ∈ aW := aW_T 50 (by decide +kernel) (by decide +kernel)
theorem kw_51 : Cond.fieldLink "SpellPitch$Score" 40 "SpellPitch$Score" "moments" "I" ∈ aW := aW_T 51 (by decide +kernel) (by decide +kernel)
theorem kw_52 : Cond.fieldLink "SpellPitch$Search" 75 "SpellPitch$Score" "moments" "I" ∈ aW := aW_T 52 (by decide +kernel) (by decide +kernel)
theorem kw_53 : Cond.fieldLink "SpellPitch" 121 "SpellPitch$Score" "moments" "I" ∈ aW := aW_T 53 (by decide +kernel) (by decide +kernel)
theorem kw_75 : Cond.arrayClass .int ∈ aW := aW_T 75 (by decide +kernel) (by decide +kernel)
theorem kw_76 : Cond.classLink "SpellPitch$Search" 35 "SpellPitch$Weights" ∈ aW := aW_T 76 (by decide +kernel) (by decide +kernel)
theorem kw_77 : Cond.instantiable "SpellPitch$Weights" 5 ∈ aW := aW_T 77 (by decide +kernel) (by decide +kernel)
theorem kw_79 : Cond.instanceMethod y_G_init ∈ aW := aW_T 79 (by decide +kernel) (by decide +kernel)
theorem kw_80 : Cond.code y_G_init prog_4_method_1_code 1 (Option.none : Option Jvm.ClassFile.FieldType) ∈ aW := aW_T 80 (by decide +kernel) (by decide +kernel)
theorem kw_81 : Cond.methodLink "SpellPitch$Weights" 1 ⟨"java/lang/Object", "<init>", "()V"⟩ ∈ aW := aW_T 81 (by decide +kernel) (by decide +kernel)
theorem kw_82 : Cond.fieldLink "SpellPitch$Weights" 7 "SpellPitch$Weights" "out" "I" ∈ aW := aW_T 82 (by decide +kernel) (by decide +kernel)
theorem kw_83 : Cond.fieldLink "SpellPitch" 71 "SpellPitch$Weights" "out" "I" ∈ aW := aW_T 83 (by decide +kernel) (by decide +kernel)
theorem kw_84 : Cond.fieldLink "SpellPitch$Search" 177 "SpellPitch$Weights" "out" "I" ∈ aW := aW_T 84 (by decide +kernel) (by decide +kernel)
theorem kw_85 : Cond.fieldLink "SpellPitch$Weights" 13 "SpellPitch$Weights" "twice" "I" ∈ aW := aW_T 85 (by decide +kernel) (by decide +kernel)
theorem kw_86 : Cond.fieldLink "SpellPitch" 76 "SpellPitch$Weights" "twice" "I" ∈ aW := aW_T 86 (by decide +kernel) (by decide +kernel)
theorem kw_87 : Cond.fieldLink "SpellPitch$Search" 168 "SpellPitch$Weights" "twice" "I" ∈ aW := aW_T 87 (by decide +kernel) (by decide +kernel)
theorem kw_88 : Cond.fieldLink "SpellPitch$Weights" 16 "SpellPitch$Weights" "wide" "I" ∈ aW := aW_T 88 (by decide +kernel) (by decide +kernel)
theorem kw_89 : Cond.fieldLink "SpellPitch" 79 "SpellPitch$Weights" "wide" "I" ∈ aW := aW_T 89 (by decide +kernel) (by decide +kernel)
theorem kw_90 : Cond.fieldLink "SpellPitch$Search" 171 "SpellPitch$Weights" "wide" "I" ∈ aW := aW_T 90 (by decide +kernel) (by decide +kernel)
theorem kw_91 : Cond.fieldLink "SpellPitch$Weights" 19 "SpellPitch$Weights" "step" "I" ∈ aW := aW_T 91 (by decide +kernel) (by decide +kernel)
theorem kw_92 : Cond.fieldLink "SpellPitch" 82 "SpellPitch$Weights" "step" "I" ∈ aW := aW_T 92 (by decide +kernel) (by decide +kernel)
theorem kw_93 : Cond.fieldLink "SpellPitch$Search" 133 "SpellPitch$Weights" "step" "I" ∈ aW := aW_T 93 (by decide +kernel) (by decide +kernel)
theorem kw_94 : Cond.fieldLink "SpellPitch$Weights" 22 "SpellPitch$Weights" "change" "I" ∈ aW := aW_T 94 (by decide +kernel) (by decide +kernel)
theorem kw_95 : Cond.fieldLink "SpellPitch$Search" 119 "SpellPitch$Weights" "change" "I" ∈ aW := aW_T 95 (by decide +kernel) (by decide +kernel)
theorem kw_96 : Cond.fieldLink "SpellPitch" 85 "SpellPitch$Weights" "change" "I" ∈ aW := aW_T 96 (by decide +kernel) (by decide +kernel)
theorem kw_108 : Cond.fieldLink "SpellPitch$Search" 9 "SpellPitch$Search" "names" "[I" ∈ aW := aW_T 108 (by decide +kernel) (by decide +kernel)
theorem kw_109 : Cond.fieldLink "SpellPitch" 104 "SpellPitch$Search" "names" "[I" ∈ aW := aW_T 109 (by decide +kernel) (by decide +kernel)
theorem kw_110 : Cond.fieldLink "SpellPitch$Search" 15 "SpellPitch$Search" "keys" "[I" ∈ aW := aW_T 110 (by decide +kernel) (by decide +kernel)
theorem kw_111 : Cond.fieldLink "SpellPitch" 118 "SpellPitch$Search" "keys" "[I" ∈ aW := aW_T 111 (by decide +kernel) (by decide +kernel)
theorem kw_112 : Cond.fieldLink "SpellPitch$Search" 18 "SpellPitch$Search" "cost" "I" ∈ aW := aW_T 112 (by decide +kernel) (by decide +kernel)
theorem kw_113 : Cond.fieldLink "SpellPitch" 95 "SpellPitch$Search" "cost" "I" ∈ aW := aW_T 113 (by decide +kernel) (by decide +kernel)
theorem kw_114 : Cond.fieldLink "SpellPitch$Search" 22 "SpellPitch$Search" "signCount" "I" ∈ aW := aW_T 114 (by decide +kernel) (by decide +kernel)
theorem kw_115 : Cond.fieldLink "SpellPitch" 98 "SpellPitch$Search" "signCount" "I" ∈ aW := aW_T 115 (by decide +kernel) (by decide +kernel)
theorem kw_116 : Cond.fieldLink "SpellPitch$Search" 25 "SpellPitch$Search" "choices" "I" ∈ aW := aW_T 116 (by decide +kernel) (by decide +kernel)
theorem kw_117 : Cond.fieldLink "SpellPitch" 101 "SpellPitch$Search" "choices" "I" ∈ aW := aW_T 117 (by decide +kernel) (by decide +kernel)
theorem kw_118 : Cond.fieldLink "SpellPitch" 16 "SpellPitch$Search" "score" "LSpellPitch$Score;" ∈ aW := aW_T 118 (by decide +kernel) (by decide +kernel)
theorem kw_119 : Cond.fieldLink "SpellPitch$Search" 31 "SpellPitch$Search" "score" "LSpellPitch$Score;" ∈ aW := aW_T 119 (by decide +kernel) (by decide +kernel)
theorem kw_120 : Cond.fieldLink "SpellPitch" 21 "SpellPitch$Search" "weights" "LSpellPitch$Weights;" ∈ aW := aW_T 120 (by decide +kernel) (by decide +kernel)
theorem kw_121 : Cond.fieldLink "SpellPitch$Search" 38 "SpellPitch$Search" "weights" "LSpellPitch$Weights;" ∈ aW := aW_T 121 (by decide +kernel) (by decide +kernel)
theorem kw_122 : Cond.fieldLink "SpellPitch$Search" 42 "SpellPitch$Search" "values" "[I" ∈ aW := aW_T 122 (by decide +kernel) (by decide +kernel)
theorem kw_123 : Cond.fieldLink "SpellPitch$Search" 45 "SpellPitch$Search" "firstState" "[I" ∈ aW := aW_T 123 (by decide +kernel) (by decide +kernel)
theorem kw_124 : Cond.fieldLink "SpellPitch$Search" 48 "SpellPitch$Search" "ways" "[I" ∈ aW := aW_T 124 (by decide +kernel) (by decide +kernel)
theorem kw_125 : Cond.fieldLink "SpellPitch$Search" 51 "SpellPitch$Search" "ahead" "[I" ∈ aW := aW_T 125 (by decide +kernel) (by decide +kernel)
theorem kw_126 : Cond.fieldLink "SpellPitch$Search" 54 "SpellPitch$Search" "waysAhead" "[I" ∈ aW := aW_T 126 (by decide +kernel) (by decide +kernel)
theorem kw_127 : Cond.fieldLink "SpellPitch$Search" 57 "SpellPitch$Search" "line" "[I" ∈ aW := aW_T 127 (by decide +kernel) (by decide +kernel)
theorem kw_128 : Cond.fieldLink "SpellPitch$Search" 60 "SpellPitch$Search" "lineWays" "[I" ∈ aW := aW_T 128 (by decide +kernel) (by decide +kernel)
theorem kw_129 : Cond.fieldLink "SpellPitch$Search" 63 "SpellPitch$Search" "keyLinks" "[I" ∈ aW := aW_T 129 (by decide +kernel) (by decide +kernel)
theorem kw_130 : Cond.fieldLink "SpellPitch$Search" 66 "SpellPitch$Search" "stepLinks" "[I" ∈ aW := aW_T 130 (by decide +kernel) (by decide +kernel)
theorem kw_131 : Cond.fieldLink "SpellPitch$Search" 69 "SpellPitch$Search" "tried" "[I" ∈ aW := aW_T 131 (by decide +kernel) (by decide +kernel)
theorem kw_132 : Cond.fieldLink "SpellPitch$Search" 72 "SpellPitch$Search" "picksAhead" "I" ∈ aW := aW_T 132 (by decide +kernel) (by decide +kernel)
theorem kw_170 : Cond.fieldLink "SpellPitch" 20 "SpellPitch" "score" "LSpellPitch$Score;" ∈ aW := aW_T 170 (by decide +kernel) (by decide +kernel)
theorem kw_171 : Cond.fieldLink "SpellPitch" 25 "SpellPitch" "weights" "LSpellPitch$Weights;" ∈ aW := aW_T 171 (by decide +kernel) (by decide +kernel)
theorem kw_172 : Cond.fieldLink "SpellPitch" 12 "SpellPitch" "search" "LSpellPitch$Search;" ∈ aW := aW_T 172 (by decide +kernel) (by decide +kernel)
theorem kw_173 : Cond.fieldLink "SpellPitch" 26 "SpellPitch" "searched" "Z" ∈ aW := aW_T 173 (by decide +kernel) (by decide +kernel)
theorem kw_187 : Cond.methodLink "SpellPitch" 30 y_S_canJoin ∈ aW := aW_T 187 (by decide +kernel) (by decide +kernel)
theorem kw_188 : Cond.instanceMethod y_S_canJoin ∈ aW := aW_T 188 (by decide +kernel) (by decide +kernel)
theorem kw_189 : Cond.selects "SpellPitch$Score" y_S_canJoin y_S_canJoin ∈ aW := aW_T 189 (by decide +kernel) (by decide +kernel)
theorem kw_190 : Cond.code y_S_canJoin prog_2_method_3_code 1 (Option.some Jvm.ClassFile.FieldType.boolean) ∈ aW := aW_T 190 (by decide +kernel) (by decide +kernel)
theorem kw_191 : Cond.methodLink "SpellPitch" 40 y_S_put ∈ aW := aW_T 191 (by decide +kernel) (by decide +kernel)
theorem kw_192 : Cond.instanceMethod y_S_put ∈ aW := aW_T 192 (by decide +kernel) (by decide +kernel)
theorem kw_193 : Cond.selects "SpellPitch$Score" y_S_put y_S_put ∈ aW := aW_T 193 (by decide +kernel) (by decide +kernel)
theorem kw_194 : Cond.code y_S_put prog_2_method_4_code 4 (Option.some Jvm.ClassFile.FieldType.int) ∈ aW := aW_T 194 (by decide +kernel) (by decide +kernel)
theorem kw_195 : Cond.methodLink "SpellPitch$Score" 43 y_S_listOptions ∈ aW := aW_T 195 (by decide +kernel) (by decide +kernel)
theorem kw_197 : Cond.instanceMethod y_S_listOptions ∈ aW := aW_T 197 (by decide +kernel) (by decide +kernel)
theorem kw_198 : Cond.code y_S_listOptions prog_2_method_5_code 5 (Option.none : Option Jvm.ClassFile.FieldType) ∈ aW := aW_T 198 (by decide +kernel) (by decide +kernel)
theorem kw_199 : Cond.methodLink "SpellPitch$Score" 47 y_J_floorMod ∈ aW := aW_T 199 (by decide +kernel) (by decide +kernel)
theorem kw_200 : Cond.static y_J_floorMod ∈ aW := aW_T 200 (by decide +kernel) (by decide +kernel)
theorem kw_201 : Cond.code y_J_floorMod prog_9_method_50_code 3 (Option.some Jvm.ClassFile.FieldType.int) ∈ aW := aW_T 201 (by decide +kernel) (by decide +kernel)
theorem kw_203 : Cond.static y_X_placeOf ∈ aW := aW_T 203 (by decide +kernel) (by decide +kernel)
theorem kw_204 : Cond.code y_X_placeOf prog_1_method_31_code 2 (Option.some Jvm.ClassFile.FieldType.int) ∈ aW := aW_T 204 (by decide +kernel) (by decide +kernel)
theorem kw_205 : Cond.methodLink "SpellPitch" 114 y_X_octaveOf ∈ aW := aW_T 205 (by decide +kernel) (by decide +kernel)
theorem kw_206 : Cond.static y_X_octaveOf ∈ aW := aW_T 206 (by decide +kernel) (by decide +kernel)
theorem kw_207 : Cond.code y_X_octaveOf prog_1_method_30_code 2 (Option.some Jvm.ClassFile.FieldType.int) ∈ aW := aW_T 207 (by decide +kernel) (by decide +kernel)
theorem kw_208 : Cond.methodLink "SpellPitch" 111 y_X_signsOf ∈ aW := aW_T 208 (by decide +kernel) (by decide +kernel)
theorem kw_209 : Cond.static y_X_signsOf ∈ aW := aW_T 209 (by decide +kernel) (by decide +kernel)
theorem kw_210 : Cond.code y_X_signsOf prog_1_method_29_code 1 (Option.some Jvm.ClassFile.FieldType.int) ∈ aW := aW_T 210 (by decide +kernel) (by decide +kernel)
theorem kw_211 : Cond.methodLink "SpellPitch" 133 y_J_floorDiv ∈ aW := aW_T 211 (by decide +kernel) (by decide +kernel)
theorem kw_212 : Cond.static y_J_floorDiv ∈ aW := aW_T 212 (by decide +kernel) (by decide +kernel)
theorem kw_213 : Cond.code y_J_floorDiv prog_9_method_47_code 3 (Option.some Jvm.ClassFile.FieldType.int) ∈ aW := aW_T 213 (by decide +kernel) (by decide +kernel)
theorem kw_214 : Cond.methodLink "SpellPitch" 107 y_X_letterOf ∈ aW := aW_T 214 (by decide +kernel) (by decide +kernel)
theorem kw_215 : Cond.static y_X_letterOf ∈ aW := aW_T 215 (by decide +kernel) (by decide +kernel)
theorem kw_216 : Cond.code y_X_letterOf prog_1_method_28_code 1 (Option.some Jvm.ClassFile.FieldType.int) ∈ aW := aW_T 216 (by decide +kernel) (by decide +kernel)
theorem kw_217 : Cond.methodLink "SpellPitch" 154 y_J_floorMod ∈ aW := aW_T 217 (by decide +kernel) (by decide +kernel)
theorem kw_222 : Cond.methodLink "SpellPitch" 44 y_S_has ∈ aW := aW_T 222 (by decide +kernel) (by decide +kernel)
theorem kw_223 : Cond.instanceMethod y_S_has ∈ aW := aW_T 223 (by decide +kernel) (by decide +kernel)
theorem kw_224 : Cond.selects "SpellPitch$Score" y_S_has y_S_has ∈ aW := aW_T 224 (by decide +kernel) (by decide +kernel)
theorem kw_225 : Cond.code y_S_has prog_2_method_2_code 2 (Option.some Jvm.ClassFile.FieldType.boolean) ∈ aW := aW_T 225 (by decide +kernel) (by decide +kernel)
theorem kw_230 : Cond.methodLink "SpellPitch" 55 y_X_isName ∈ aW := aW_T 230 (by decide +kernel) (by decide +kernel)
theorem kw_231 : Cond.static y_X_isName ∈ aW := aW_T 231 (by decide +kernel) (by decide +kernel)
theorem kw_232 : Cond.code y_X_isName prog_1_method_23_code 1 (Option.some Jvm.ClassFile.FieldType.boolean) ∈ aW := aW_T 232 (by decide +kernel) (by decide +kernel)
theorem kw_233 : Cond.methodLink "SpellPitch" 61 y_X_soundsAs ∈ aW := aW_T 233 (by decide +kernel) (by decide +kernel)
theorem kw_234 : Cond.static y_X_soundsAs ∈ aW := aW_T 234 (by decide +kernel) (by decide +kernel)
theorem kw_235 : Cond.code y_X_soundsAs prog_1_method_27_code 2 (Option.some Jvm.ClassFile.FieldType.boolean) ∈ aW := aW_T 235 (by decide +kernel) (by decide +kernel)
theorem kw_240 : Cond.methodLink "SpellPitch" 68 y_X_isWeight ∈ aW := aW_T 240 (by decide +kernel) (by decide +kernel)
theorem kw_241 : Cond.static y_X_isWeight ∈ aW := aW_T 241 (by decide +kernel) (by decide +kernel)
theorem kw_242 : Cond.code y_X_isWeight prog_1_method_25_code 1 (Option.some Jvm.ClassFile.FieldType.boolean) ∈ aW := aW_T 242 (by decide +kernel) (by decide +kernel)
theorem kw_247 : Cond.methodLink "SpellPitch" 88 y_S_empty ∈ aW := aW_T 247 (by decide +kernel) (by decide +kernel)
theorem kw_248 : Cond.instanceMethod y_S_empty ∈ aW := aW_T 248 (by decide +kernel) (by decide +kernel)
theorem kw_249 : Cond.selects "SpellPitch$Score" y_S_empty y_S_empty ∈ aW := aW_T 249 (by decide +kernel) (by decide +kernel)
theorem kw_250 : Cond.code y_S_empty prog_2_method_6_code 1 (Option.none : Option Jvm.ClassFile.FieldType) ∈ aW := aW_T 250 (by decide +kernel) (by decide +kernel)
theorem kw_255 : Cond.methodLink "SpellPitch" 91 y_X_meant ∈ aW := aW_T 255 (by decide +kernel) (by decide +kernel)
theorem kw_257 : Cond.instanceMethod y_X_meant ∈ aW := aW_T 257 (by decide +kernel) (by decide +kernel)
theorem kw_258 : Cond.code y_X_meant prog_1_method_22_code 1 (Option.some (Jvm.ClassFile.FieldType.object "SpellPitch$Search")) ∈ aW := aW_T 258 (by decide +kernel) (by decide +kernel)
theorem kw_259 : Cond.methodLink "SpellPitch" 157 y_R_run ∈ aW := aW_T 259 (by decide +kernel) (by decide +kernel)
theorem kw_260 : Cond.instanceMethod y_R_run ∈ aW := aW_T 260 (by decide +kernel) (by decide +kernel)
theorem kw_261 : Cond.selects "SpellPitch$Search" y_R_run y_R_run ∈ aW := aW_T 261 (by decide +kernel) (by decide +kernel)
theorem kw_262 : Cond.code y_R_run prog_3_method_2_code 2 (Option.none : Option Jvm.ClassFile.FieldType) ∈ aW := aW_T 262 (by decide +kernel) (by decide +kernel)
theorem kw_263 : Cond.methodLink "SpellPitch$Search" 78 y_R_layOutStates ∈ aW := aW_T 263 (by decide +kernel) (by decide +kernel)
theorem kw_265 : Cond.instanceMethod y_R_layOutStates ∈ aW := aW_T 265 (by decide +kernel) (by decide +kernel)
theorem kw_266 : Cond.code y_R_layOutStates prog_3_method_4_code 3 (Option.none : Option Jvm.ClassFile.FieldType) ∈ aW := aW_T 266 (by decide +kernel) (by decide +kernel)
theorem kw_267 : Cond.methodLink "SpellPitch$Search" 106 y_R_picksAt ∈ aW := aW_T 267 (by decide +kernel) (by decide +kernel)
theorem kw_269 : Cond.instanceMethod y_R_picksAt ∈ aW := aW_T 269 (by decide +kernel) (by decide +kernel)
theorem kw_270 : Cond.code y_R_picksAt prog_3_method_3_code 2 (Option.some Jvm.ClassFile.FieldType.int) ∈ aW := aW_T 270 (by decide +kernel) (by decide +kernel)
theorem kw_271 : Cond.fieldLink "SpellPitch$Search" 100 "SpellPitch$Search" "PICKS" "[I" ∈ aW := aW_T 271 (by decide +kernel) (by decide +kernel)
theorem kw_273 : Cond.methodLink "SpellPitch$Search" 81 y_R_linkKeys ∈ aW := aW_T 273 (by decide +kernel) (by decide +kernel)
theorem kw_275 : Cond.instanceMethod y_R_linkKeys ∈ aW := aW_T 275 (by decide +kernel) (by decide +kernel)
theorem kw_276 : Cond.code y_R_linkKeys prog_3_method_5_code 4 (Option.none : Option Jvm.ClassFile.FieldType) ∈ aW := aW_T 276 (by decide +kernel) (by decide +kernel)
theorem kw_278 : Cond.static y_X_isTurn ∈ aW := aW_T 278 (by decide +kernel) (by decide +kernel)
theorem kw_279 : Cond.code y_X_isTurn prog_1_method_26_code 2 (Option.some Jvm.ClassFile.FieldType.boolean) ∈ aW := aW_T 279 (by decide +kernel) (by decide +kernel)
theorem kw_280 : Cond.methodLink "SpellPitch" 160 y_J_abs ∈ aW := aW_T 280 (by decide +kernel) (by decide +kernel)
theorem kw_281 : Cond.static y_J_abs ∈ aW := aW_T 281 (by decide +kernel) (by decide +kernel)
theorem kw_282 : Cond.code y_J_abs prog_9_method_59_code 1 (Option.some Jvm.ClassFile.FieldType.int) ∈ aW := aW_T 282 (by decide +kernel) (by decide +kernel)
theorem kw_283 : Cond.methodLink "SpellPitch$Search" 114 y_J_abs ∈ aW := aW_T 283 (by decide +kernel) (by decide +kernel)
theorem kw_284 : Cond.methodLink "SpellPitch$Search" 84 y_R_lookAtTheEnd ∈ aW := aW_T 284 (by decide +kernel) (by decide +kernel)
theorem kw_286 : Cond.instanceMethod y_R_lookAtTheEnd ∈ aW := aW_T 286 (by decide +kernel) (by decide +kernel)
theorem kw_287 : Cond.code y_R_lookAtTheEnd prog_3_method_8_code 2 (Option.none : Option Jvm.ClassFile.FieldType) ∈ aW := aW_T 287 (by decide +kernel) (by decide +kernel)
theorem kw_288 : Cond.methodLink "SpellPitch$Search" 87 y_R_weigh ∈ aW := aW_T 288 (by decide +kernel) (by decide +kernel)
theorem kw_290 : Cond.instanceMethod y_R_weigh ∈ aW := aW_T 290 (by decide +kernel) (by decide +kernel)
theorem kw_291 : Cond.code y_R_weigh prog_3_method_9_code 11 (Option.none : Option Jvm.ClassFile.FieldType) ∈ aW := aW_T 291 (by decide +kernel) (by decide +kernel)
theorem kw_292 : Cond.methodLink "SpellPitch$Search" 142 y_R_tryNames ∈ aW := aW_T 292 (by decide +kernel) (by decide +kernel)
theorem kw_294 : Cond.instanceMethod y_R_tryNames ∈ aW := aW_T 294 (by decide +kernel) (by decide +kernel)
theorem kw_295 : Cond.code y_R_tryNames prog_3_method_10_code 7 (Option.some Jvm.ClassFile.FieldType.boolean) ∈ aW := aW_T 295 (by decide +kernel) (by decide +kernel)
theorem kw_296 : Cond.methodLink "SpellPitch$Search" 158 y_R_digit ∈ aW := aW_T 296 (by decide +kernel) (by decide +kernel)
theorem kw_297 : Cond.static y_R_digit ∈ aW := aW_T 297 (by decide +kernel) (by decide +kernel)
theorem kw_298 : Cond.code y_R_digit prog_3_method_11_code 3 (Option.some Jvm.ClassFile.FieldType.int) ∈ aW := aW_T 298 (by decide +kernel) (by decide +kernel)
theorem kw_299 : Cond.methodLink "SpellPitch$Search" 162 y_S_allowsName ∈ aW := aW_T 299 (by decide +kernel) (by decide +kernel)
theorem kw_300 : Cond.instanceMethod y_S_allowsName ∈ aW := aW_T 300 (by decide +kernel) (by decide +kernel)
theorem kw_301 : Cond.selects "SpellPitch$Score" y_S_allowsName y_S_allowsName ∈ aW := aW_T 301 (by decide +kernel) (by decide +kernel)
theorem kw_302 : Cond.code y_S_allowsName prog_2_method_7_code 3 (Option.some Jvm.ClassFile.FieldType.boolean) ∈ aW := aW_T 302 (by decide +kernel) (by decide +kernel)
theorem kw_304 : Cond.methodLink "SpellPitch$Search" 145 y_R_valueOfTried ∈ aW := aW_T 304 (by decide +kernel) (by decide +kernel)
theorem kw_306 : Cond.instanceMethod y_R_valueOfTried ∈ aW := aW_T 306 (by decide +kernel) (by decide +kernel)
theorem kw_307 : Cond.code y_R_valueOfTried prog_3_method_12_code 9 (Option.some Jvm.ClassFile.FieldType.int) ∈ aW := aW_T 307 (by decide +kernel) (by decide +kernel)
theorem kw_309 : Cond.methodLink "SpellPitch$Search" 174 y_J_max ∈ aW := aW_T 309 (by decide +kernel) (by decide +kernel)
theorem kw_310 : Cond.static y_J_max ∈ aW := aW_T 310 (by decide +kernel) (by decide +kernel)
theorem kw_311 : Cond.code y_J_max prog_9_method_65_code 2 (Option.some Jvm.ClassFile.FieldType.int) ∈ aW := aW_T 311 (by decide +kernel) (by decide +kernel)
theorem kw_312 : Jvm.Cond.constant "SpellPitch$Search" 148 268435456 ∈ aW := aW_T 312 (by decide +kernel) (by decide +kernel)
theorem kw_313 : Cond.methodLink "SpellPitch$Search" 149 y_S_allowsKey ∈ aW := aW_T 313 (by decide +kernel) (by decide +kernel)
theorem kw_314 : Cond.instanceMethod y_S_allowsKey ∈ aW := aW_T 314 (by decide +kernel) (by decide +kernel)
theorem kw_315 : Cond.selects "SpellPitch$Score" y_S_allowsKey y_S_allowsKey ∈ aW := aW_T 315 (by decide +kernel) (by decide +kernel)
theorem kw_316 : Cond.code y_S_allowsKey prog_2_method_8_code 3 (Option.some Jvm.ClassFile.FieldType.boolean) ∈ aW := aW_T 316 (by decide +kernel) (by decide +kernel)
theorem kw_317 : Cond.methodLink "SpellPitch$Search" 152 y_R_valueOutside ∈ aW := aW_T 317 (by decide +kernel) (by decide +kernel)
theorem kw_319 : Cond.instanceMethod y_R_valueOutside ∈ aW := aW_T 319 (by decide +kernel) (by decide +kernel)
theorem kw_320 : Cond.code y_R_valueOutside prog_3_method_13_code 7 (Option.some Jvm.ClassFile.FieldType.int) ∈ aW := aW_T 320 (by decide +kernel) (by decide +kernel)
theorem kw_321 : Cond.methodLink "SpellPitch$Search" 91 y_R_lookAheadFrom ∈ aW := aW_T 321 (by decide +kernel) (by decide +kernel)
theorem kw_323 : Cond.instanceMethod y_R_lookAheadFrom ∈ aW := aW_T 323 (by decide +kernel) (by decide +kernel)
theorem kw_324 : Cond.code y_R_lookAheadFrom prog_3_method_14_code 6 (Option.none : Option Jvm.ClassFile.FieldType) ∈ aW := aW_T 324 (by decide +kernel) (by decide +kernel)
theorem kw_325 : Cond.methodLink "SpellPitch$Search" 180 ⟨"java/lang/System", "arraycopy", "(Ljava/lang/Object;ILjava/lang/Object;II)V"⟩ ∈ aW := aW_T 325 (by decide +kernel) (by decide +kernel)
theorem kw_326 : Cond.static ⟨"java/lang/System", "arraycopy", "(Ljava/lang/Object;ILjava/lang/Object;II)V"⟩ ∈ aW := aW_T 326 (by decide +kernel) (by decide +kernel)
theorem kw_328 : Cond.methodLink "SpellPitch$Search" 186 y_R_foldLines ∈ aW := aW_T 328 (by decide +kernel) (by decide +kernel)
theorem kw_330 : Cond.instanceMethod y_R_foldLines ∈ aW := aW_T 330 (by decide +kernel) (by decide +kernel)
theorem kw_331 : Cond.code y_R_foldLines prog_3_method_15_code 10 (Option.none : Option Jvm.ClassFile.FieldType) ∈ aW := aW_T 331 (by decide +kernel) (by decide +kernel)
theorem kw_332 : Cond.methodLink "SpellPitch$Search" 193 y_R_foldOne ∈ aW := aW_T 332 (by decide +kernel) (by decide +kernel)
theorem kw_334 : Cond.instanceMethod y_R_foldOne ∈ aW := aW_T 334 (by decide +kernel) (by decide +kernel)
theorem kw_335 : Cond.code y_R_foldOne prog_3_method_16_code 9 (Option.none : Option Jvm.ClassFile.FieldType) ∈ aW := aW_T 335 (by decide +kernel) (by decide +kernel)
theorem kw_336 : Jvm.Cond.constant "SpellPitch$Search" 197 1000000 ∈ aW := aW_T 336 (by decide +kernel) (by decide +kernel)
theorem kw_337 : Cond.methodLink "SpellPitch$Search" 125 y_J_min ∈ aW := aW_T 337 (by decide +kernel) (by decide +kernel)
theorem kw_338 : Cond.static y_J_min ∈ aW := aW_T 338 (by decide +kernel) (by decide +kernel)
theorem kw_339 : Cond.code y_J_min prog_9_method_69_code 2 (Option.some Jvm.ClassFile.FieldType.int) ∈ aW := aW_T 339 (by decide +kernel) (by decide +kernel)
theorem kw_340 : Cond.methodLink "SpellPitch$Search" 190 y_R_linkSteps ∈ aW := aW_T 340 (by decide +kernel) (by decide +kernel)
theorem kw_342 : Cond.instanceMethod y_R_linkSteps ∈ aW := aW_T 342 (by decide +kernel) (by decide +kernel)
theorem kw_343 : Cond.code y_R_linkSteps prog_3_method_6_code 8 (Option.none : Option Jvm.ClassFile.FieldType) ∈ aW := aW_T 343 (by decide +kernel) (by decide +kernel)
theorem kw_344 : Cond.methodLink "SpellPitch$Search" 129 y_R_isBadStep ∈ aW := aW_T 344 (by decide +kernel) (by decide +kernel)
theorem kw_346 : Cond.instanceMethod y_R_isBadStep ∈ aW := aW_T 346 (by decide +kernel) (by decide +kernel)
theorem kw_347 : Cond.code y_R_isBadStep prog_3_method_7_code 8 (Option.some Jvm.ClassFile.FieldType.boolean) ∈ aW := aW_T 347 (by decide +kernel) (by decide +kernel)
theorem kw_348 : Cond.methodLink "SpellPitch$Search" 94 y_R_countChoices ∈ aW := aW_T 348 (by decide +kernel) (by decide +kernel)
theorem kw_350 : Cond.instanceMethod y_R_countChoices ∈ aW := aW_T 350 (by decide +kernel) (by decide +kernel)
theorem kw_351 : Cond.code y_R_countChoices prog_3_method_17_code 4 (Option.none : Option Jvm.ClassFile.FieldType) ∈ aW := aW_T 351 (by decide +kernel) (by decide +kernel)
theorem kw_352 : Cond.methodLink "SpellPitch$Search" 97 y_R_readOff ∈ aW := aW_T 352 (by decide +kernel) (by decide +kernel)
theorem kw_354 : Cond.instanceMethod y_R_readOff ∈ aW := aW_T 354 (by decide +kernel) (by decide +kernel)
theorem kw_355 : Cond.code y_R_readOff prog_3_method_18_code 3 (Option.none : Option Jvm.ClassFile.FieldType) ∈ aW := aW_T 355 (by decide +kernel) (by decide +kernel)
theorem kw_356 : Cond.methodLink "SpellPitch$Search" 198 y_R_firstOfBest ∈ aW := aW_T 356 (by decide +kernel) (by decide +kernel)
theorem kw_358 : Cond.instanceMethod y_R_firstOfBest ∈ aW := aW_T 358 (by decide +kernel) (by decide +kernel)
theorem kw_359 : Cond.code y_R_firstOfBest prog_3_method_19_code 8 (Option.some Jvm.ClassFile.FieldType.int) ∈ aW := aW_T 359 (by decide +kernel) (by decide +kernel)
theorem kw_360 : Cond.methodLink "SpellPitch$Search" 205 y_R_valueBetween ∈ aW := aW_T 360 (by decide +kernel) (by decide +kernel)
theorem kw_362 : Cond.instanceMethod y_R_valueBetween ∈ aW := aW_T 362 (by decide +kernel) (by decide +kernel)
theorem kw_363 : Cond.code y_R_valueBetween prog_3_method_20_code 11 (Option.some Jvm.ClassFile.FieldType.int) ∈ aW := aW_T 363 (by decide +kernel) (by decide +kernel)
theorem kw_364 : Cond.methodLink "SpellPitch$Search" 201 y_R_keep ∈ aW := aW_T 364 (by decide +kernel) (by decide +kernel)
theorem kw_366 : Cond.instanceMethod y_R_keep ∈ aW := aW_T 366 (by decide +kernel) (by decide +kernel)
theorem kw_367 : Cond.code y_R_keep prog_3_method_21_code 7 (Option.none : Option Jvm.ClassFile.FieldType) ∈ aW := aW_T 367 (by decide +kernel) (by decide +kernel)
theorem kw_388 : Cond.methodLink "SpellPitch" 124 y_X_isTurn ∈ aW := aW_T 388 (by decide +kernel) (by decide +kernel)
theorem kw_397 : Cond.methodLink "SpellPitch" 127 y_X_placeOf ∈ aW := aW_T 397 (by decide +kernel) (by decide +kernel)
theorem kw_398 : Cond.methodLink "SpellPitch" 130 y_X_stepsOf ∈ aW := aW_T 398 (by decide +kernel) (by decide +kernel)
theorem kw_399 : Cond.static y_X_stepsOf ∈ aW := aW_T 399 (by decide +kernel) (by decide +kernel)
theorem kw_400 : Cond.code y_X_stepsOf prog_1_method_32_code 1 (Option.some Jvm.ClassFile.FieldType.int) ∈ aW := aW_T 400 (by decide +kernel) (by decide +kernel)
theorem kw_405 : Cond.methodLink "SpellPitch" 138 y_X_isInterval ∈ aW := aW_T 405 (by decide +kernel) (by decide +kernel)
theorem kw_406 : Cond.static y_X_isInterval ∈ aW := aW_T 406 (by decide +kernel) (by decide +kernel)
theorem kw_407 : Cond.code y_X_isInterval prog_1_method_24_code 1 (Option.some Jvm.ClassFile.FieldType.boolean) ∈ aW := aW_T 407 (by decide +kernel) (by decide +kernel)
theorem kw_408 : Cond.methodLink "SpellPitch" 141 y_X_halvesOf ∈ aW := aW_T 408 (by decide +kernel) (by decide +kernel)
theorem kw_409 : Cond.static y_X_halvesOf ∈ aW := aW_T 409 (by decide +kernel) (by decide +kernel)
theorem kw_410 : Cond.code y_X_halvesOf prog_1_method_33_code 1 (Option.some Jvm.ClassFile.FieldType.int) ∈ aW := aW_T 410 (by decide +kernel) (by decide +kernel)
theorem kw_411 : Cond.methodLink "SpellPitch" 144 y_X_sortOf ∈ aW := aW_T 411 (by decide +kernel) (by decide +kernel)
theorem kw_412 : Cond.static y_X_sortOf ∈ aW := aW_T 412 (by decide +kernel) (by decide +kernel)
theorem kw_413 : Cond.code y_X_sortOf prog_1_method_34_code 3 (Option.some Jvm.ClassFile.FieldType.int) ∈ aW := aW_T 413 (by decide +kernel) (by decide +kernel)
theorem kw_513 : Cond.methodLink "SpellPitchModel" 1 ⟨"java/lang/Object", "<init>", "()V"⟩ ∈ aW := aW_T 513 (by decide +kernel) (by decide +kernel)
theorem kw_514 : Cond.fieldLink "SpellPitchModel" 86 "SpellPitchModel" "code" "I" ∈ aW := aW_T 514 (by decide +kernel) (by decide +kernel)
theorem kw_515 : Cond.fieldLink "SpellPitchModel" 89 "SpellPitchModel" "sounds" "I" ∈ aW := aW_T 515 (by decide +kernel) (by decide +kernel)
theorem kw_516 : Cond.fieldLink "SpellPitchModel" 92 "SpellPitchModel" "moments" "I" ∈ aW := aW_T 516 (by decide +kernel) (by decide +kernel)
theorem kw_517 : Cond.fieldLink "SpellPitchModel" 7 "SpellPitchModel" "pitches" "[I" ∈ aW := aW_T 517 (by decide +kernel) (by decide +kernel)
theorem kw_518 : Cond.fieldLink "SpellPitchModel" 13 "SpellPitchModel" "momentOf" "[I" ∈ aW := aW_T 518 (by decide +kernel) (by decide +kernel)
theorem kw_519 : Cond.fieldLink "SpellPitchModel" 16 "SpellPitchModel" "told" "[I" ∈ aW := aW_T 519 (by decide +kernel) (by decide +kernel)
theorem kw_520 : Cond.fieldLink "SpellPitchModel" 19 "SpellPitchModel" "firstOf" "[I" ∈ aW := aW_T 520 (by decide +kernel) (by decide +kernel)
theorem kw_521 : Cond.fieldLink "SpellPitchModel" 22 "SpellPitchModel" "sizeOf" "[I" ∈ aW := aW_T 521 (by decide +kernel) (by decide +kernel)
theorem kw_522 : Cond.fieldLink "SpellPitchModel" 25 "SpellPitchModel" "keyTold" "[I" ∈ aW := aW_T 522 (by decide +kernel) (by decide +kernel)
theorem kw_523 : Cond.fieldLink "SpellPitchModel" 28 "SpellPitchModel" "out" "I" ∈ aW := aW_T 523 (by decide +kernel) (by decide +kernel)
theorem kw_524 : Cond.fieldLink "SpellPitchModel" 32 "SpellPitchModel" "twice" "I" ∈ aW := aW_T 524 (by decide +kernel) (by decide +kernel)
theorem kw_525 : Cond.fieldLink "SpellPitchModel" 35 "SpellPitchModel" "wide" "I" ∈ aW := aW_T 525 (by decide +kernel) (by decide +kernel)
theorem kw_526 : Cond.fieldLink "SpellPitchModel" 38 "SpellPitchModel" "step" "I" ∈ aW := aW_T 526 (by decide +kernel) (by decide +kernel)
theorem kw_527 : Cond.fieldLink "SpellPitchModel" 41 "SpellPitchModel" "change" "I" ∈ aW := aW_T 527 (by decide +kernel) (by decide +kernel)
theorem kw_528 : Cond.fieldLink "SpellPitchModel" 128 "SpellPitchModel" "rowCost" "I" ∈ aW := aW_T 528 (by decide +kernel) (by decide +kernel)
theorem kw_529 : Cond.fieldLink "SpellPitchModel" 131 "SpellPitchModel" "rowSigns" "I" ∈ aW := aW_T 529 (by decide +kernel) (by decide +kernel)
theorem kw_530 : Cond.fieldLink "SpellPitchModel" 44 "SpellPitchModel" "names" "[I" ∈ aW := aW_T 530 (by decide +kernel) (by decide +kernel)
theorem kw_531 : Cond.fieldLink "SpellPitchModel" 47 "SpellPitchModel" "before" "[I" ∈ aW := aW_T 531 (by decide +kernel) (by decide +kernel)
theorem kw_532 : Cond.fieldLink "SpellPitchModel" 50 "SpellPitchModel" "steps" "[I" ∈ aW := aW_T 532 (by decide +kernel) (by decide +kernel)
theorem kw_533 : Cond.fieldLink "SpellPitchModel" 95 "SpellPitchModel" "known" "Z" ∈ aW := aW_T 533 (by decide +kernel) (by decide +kernel)
theorem kw_534 : Cond.fieldLink "SpellPitchModel" 53 "SpellPitchModel" "cost" "[I" ∈ aW := aW_T 534 (by decide +kernel) (by decide +kernel)
theorem kw_535 : Cond.fieldLink "SpellPitchModel" 56 "SpellPitchModel" "sign" "[I" ∈ aW := aW_T 535 (by decide +kernel) (by decide +kernel)
theorem kw_536 : Cond.fieldLink "SpellPitchModel" 59 "SpellPitchModel" "rank" "[I" ∈ aW := aW_T 536 (by decide +kernel) (by decide +kernel)
theorem kw_537 : Cond.fieldLink "SpellPitchModel" 62 "SpellPitchModel" "many" "[I" ∈ aW := aW_T 537 (by decide +kernel) (by decide +kernel)
theorem kw_538 : Cond.fieldLink "SpellPitchModel" 65 "SpellPitchModel" "nextCost" "[I" ∈ aW := aW_T 538 (by decide +kernel) (by decide +kernel)
theorem kw_539 : Cond.fieldLink "SpellPitchModel" 68 "SpellPitchModel" "nextSign" "[I" ∈ aW := aW_T 539 (by decide +kernel) (by decide +kernel)
theorem kw_540 : Cond.fieldLink "SpellPitchModel" 71 "SpellPitchModel" "nextCode" "[I" ∈ aW := aW_T 540 (by decide +kernel) (by decide +kernel)
theorem kw_541 : Cond.fieldLink "SpellPitchModel" 74 "SpellPitchModel" "nextMany" "[I" ∈ aW := aW_T 541 (by decide +kernel) (by decide +kernel)
theorem kw_542 : Cond.fieldLink "SpellPitchModel" 77 "SpellPitchModel" "from" "[I" ∈ aW := aW_T 542 (by decide +kernel) (by decide +kernel)
theorem kw_543 : Cond.fieldLink "SpellPitchModel" 80 "SpellPitchModel" "meantKey" "[I" ∈ aW := aW_T 543 (by decide +kernel) (by decide +kernel)
theorem kw_544 : Cond.fieldLink "SpellPitchModel" 83 "SpellPitchModel" "meant" "[I" ∈ aW := aW_T 544 (by decide +kernel) (by decide +kernel)
theorem kw_545 : Cond.fieldLink "SpellPitchModel" 166 "SpellPitchModel" "leastCost" "I" ∈ aW := aW_T 545 (by decide +kernel) (by decide +kernel)
theorem kw_546 : Cond.fieldLink "SpellPitchModel" 169 "SpellPitchModel" "leastSigns" "I" ∈ aW := aW_T 546 (by decide +kernel) (by decide +kernel)
theorem kw_547 : Cond.fieldLink "SpellPitchModel" 172 "SpellPitchModel" "leastMany" "I" ∈ aW := aW_T 547 (by decide +kernel) (by decide +kernel)
theorem kw_629 : Cond.methodLink "SpellPitchModel" 99 y_M_isSound ∈ aW := aW_T 629 (by decide +kernel) (by decide +kernel)
theorem kw_631 : Cond.instanceMethod y_M_isSound ∈ aW := aW_T 631 (by decide +kernel) (by decide +kernel)
theorem kw_632 : Cond.code y_M_isSound prog_6_method_3_code 2 (Option.some Jvm.ClassFile.FieldType.boolean) ∈ aW := aW_T 632 (by decide +kernel) (by decide +kernel)
theorem kw_637 : Cond.methodLink "SpellPitchModel" 103 y_M_soundsAs ∈ aW := aW_T 637 (by decide +kernel) (by decide +kernel)
theorem kw_638 : Cond.static y_M_soundsAs ∈ aW := aW_T 638 (by decide +kernel) (by decide +kernel)
theorem kw_639 : Cond.code y_M_soundsAs prog_6_method_6_code 2 (Option.some Jvm.ClassFile.FieldType.boolean) ∈ aW := aW_T 639 (by decide +kernel) (by decide +kernel)
theorem kw_644 : Cond.methodLink "SpellPitchModel" 107 y_M_isWeight ∈ aW := aW_T 644 (by decide +kernel) (by decide +kernel)
theorem kw_645 : Cond.static y_M_isWeight ∈ aW := aW_T 645 (by decide +kernel) (by decide +kernel)
theorem kw_646 : Cond.code y_M_isWeight prog_6_method_8_code 1 (Option.some Jvm.ClassFile.FieldType.boolean) ∈ aW := aW_T 646 (by decide +kernel) (by decide +kernel)
theorem kw_655 : Cond.methodLink "SpellPitchModel" 181 y_M_find ∈ aW := aW_T 655 (by decide +kernel) (by decide +kernel)
theorem kw_657 : Cond.instanceMethod y_M_find ∈ aW := aW_T 657 (by decide +kernel) (by decide +kernel)
theorem kw_658 : Cond.code y_M_find prog_6_method_27_code 4 (Option.none : Option Jvm.ClassFile.FieldType) ∈ aW := aW_T 658 (by decide +kernel) (by decide +kernel)
theorem kw_659 : Cond.methodLink "SpellPitchModel" 175 y_M_begin ∈ aW := aW_T 659 (by decide +kernel) (by decide +kernel)
theorem kw_661 : Cond.instanceMethod y_M_begin ∈ aW := aW_T 661 (by decide +kernel) (by decide +kernel)
theorem kw_662 : Cond.code y_M_begin prog_6_method_24_code 3 (Option.none : Option Jvm.ClassFile.FieldType) ∈ aW := aW_T 662 (by decide +kernel) (by decide +kernel)
theorem kw_663 : Cond.methodLink "SpellPitchModel" 145 y_M_findNames ∈ aW := aW_T 663 (by decide +kernel) (by decide +kernel)
theorem kw_665 : Cond.instanceMethod y_M_findNames ∈ aW := aW_T 665 (by decide +kernel) (by decide +kernel)
theorem kw_666 : Cond.code y_M_findNames prog_6_method_18_code 4 (Option.none : Option Jvm.ClassFile.FieldType) ∈ aW := aW_T 666 (by decide +kernel) (by decide +kernel)
theorem kw_667 : Cond.methodLink "SpellPitchModel" 124 y_M_nameIn ∈ aW := aW_T 667 (by decide +kernel) (by decide +kernel)
theorem kw_669 : Cond.instanceMethod y_M_nameIn ∈ aW := aW_T 669 (by decide +kernel) (by decide +kernel)
theorem kw_670 : Cond.code y_M_nameIn prog_6_method_17_code 7 (Option.some Jvm.ClassFile.FieldType.int) ∈ aW := aW_T 670 (by decide +kernel) (by decide +kernel)
theorem kw_671 : Cond.methodLink "SpellPitchModel" 149 y_M_judge ∈ aW := aW_T 671 (by decide +kernel) (by decide +kernel)
theorem kw_673 : Cond.instanceMethod y_M_judge ∈ aW := aW_T 673 (by decide +kernel) (by decide +kernel)
theorem kw_674 : Cond.code y_M_judge prog_6_method_19_code 11 (Option.some Jvm.ClassFile.FieldType.boolean) ∈ aW := aW_T 674 (by decide +kernel) (by decide +kernel)
theorem kw_675 : Cond.methodLink "SpellPitchModel" 114 y_M_signsOf ∈ aW := aW_T 675 (by decide +kernel) (by decide +kernel)
theorem kw_676 : Cond.static y_M_signsOf ∈ aW := aW_T 676 (by decide +kernel) (by decide +kernel)
theorem kw_677 : Cond.code y_M_signsOf prog_6_method_13_code 1 (Option.some Jvm.ClassFile.FieldType.int) ∈ aW := aW_T 677 (by decide +kernel) (by decide +kernel)
theorem kw_678 : Cond.methodLink "SpellPitchModel" 134 y_M_size ∈ aW := aW_T 678 (by decide +kernel) (by decide +kernel)
theorem kw_679 : Cond.static y_M_size ∈ aW := aW_T 679 (by decide +kernel) (by decide +kernel)
theorem kw_680 : Cond.code y_M_size prog_6_method_16_code 1 (Option.some Jvm.ClassFile.FieldType.int) ∈ aW := aW_T 680 (by decide +kernel) (by decide +kernel)
theorem kw_681 : Cond.methodLink "SpellPitchModel" 178 y_M_goOn ∈ aW := aW_T 681 (by decide +kernel) (by decide +kernel)
theorem kw_683 : Cond.instanceMethod y_M_goOn ∈ aW := aW_T 683 (by decide +kernel) (by decide +kernel)
theorem kw_684 : Cond.code y_M_goOn prog_6_method_26_code 4 (Option.none : Option Jvm.ClassFile.FieldType) ∈ aW := aW_T 684 (by decide +kernel) (by decide +kernel)
theorem kw_685 : Cond.methodLink "SpellPitchModel" 159 y_M_findSteps ∈ aW := aW_T 685 (by decide +kernel) (by decide +kernel)
theorem kw_687 : Cond.instanceMethod y_M_findSteps ∈ aW := aW_T 687 (by decide +kernel) (by decide +kernel)
theorem kw_688 : Cond.code y_M_findSteps prog_6_method_20_code 8 (Option.none : Option Jvm.ClassFile.FieldType) ∈ aW := aW_T 688 (by decide +kernel) (by decide +kernel)
theorem kw_689 : Cond.methodLink "SpellPitchModel" 137 y_M_isStep ∈ aW := aW_T 689 (by decide +kernel) (by decide +kernel)
theorem kw_690 : Cond.static y_M_isStep ∈ aW := aW_T 690 (by decide +kernel) (by decide +kernel)
theorem kw_691 : Cond.code y_M_isStep prog_6_method_21_code 5 (Option.some Jvm.ClassFile.FieldType.boolean) ∈ aW := aW_T 691 (by decide +kernel) (by decide +kernel)
theorem kw_692 : Cond.methodLink "SpellPitchModel" 141 y_M_placeOf ∈ aW := aW_T 692 (by decide +kernel) (by decide +kernel)
theorem kw_693 : Cond.static y_M_placeOf ∈ aW := aW_T 693 (by decide +kernel) (by decide +kernel)
theorem kw_694 : Cond.code y_M_placeOf prog_6_method_15_code 2 (Option.some Jvm.ClassFile.FieldType.int) ∈ aW := aW_T 694 (by decide +kernel) (by decide +kernel)
theorem kw_695 : Cond.methodLink "SpellPitchModel" 118 y_M_octaveOf ∈ aW := aW_T 695 (by decide +kernel) (by decide +kernel)
theorem kw_696 : Cond.static y_M_octaveOf ∈ aW := aW_T 696 (by decide +kernel) (by decide +kernel)
theorem kw_697 : Cond.code y_M_octaveOf prog_6_method_14_code 2 (Option.some Jvm.ClassFile.FieldType.int) ∈ aW := aW_T 697 (by decide +kernel) (by decide +kernel)
theorem kw_698 : Cond.methodLink "SpellPitchModel" 121 y_M_letterOf ∈ aW := aW_T 698 (by decide +kernel) (by decide +kernel)
theorem kw_699 : Cond.static y_M_letterOf ∈ aW := aW_T 699 (by decide +kernel) (by decide +kernel)
theorem kw_700 : Cond.code y_M_letterOf prog_6_method_12_code 1 (Option.some Jvm.ClassFile.FieldType.int) ∈ aW := aW_T 700 (by decide +kernel) (by decide +kernel)
theorem kw_701 : Cond.methodLink "SpellPitchModel" 110 y_M_modulo ∈ aW := aW_T 701 (by decide +kernel) (by decide +kernel)
theorem kw_702 : Cond.static y_M_modulo ∈ aW := aW_T 702 (by decide +kernel) (by decide +kernel)
theorem kw_703 : Cond.code y_M_modulo prog_6_method_11_code 3 (Option.some Jvm.ClassFile.FieldType.int) ∈ aW := aW_T 703 (by decide +kernel) (by decide +kernel)
theorem kw_704 : Cond.methodLink "SpellPitchModel" 162 y_M_reach ∈ aW := aW_T 704 (by decide +kernel) (by decide +kernel)
theorem kw_706 : Cond.instanceMethod y_M_reach ∈ aW := aW_T 706 (by decide +kernel) (by decide +kernel)
theorem kw_707 : Cond.code y_M_reach prog_6_method_25_code 8 (Option.none : Option Jvm.ClassFile.FieldType) ∈ aW := aW_T 707 (by decide +kernel) (by decide +kernel)
theorem kw_708 : Cond.methodLink "SpellPitchModel" 153 y_M_keysCost ∈ aW := aW_T 708 (by decide +kernel) (by decide +kernel)
theorem kw_710 : Cond.instanceMethod y_M_keysCost ∈ aW := aW_T 710 (by decide +kernel) (by decide +kernel)
theorem kw_711 : Cond.code y_M_keysCost prog_6_method_22_code 4 (Option.some Jvm.ClassFile.FieldType.int) ∈ aW := aW_T 711 (by decide +kernel) (by decide +kernel)
theorem kw_712 : Cond.methodLink "SpellPitchModel" 156 y_M_most ∈ aW := aW_T 712 (by decide +kernel) (by decide +kernel)
theorem kw_713 : Cond.static y_M_most ∈ aW := aW_T 713 (by decide +kernel) (by decide +kernel)
theorem kw_714 : Cond.code y_M_most prog_6_method_23_code 1 (Option.some Jvm.ClassFile.FieldType.int) ∈ aW := aW_T 714 (by decide +kernel) (by decide +kernel)
theorem kw_715 : Jvm.Cond.constant "SpellPitchModel" 144 1000000 ∈ aW := aW_T 715 (by decide +kernel) (by decide +kernel)
theorem kw_736 : Cond.methodLink "SpellPitchModel" 184 y_M_isTurn ∈ aW := aW_T 736 (by decide +kernel) (by decide +kernel)
theorem kw_738 : Cond.instanceMethod y_M_isTurn ∈ aW := aW_T 738 (by decide +kernel) (by decide +kernel)
theorem kw_739 : Cond.code y_M_isTurn prog_6_method_33_code 2 (Option.some Jvm.ClassFile.FieldType.boolean) ∈ aW := aW_T 739 (by decide +kernel) (by decide +kernel)
theorem kw_748 : Cond.methodLink "SpellPitchModel" 187 y_M_isInterval ∈ aW := aW_T 748 (by decide +kernel) (by decide +kernel)
theorem kw_749 : Cond.static y_M_isInterval ∈ aW := aW_T 749 (by decide +kernel) (by decide +kernel)
theorem kw_750 : Cond.code y_M_isInterval prog_6_method_36_code 1 (Option.some Jvm.ClassFile.FieldType.boolean) ∈ aW := aW_T 750 (by decide +kernel) (by decide +kernel)
theorem kw_751 : Cond.methodLink "SpellPitchModel" 190 y_M_stepsOf ∈ aW := aW_T 751 (by decide +kernel) (by decide +kernel)
theorem kw_752 : Cond.static y_M_stepsOf ∈ aW := aW_T 752 (by decide +kernel) (by decide +kernel)
theorem kw_753 : Cond.code y_M_stepsOf prog_6_method_37_code 1 (Option.some Jvm.ClassFile.FieldType.int) ∈ aW := aW_T 753 (by decide +kernel) (by decide +kernel)
theorem kw_758 : Cond.methodLink "SpellPitchModel" 193 y_M_halvesOf ∈ aW := aW_T 758 (by decide +kernel) (by decide +kernel)
theorem kw_759 : Cond.static y_M_halvesOf ∈ aW := aW_T 759 (by decide +kernel) (by decide +kernel)
theorem kw_760 : Cond.code y_M_halvesOf prog_6_method_38_code 3 (Option.some Jvm.ClassFile.FieldType.int) ∈ aW := aW_T 760 (by decide +kernel) (by decide +kernel)
theorem kw_781 : Cond.methodLink "SpellPitchModel" 196 y_M_isName ∈ aW := aW_T 781 (by decide +kernel) (by decide +kernel)
theorem kw_782 : Cond.static y_M_isName ∈ aW := aW_T 782 (by decide +kernel) (by decide +kernel)
theorem kw_783 : Cond.code y_M_isName prog_6_method_45_code 1 (Option.some Jvm.ClassFile.FieldType.boolean) ∈ aW := aW_T 783 (by decide +kernel) (by decide +kernel)
theorem ks_0 : Cond.selects "SpellPitch$Score" y_S_listOptions y_S_listOptions ∈ aW := aW_S 0 (q := (y_S_listOptions, 10)) (by decide +kernel)
theorem ks_1 : Cond.selects "SpellPitch" y_X_meant y_X_meant ∈ aW := aW_S 1 (q := (y_X_meant, 4)) (by decide +kernel)
theorem ks_2 : Cond.selects "SpellPitch$Search" y_R_layOutStates y_R_layOutStates ∈ aW := aW_S 2 (q := (y_R_layOutStates, 18)) (by decide +kernel)
theorem ks_3 : Cond.selects "SpellPitch$Search" y_R_picksAt y_R_picksAt ∈ aW := aW_S 3 (q := (y_R_picksAt, 18)) (by decide +kernel)
theorem ks_4 : Cond.selects "SpellPitch$Search" y_R_linkKeys y_R_linkKeys ∈ aW := aW_S 4 (q := (y_R_linkKeys, 18)) (by decide +kernel)
theorem ks_5 : Cond.selects "SpellPitch$Search" y_R_lookAtTheEnd y_R_lookAtTheEnd ∈ aW := aW_S 5 (q := (y_R_lookAtTheEnd, 18)) (by decide +kernel)
theorem ks_6 : Cond.selects "SpellPitch$Search" y_R_weigh y_R_weigh ∈ aW := aW_S 6 (q := (y_R_weigh, 18)) (by decide +kernel)
theorem ks_7 : Cond.selects "SpellPitch$Search" y_R_tryNames y_R_tryNames ∈ aW := aW_S 7 (q := (y_R_tryNames, 18)) (by decide +kernel)
theorem ks_8 : Cond.selects "SpellPitch$Search" y_R_valueOfTried y_R_valueOfTried ∈ aW := aW_S 8 (q := (y_R_valueOfTried, 18)) (by decide +kernel)
theorem ks_9 : Cond.selects "SpellPitch$Search" y_R_valueOutside y_R_valueOutside ∈ aW := aW_S 9 (q := (y_R_valueOutside, 18)) (by decide +kernel)
theorem ks_10 : Cond.selects "SpellPitch$Search" y_R_lookAheadFrom y_R_lookAheadFrom ∈ aW := aW_S 10 (q := (y_R_lookAheadFrom, 18)) (by decide +kernel)
theorem ks_11 : Cond.selects "SpellPitch$Search" y_R_foldLines y_R_foldLines ∈ aW := aW_S 11 (q := (y_R_foldLines, 18)) (by decide +kernel)
theorem ks_12 : Cond.selects "SpellPitch$Search" y_R_foldOne y_R_foldOne ∈ aW := aW_S 12 (q := (y_R_foldOne, 18)) (by decide +kernel)
theorem ks_13 : Cond.selects "SpellPitch$Search" y_R_linkSteps y_R_linkSteps ∈ aW := aW_S 13 (q := (y_R_linkSteps, 18)) (by decide +kernel)
theorem ks_14 : Cond.selects "SpellPitch$Search" y_R_isBadStep y_R_isBadStep ∈ aW := aW_S 14 (q := (y_R_isBadStep, 18)) (by decide +kernel)
theorem ks_15 : Cond.selects "SpellPitch$Search" y_R_countChoices y_R_countChoices ∈ aW := aW_S 15 (q := (y_R_countChoices, 18)) (by decide +kernel)
theorem ks_16 : Cond.selects "SpellPitch$Search" y_R_readOff y_R_readOff ∈ aW := aW_S 16 (q := (y_R_readOff, 18)) (by decide +kernel)
theorem ks_17 : Cond.selects "SpellPitch$Search" y_R_firstOfBest y_R_firstOfBest ∈ aW := aW_S 17 (q := (y_R_firstOfBest, 18)) (by decide +kernel)
theorem ks_18 : Cond.selects "SpellPitch$Search" y_R_valueBetween y_R_valueBetween ∈ aW := aW_S 18 (q := (y_R_valueBetween, 18)) (by decide +kernel)
theorem ks_19 : Cond.selects "SpellPitch$Search" y_R_keep y_R_keep ∈ aW := aW_S 19 (q := (y_R_keep, 18)) (by decide +kernel)
theorem ks_21 : Cond.selects "SpellPitchModel" y_M_isSound y_M_isSound ∈ aW := aW_S 21 (q := (y_M_isSound, 34)) (by decide +kernel)
theorem ks_22 : Cond.selects "SpellPitchModel" y_M_find y_M_find ∈ aW := aW_S 22 (q := (y_M_find, 34)) (by decide +kernel)
theorem ks_23 : Cond.selects "SpellPitchModel" y_M_begin y_M_begin ∈ aW := aW_S 23 (q := (y_M_begin, 34)) (by decide +kernel)
theorem ks_24 : Cond.selects "SpellPitchModel" y_M_findNames y_M_findNames ∈ aW := aW_S 24 (q := (y_M_findNames, 34)) (by decide +kernel)
theorem ks_25 : Cond.selects "SpellPitchModel" y_M_nameIn y_M_nameIn ∈ aW := aW_S 25 (q := (y_M_nameIn, 34)) (by decide +kernel)
theorem ks_26 : Cond.selects "SpellPitchModel" y_M_judge y_M_judge ∈ aW := aW_S 26 (q := (y_M_judge, 34)) (by decide +kernel)
theorem ks_27 : Cond.selects "SpellPitchModel" y_M_goOn y_M_goOn ∈ aW := aW_S 27 (q := (y_M_goOn, 34)) (by decide +kernel)
theorem ks_28 : Cond.selects "SpellPitchModel" y_M_findSteps y_M_findSteps ∈ aW := aW_S 28 (q := (y_M_findSteps, 34)) (by decide +kernel)
theorem ks_29 : Cond.selects "SpellPitchModel" y_M_reach y_M_reach ∈ aW := aW_S 29 (q := (y_M_reach, 34)) (by decide +kernel)
theorem ks_30 : Cond.selects "SpellPitchModel" y_M_keysCost y_M_keysCost ∈ aW := aW_S 30 (q := (y_M_keysCost, 34)) (by decide +kernel)
theorem ks_31 : Cond.selects "SpellPitchModel" y_M_isTurn y_M_isTurn ∈ aW := aW_S 31 (q := (y_M_isTurn, 34)) (by decide +kernel)
theorem kwN_arraycopy : Cond.native arraycopyName ∈ aW := aW_T 327 (by decide +kernel) (by decide +kernel)
