/-! THE CLAIM OUT OF ONE WALK OF THE LAW'S BODY. Your part is whole_start (and what it stands on); all else here is the same for every law, but numbers. -/
def R_law : String := "ClassAnswersLaw"
def lw_P (b : Addr) (xs : List Int32) (args : Array Value) (s : State) : Prop := args = #[.ref b] ∧ s.IntsAt b xs ∧ xs.length ≤ 2560 ∧ (Jvm.Cond.and given_1 narrow_1).before args s = true
def lw_Q (_ : Array Value) (s : State) (o : Outcome) (t : State) : Prop := o = .returned (some (.int 1)) ∧ Framed s o t [] 600000 7302250
def lw_Z (below : List Frame) (a : Array Value) (s : State) : State → Prop := fun t => ∃ o, t.status = .running ∧ Ended t below o ∧ lw_Q a s o t
/-- the law's own end, with 1 on the stack, nothing written that was there before, its room as the claim has it -/
theorem lw_ret {p : Program} {l : Launch} {e : Env} {s : State} {m : MethodId} {below : List Frame} {meth : Method} {c : Code} {b : Nat} (hx : p.tables.exec = Jvm.exec) (hb : c.code = code) (hr : meth.sig.returnType = ret) (hlocks : meth.locks = false) {pc : Nat} {H : Heap} {ls : Array Slot} (hdg : decode code pc = .ok (.ireturn, 1)) : W p l e room_1 s m #[Value.ref b] below meth c H [] 600000 7302250 (lw_Z below #[Value.ref b] s) (F0 m pc ls [.int 1]) := by
  intro T hT X
  obtain ⟨fs, hret, hrun, hended, hW, hframe⟩ := X.leave (v := some (.int 1)) (hlocks := hlocks) (fun h => by rw [hr] at h; cases h)
  have hmeth' : T.vm.method? m = some meth := X.method'
  refine ⟨T.setFrames fs, ?_, .returned (some (.int 1)), hrun, hended, rfl, ⟨_, rfl⟩, hW, hframe⟩
  jvm_step X.here [X.here.top, hx, hb, hdg, hmeth', hr, ret, narrow_b1]
  (try refine ⟨rfl, ?_⟩); (try refine ⟨rfl, ?_⟩)
  first | (intro acts; rw [hret _ acts rfl rfl rfl]) | rw [hret _ _ rfl rfl rfl]
  exact Steps.refl _
/-- what holds at the law's entry: the machine, the code, the tables' words (any of lw_tbl by 'hts w (by decide +kernel)'), the script of L ints xs at the cell b, what the Statement gives of the start (any of its parts by flat_of_before) -/
def lw_At (p : Program) (s : State) (m : MethodId) (meth : Method) (c : Code) (b L : Nat) (xs : Nat → Int32) : Prop :=
  p.tables.exec = Jvm.exec ∧ c.code = code ∧ meth.sig.returnType = ret ∧ c.maxLocals = 4 ∧ s.vm.findClass R_law = some m.cls ∧ (∀ w ∈ lw_tbl, w.before #[Value.ref b] s = true) ∧ va_X b L xs s s.heap ∧ b < s.heap.size ∧ meth.locks = false ∧ (Jvm.Cond.and given_1 narrow_1).before #[Value.ref b] s = true
theorem ca_w51 : ca_Yw (Cond.classLink "ClassAnswersLaw" (7 : Nat) "ClassAnswers") := ⟨List.mem_of_getElem? (i := 51) (by decide +kernel), by decide +kernel⟩
theorem ca_w52 : ca_Yw (Cond.instantiable "ClassAnswers" (12 : Nat)) := ⟨List.mem_of_getElem? (i := 52) (by decide +kernel), by decide +kernel⟩
theorem ca_w53 : ca_Yw (Cond.methodLink "ClassAnswersLaw" (9 : Nat) ({ cls := "ClassAnswers", name := "<init>", desc := "()V" } : MethodName)) := ⟨List.mem_of_getElem? (i := 53) (by decide +kernel), by decide +kernel⟩
theorem ca_w54 : ca_Yw (Cond.instanceMethod ({ cls := "ClassAnswers", name := "<init>", desc := "()V" } : MethodName)) := ⟨List.mem_of_getElem? (i := 54) (by decide +kernel), by decide +kernel⟩
theorem ca_w55 : ca_Yw (Cond.code ({ cls := "ClassAnswers", name := "<init>", desc := "()V" } : MethodName) prog_1_method_1_code (2 : Nat) (Option.none : Option ClassFile.FieldType)) := ⟨List.mem_of_getElem? (i := 55) (by decide +kernel), by decide +kernel⟩
theorem ca_w300 : ca_Yw (Cond.methodLink "ClassAnswersLaw" (13 : Nat) ({ cls := "ClassAnswers", name := "box", desc := "()I" } : MethodName)) := ⟨List.mem_of_getElem? (i := 300) (by decide +kernel), by decide +kernel⟩
theorem ca_w301 : ca_Yw (Cond.instanceMethod ({ cls := "ClassAnswers", name := "box", desc := "()I" } : MethodName)) := ⟨List.mem_of_getElem? (i := 301) (by decide +kernel), by decide +kernel⟩
theorem ca_w302 : ca_Yw (Cond.selects "ClassAnswers" ({ cls := "ClassAnswers", name := "box", desc := "()I" } : MethodName) ({ cls := "ClassAnswers", name := "box", desc := "()I" } : MethodName)) := ⟨List.mem_of_getElem? (i := 302) (by decide +kernel), by decide +kernel⟩
theorem ca_w303 : ca_Yw (Cond.code ({ cls := "ClassAnswers", name := "box", desc := "()I" } : MethodName) prog_1_method_2_code (1 : Nat) (Option.some ClassFile.FieldType.int)) := ⟨List.mem_of_getElem? (i := 303) (by decide +kernel), by decide +kernel⟩
theorem ca_w304 : ca_Yw (Cond.methodLink "ClassAnswersLaw" (18 : Nat) ({ cls := "ClassAnswers", name := "road", desc := "(IIII)I" } : MethodName)) := ⟨List.mem_of_getElem? (i := 304) (by decide +kernel), by decide +kernel⟩
theorem ca_w305 : ca_Yw (Cond.instanceMethod ({ cls := "ClassAnswers", name := "road", desc := "(IIII)I" } : MethodName)) := ⟨List.mem_of_getElem? (i := 305) (by decide +kernel), by decide +kernel⟩
theorem ca_w306 : ca_Yw (Cond.selects "ClassAnswers" ({ cls := "ClassAnswers", name := "road", desc := "(IIII)I" } : MethodName) ({ cls := "ClassAnswers", name := "road", desc := "(IIII)I" } : MethodName)) := ⟨List.mem_of_getElem? (i := 306) (by decide +kernel), by decide +kernel⟩
theorem ca_w307 : ca_Yw (Cond.code ({ cls := "ClassAnswers", name := "road", desc := "(IIII)I" } : MethodName) prog_1_method_3_code (5 : Nat) (Option.some ClassFile.FieldType.int)) := ⟨List.mem_of_getElem? (i := 307) (by decide +kernel), by decide +kernel⟩
theorem ca_w323 : ca_Yw (Cond.methodLink "ClassAnswersLaw" (23 : Nat) ({ cls := "ClassAnswers", name := "rule", desc := "(II)I" } : MethodName)) := ⟨List.mem_of_getElem? (i := 323) (by decide +kernel), by decide +kernel⟩
theorem ca_w324 : ca_Yw (Cond.instanceMethod ({ cls := "ClassAnswers", name := "rule", desc := "(II)I" } : MethodName)) := ⟨List.mem_of_getElem? (i := 324) (by decide +kernel), by decide +kernel⟩
theorem ca_w325 : ca_Yw (Cond.selects "ClassAnswers" ({ cls := "ClassAnswers", name := "rule", desc := "(II)I" } : MethodName) ({ cls := "ClassAnswers", name := "rule", desc := "(II)I" } : MethodName)) := ⟨List.mem_of_getElem? (i := 325) (by decide +kernel), by decide +kernel⟩
theorem ca_w326 : ca_Yw (Cond.code ({ cls := "ClassAnswers", name := "rule", desc := "(II)I" } : MethodName) prog_1_method_4_code (4 : Nat) (Option.some ClassFile.FieldType.int)) := ⟨List.mem_of_getElem? (i := 326) (by decide +kernel), by decide +kernel⟩
theorem ca_w327 : ca_Yw (Cond.methodLink "ClassAnswersLaw" (28 : Nat) ({ cls := "ClassAnswers", name := "ask", desc := "(III)I" } : MethodName)) := ⟨List.mem_of_getElem? (i := 327) (by decide +kernel), by decide +kernel⟩
theorem ca_w328 : ca_Yw (Cond.instanceMethod ({ cls := "ClassAnswers", name := "ask", desc := "(III)I" } : MethodName)) := ⟨List.mem_of_getElem? (i := 328) (by decide +kernel), by decide +kernel⟩
theorem ca_w329 : ca_Yw (Cond.selects "ClassAnswers" ({ cls := "ClassAnswers", name := "ask", desc := "(III)I" } : MethodName) ({ cls := "ClassAnswers", name := "ask", desc := "(III)I" } : MethodName)) := ⟨List.mem_of_getElem? (i := 329) (by decide +kernel), by decide +kernel⟩
theorem ca_w330 : ca_Yw (Cond.code ({ cls := "ClassAnswers", name := "ask", desc := "(III)I" } : MethodName) prog_1_method_5_code (5 : Nat) (Option.some ClassFile.FieldType.int)) := ⟨List.mem_of_getElem? (i := 330) (by decide +kernel), by decide +kernel⟩
theorem ca_w348 : ca_Yw (Cond.methodLink "ClassAnswersLaw" (33 : Nat) ({ cls := "ClassAnswers", name := "send", desc := "(II)I" } : MethodName)) := ⟨List.mem_of_getElem? (i := 348) (by decide +kernel), by decide +kernel⟩
theorem ca_w349 : ca_Yw (Cond.instanceMethod ({ cls := "ClassAnswers", name := "send", desc := "(II)I" } : MethodName)) := ⟨List.mem_of_getElem? (i := 349) (by decide +kernel), by decide +kernel⟩
theorem ca_w350 : ca_Yw (Cond.selects "ClassAnswers" ({ cls := "ClassAnswers", name := "send", desc := "(II)I" } : MethodName) ({ cls := "ClassAnswers", name := "send", desc := "(II)I" } : MethodName)) := ⟨List.mem_of_getElem? (i := 350) (by decide +kernel), by decide +kernel⟩
theorem ca_w351 : ca_Yw (Cond.code ({ cls := "ClassAnswers", name := "send", desc := "(II)I" } : MethodName) prog_1_method_6_code (3 : Nat) (Option.some ClassFile.FieldType.int)) := ⟨List.mem_of_getElem? (i := 351) (by decide +kernel), by decide +kernel⟩
theorem ca_w365 : ca_Yw (Cond.methodLink "ClassAnswersLaw" (37 : Nat) ({ cls := "ClassAnswers", name := "ticks", desc := "(I)I" } : MethodName)) := ⟨List.mem_of_getElem? (i := 365) (by decide +kernel), by decide +kernel⟩
theorem ca_w366 : ca_Yw (Cond.instanceMethod ({ cls := "ClassAnswers", name := "ticks", desc := "(I)I" } : MethodName)) := ⟨List.mem_of_getElem? (i := 366) (by decide +kernel), by decide +kernel⟩
theorem ca_w367 : ca_Yw (Cond.selects "ClassAnswers" ({ cls := "ClassAnswers", name := "ticks", desc := "(I)I" } : MethodName) ({ cls := "ClassAnswers", name := "ticks", desc := "(I)I" } : MethodName)) := ⟨List.mem_of_getElem? (i := 367) (by decide +kernel), by decide +kernel⟩
theorem ca_w368 : ca_Yw (Cond.code ({ cls := "ClassAnswers", name := "ticks", desc := "(I)I" } : MethodName) prog_1_method_7_code (4 : Nat) (Option.some ClassFile.FieldType.int)) := ⟨List.mem_of_getElem? (i := 368) (by decide +kernel), by decide +kernel⟩
theorem ca_w421 : ca_Yw (Cond.methodLink "ClassAnswersLaw" (42 : Nat) ({ cls := "ClassAnswers", name := "base", desc := "(III)I" } : MethodName)) := ⟨List.mem_of_getElem? (i := 421) (by decide +kernel), by decide +kernel⟩
theorem ca_w422 : ca_Yw (Cond.instanceMethod ({ cls := "ClassAnswers", name := "base", desc := "(III)I" } : MethodName)) := ⟨List.mem_of_getElem? (i := 422) (by decide +kernel), by decide +kernel⟩
theorem ca_w423 : ca_Yw (Cond.selects "ClassAnswers" ({ cls := "ClassAnswers", name := "base", desc := "(III)I" } : MethodName) ({ cls := "ClassAnswers", name := "base", desc := "(III)I" } : MethodName)) := ⟨List.mem_of_getElem? (i := 423) (by decide +kernel), by decide +kernel⟩
theorem ca_w424 : ca_Yw (Cond.code ({ cls := "ClassAnswers", name := "base", desc := "(III)I" } : MethodName) prog_1_method_12_code (5 : Nat) (Option.some ClassFile.FieldType.int)) := ⟨List.mem_of_getElem? (i := 424) (by decide +kernel), by decide +kernel⟩
theorem ca_w426 : ca_Yw (Cond.methodLink "ClassAnswersLaw" (46 : Nat) ({ cls := "ClassAnswers", name := "about", desc := "(II)I" } : MethodName)) := ⟨List.mem_of_getElem? (i := 426) (by decide +kernel), by decide +kernel⟩
theorem ca_w427 : ca_Yw (Cond.instanceMethod ({ cls := "ClassAnswers", name := "about", desc := "(II)I" } : MethodName)) := ⟨List.mem_of_getElem? (i := 427) (by decide +kernel), by decide +kernel⟩
theorem ca_w428 : ca_Yw (Cond.selects "ClassAnswers" ({ cls := "ClassAnswers", name := "about", desc := "(II)I" } : MethodName) ({ cls := "ClassAnswers", name := "about", desc := "(II)I" } : MethodName)) := ⟨List.mem_of_getElem? (i := 428) (by decide +kernel), by decide +kernel⟩
theorem ca_w429 : ca_Yw (Cond.code ({ cls := "ClassAnswers", name := "about", desc := "(II)I" } : MethodName) prog_1_method_13_code (4 : Nat) (Option.some ClassFile.FieldType.int)) := ⟨List.mem_of_getElem? (i := 429) (by decide +kernel), by decide +kernel⟩
theorem ca_w434 : ca_Yw (Cond.methodLink "ClassAnswersLaw" (50 : Nat) ({ cls := "ClassAnswers", name := "answers", desc := "()I" } : MethodName)) := ⟨List.mem_of_getElem? (i := 434) (by decide +kernel), by decide +kernel⟩
theorem ca_w435 : ca_Yw (Cond.instanceMethod ({ cls := "ClassAnswers", name := "answers", desc := "()I" } : MethodName)) := ⟨List.mem_of_getElem? (i := 435) (by decide +kernel), by decide +kernel⟩
theorem ca_w436 : ca_Yw (Cond.selects "ClassAnswers" ({ cls := "ClassAnswers", name := "answers", desc := "()I" } : MethodName) ({ cls := "ClassAnswers", name := "answers", desc := "()I" } : MethodName)) := ⟨List.mem_of_getElem? (i := 436) (by decide +kernel), by decide +kernel⟩
theorem ca_w437 : ca_Yw (Cond.code ({ cls := "ClassAnswers", name := "answers", desc := "()I" } : MethodName) prog_1_method_14_code (1 : Nat) (Option.some ClassFile.FieldType.int)) := ⟨List.mem_of_getElem? (i := 437) (by decide +kernel), by decide +kernel⟩
theorem ca_w446 : ca_Yw (Cond.methodLink "ClassAnswersLaw" (54 : Nat) ({ cls := "ClassAnswers", name := "share", desc := "(I)I" } : MethodName)) := ⟨List.mem_of_getElem? (i := 446) (by decide +kernel), by decide +kernel⟩
theorem ca_w447 : ca_Yw (Cond.instanceMethod ({ cls := "ClassAnswers", name := "share", desc := "(I)I" } : MethodName)) := ⟨List.mem_of_getElem? (i := 447) (by decide +kernel), by decide +kernel⟩
theorem ca_w448 : ca_Yw (Cond.selects "ClassAnswers" ({ cls := "ClassAnswers", name := "share", desc := "(I)I" } : MethodName) ({ cls := "ClassAnswers", name := "share", desc := "(I)I" } : MethodName)) := ⟨List.mem_of_getElem? (i := 448) (by decide +kernel), by decide +kernel⟩
theorem ca_w449 : ca_Yw (Cond.code ({ cls := "ClassAnswers", name := "share", desc := "(I)I" } : MethodName) prog_1_method_15_code (4 : Nat) (Option.some ClassFile.FieldType.int)) := ⟨List.mem_of_getElem? (i := 449) (by decide +kernel), by decide +kernel⟩
theorem ca_w454 : ca_Yw (Cond.methodLink "ClassAnswersLaw" (58 : Nat) ({ cls := "ClassAnswers", name := "number", desc := "(I)I" } : MethodName)) := ⟨List.mem_of_getElem? (i := 454) (by decide +kernel), by decide +kernel⟩
theorem ca_w455 : ca_Yw (Cond.instanceMethod ({ cls := "ClassAnswers", name := "number", desc := "(I)I" } : MethodName)) := ⟨List.mem_of_getElem? (i := 455) (by decide +kernel), by decide +kernel⟩
theorem ca_w456 : ca_Yw (Cond.selects "ClassAnswers" ({ cls := "ClassAnswers", name := "number", desc := "(I)I" } : MethodName) ({ cls := "ClassAnswers", name := "number", desc := "(I)I" } : MethodName)) := ⟨List.mem_of_getElem? (i := 456) (by decide +kernel), by decide +kernel⟩
theorem ca_w457 : ca_Yw (Cond.code ({ cls := "ClassAnswers", name := "number", desc := "(I)I" } : MethodName) prog_1_method_16_code (2 : Nat) (Option.some ClassFile.FieldType.int)) := ⟨List.mem_of_getElem? (i := 457) (by decide +kernel), by decide +kernel⟩
theorem ca_w484 : ca_Yw (Cond.methodLink "ClassAnswersLaw" (62 : Nat) ({ cls := "ClassAnswers", name := "order", desc := "(I)I" } : MethodName)) := ⟨List.mem_of_getElem? (i := 484) (by decide +kernel), by decide +kernel⟩
theorem ca_w485 : ca_Yw (Cond.instanceMethod ({ cls := "ClassAnswers", name := "order", desc := "(I)I" } : MethodName)) := ⟨List.mem_of_getElem? (i := 485) (by decide +kernel), by decide +kernel⟩
theorem ca_w486 : ca_Yw (Cond.selects "ClassAnswers" ({ cls := "ClassAnswers", name := "order", desc := "(I)I" } : MethodName) ({ cls := "ClassAnswers", name := "order", desc := "(I)I" } : MethodName)) := ⟨List.mem_of_getElem? (i := 486) (by decide +kernel), by decide +kernel⟩
theorem ca_w487 : ca_Yw (Cond.code ({ cls := "ClassAnswers", name := "order", desc := "(I)I" } : MethodName) prog_1_method_17_code (2 : Nat) (Option.some ClassFile.FieldType.int)) := ⟨List.mem_of_getElem? (i := 487) (by decide +kernel), by decide +kernel⟩
theorem ca_w519 : ca_Yw (Cond.methodLink "ClassAnswersLaw" (66 : Nat) ({ cls := "ClassAnswers", name := "close", desc := "(I)I" } : MethodName)) := ⟨List.mem_of_getElem? (i := 519) (by decide +kernel), by decide +kernel⟩
theorem ca_w520 : ca_Yw (Cond.instanceMethod ({ cls := "ClassAnswers", name := "close", desc := "(I)I" } : MethodName)) := ⟨List.mem_of_getElem? (i := 520) (by decide +kernel), by decide +kernel⟩
theorem ca_w521 : ca_Yw (Cond.selects "ClassAnswers" ({ cls := "ClassAnswers", name := "close", desc := "(I)I" } : MethodName) ({ cls := "ClassAnswers", name := "close", desc := "(I)I" } : MethodName)) := ⟨List.mem_of_getElem? (i := 521) (by decide +kernel), by decide +kernel⟩
theorem ca_w522 : ca_Yw (Cond.code ({ cls := "ClassAnswers", name := "close", desc := "(I)I" } : MethodName) prog_1_method_21_code (2 : Nat) (Option.some ClassFile.FieldType.int)) := ⟨List.mem_of_getElem? (i := 522) (by decide +kernel), by decide +kernel⟩
theorem ca_w536 : ca_Yw (Cond.methodLink "ClassAnswersLaw" (70 : Nat) ({ cls := "ClassAnswers", name := "book", desc := "(II)I" } : MethodName)) := ⟨List.mem_of_getElem? (i := 536) (by decide +kernel), by decide +kernel⟩
theorem ca_w537 : ca_Yw (Cond.instanceMethod ({ cls := "ClassAnswers", name := "book", desc := "(II)I" } : MethodName)) := ⟨List.mem_of_getElem? (i := 537) (by decide +kernel), by decide +kernel⟩
theorem ca_w538 : ca_Yw (Cond.selects "ClassAnswers" ({ cls := "ClassAnswers", name := "book", desc := "(II)I" } : MethodName) ({ cls := "ClassAnswers", name := "book", desc := "(II)I" } : MethodName)) := ⟨List.mem_of_getElem? (i := 538) (by decide +kernel), by decide +kernel⟩
theorem ca_w539 : ca_Yw (Cond.code ({ cls := "ClassAnswers", name := "book", desc := "(II)I" } : MethodName) prog_1_method_22_code (3 : Nat) (Option.some ClassFile.FieldType.int)) := ⟨List.mem_of_getElem? (i := 539) (by decide +kernel), by decide +kernel⟩
theorem ca_w540 : ca_Yw (Cond.methodLink "ClassAnswersLaw" (74 : Nat) ({ cls := "ClassAnswers", name := "marks", desc := "(I)I" } : MethodName)) := ⟨List.mem_of_getElem? (i := 540) (by decide +kernel), by decide +kernel⟩
theorem ca_w541 : ca_Yw (Cond.instanceMethod ({ cls := "ClassAnswers", name := "marks", desc := "(I)I" } : MethodName)) := ⟨List.mem_of_getElem? (i := 541) (by decide +kernel), by decide +kernel⟩
theorem ca_w542 : ca_Yw (Cond.selects "ClassAnswers" ({ cls := "ClassAnswers", name := "marks", desc := "(I)I" } : MethodName) ({ cls := "ClassAnswers", name := "marks", desc := "(I)I" } : MethodName)) := ⟨List.mem_of_getElem? (i := 542) (by decide +kernel), by decide +kernel⟩
theorem ca_w543 : ca_Yw (Cond.code ({ cls := "ClassAnswers", name := "marks", desc := "(I)I" } : MethodName) prog_1_method_23_code (2 : Nat) (Option.some ClassFile.FieldType.int)) := ⟨List.mem_of_getElem? (i := 543) (by decide +kernel), by decide +kernel⟩
theorem ca_w544 : ca_Yw (Cond.methodLink "ClassAnswersLaw" (78 : Nat) ({ cls := "ClassAnswers", name := "teams", desc := "(II)I" } : MethodName)) := ⟨List.mem_of_getElem? (i := 544) (by decide +kernel), by decide +kernel⟩
theorem ca_w545 : ca_Yw (Cond.instanceMethod ({ cls := "ClassAnswers", name := "teams", desc := "(II)I" } : MethodName)) := ⟨List.mem_of_getElem? (i := 545) (by decide +kernel), by decide +kernel⟩
theorem ca_w546 : ca_Yw (Cond.selects "ClassAnswers" ({ cls := "ClassAnswers", name := "teams", desc := "(II)I" } : MethodName) ({ cls := "ClassAnswers", name := "teams", desc := "(II)I" } : MethodName)) := ⟨List.mem_of_getElem? (i := 546) (by decide +kernel), by decide +kernel⟩
theorem ca_w547 : ca_Yw (Cond.code ({ cls := "ClassAnswers", name := "teams", desc := "(II)I" } : MethodName) prog_1_method_24_code (4 : Nat) (Option.some ClassFile.FieldType.int)) := ⟨List.mem_of_getElem? (i := 547) (by decide +kernel), by decide +kernel⟩
theorem ca_w565 : ca_Yw (Cond.methodLink "ClassAnswersLaw" (82 : Nat) ({ cls := "ClassAnswers", name := "best", desc := "()I" } : MethodName)) := ⟨List.mem_of_getElem? (i := 565) (by decide +kernel), by decide +kernel⟩
theorem ca_w566 : ca_Yw (Cond.instanceMethod ({ cls := "ClassAnswers", name := "best", desc := "()I" } : MethodName)) := ⟨List.mem_of_getElem? (i := 566) (by decide +kernel), by decide +kernel⟩
theorem ca_w567 : ca_Yw (Cond.selects "ClassAnswers" ({ cls := "ClassAnswers", name := "best", desc := "()I" } : MethodName) ({ cls := "ClassAnswers", name := "best", desc := "()I" } : MethodName)) := ⟨List.mem_of_getElem? (i := 567) (by decide +kernel), by decide +kernel⟩
theorem ca_w568 : ca_Yw (Cond.code ({ cls := "ClassAnswers", name := "best", desc := "()I" } : MethodName) prog_1_method_28_code (1 : Nat) (Option.some ClassFile.FieldType.int)) := ⟨List.mem_of_getElem? (i := 568) (by decide +kernel), by decide +kernel⟩
theorem ca_w580 : ca_Yw (Cond.methodLink "ClassAnswersLaw" (86 : Nat) ({ cls := "ClassAnswers", name := "seed", desc := "(I)I" } : MethodName)) := ⟨List.mem_of_getElem? (i := 580) (by decide +kernel), by decide +kernel⟩
theorem ca_w581 : ca_Yw (Cond.instanceMethod ({ cls := "ClassAnswers", name := "seed", desc := "(I)I" } : MethodName)) := ⟨List.mem_of_getElem? (i := 581) (by decide +kernel), by decide +kernel⟩
theorem ca_w582 : ca_Yw (Cond.selects "ClassAnswers" ({ cls := "ClassAnswers", name := "seed", desc := "(I)I" } : MethodName) ({ cls := "ClassAnswers", name := "seed", desc := "(I)I" } : MethodName)) := ⟨List.mem_of_getElem? (i := 582) (by decide +kernel), by decide +kernel⟩
theorem ca_w583 : ca_Yw (Cond.code ({ cls := "ClassAnswers", name := "seed", desc := "(I)I" } : MethodName) prog_1_method_29_code (2 : Nat) (Option.some ClassFile.FieldType.int)) := ⟨List.mem_of_getElem? (i := 583) (by decide +kernel), by decide +kernel⟩
theorem ca_w589 : ca_Yw (Cond.methodLink "ClassAnswersLaw" (90 : Nat) ({ cls := "ClassAnswers", name := "draw", desc := "()I" } : MethodName)) := ⟨List.mem_of_getElem? (i := 589) (by decide +kernel), by decide +kernel⟩
theorem ca_w590 : ca_Yw (Cond.instanceMethod ({ cls := "ClassAnswers", name := "draw", desc := "()I" } : MethodName)) := ⟨List.mem_of_getElem? (i := 590) (by decide +kernel), by decide +kernel⟩
theorem ca_w591 : ca_Yw (Cond.selects "ClassAnswers" ({ cls := "ClassAnswers", name := "draw", desc := "()I" } : MethodName) ({ cls := "ClassAnswers", name := "draw", desc := "()I" } : MethodName)) := ⟨List.mem_of_getElem? (i := 591) (by decide +kernel), by decide +kernel⟩
theorem ca_w592 : ca_Yw (Cond.code ({ cls := "ClassAnswers", name := "draw", desc := "()I" } : MethodName) prog_1_method_30_code (1 : Nat) (Option.some ClassFile.FieldType.int)) := ⟨List.mem_of_getElem? (i := 592) (by decide +kernel), by decide +kernel⟩
theorem ca_w603 : ca_Yw (Cond.methodLink "ClassAnswersLaw" (94 : Nat) ({ cls := "ClassAnswers", name := "count", desc := "(I)I" } : MethodName)) := ⟨List.mem_of_getElem? (i := 603) (by decide +kernel), by decide +kernel⟩
theorem ca_w604 : ca_Yw (Cond.instanceMethod ({ cls := "ClassAnswers", name := "count", desc := "(I)I" } : MethodName)) := ⟨List.mem_of_getElem? (i := 604) (by decide +kernel), by decide +kernel⟩
theorem ca_w605 : ca_Yw (Cond.selects "ClassAnswers" ({ cls := "ClassAnswers", name := "count", desc := "(I)I" } : MethodName) ({ cls := "ClassAnswers", name := "count", desc := "(I)I" } : MethodName)) := ⟨List.mem_of_getElem? (i := 605) (by decide +kernel), by decide +kernel⟩
theorem ca_w606 : ca_Yw (Cond.code ({ cls := "ClassAnswers", name := "count", desc := "(I)I" } : MethodName) prog_1_method_31_code (2 : Nat) (Option.some ClassFile.FieldType.int)) := ⟨List.mem_of_getElem? (i := 606) (by decide +kernel), by decide +kernel⟩
theorem ca_w607 : ca_Yw (Cond.classLink "ClassAnswersLaw" (10 : Nat) "ClassAnswersModel") := ⟨List.mem_of_getElem? (i := 607) (by decide +kernel), by decide +kernel⟩
theorem ca_w608 : ca_Yw (Cond.instantiable "ClassAnswersModel" (32 : Nat)) := ⟨List.mem_of_getElem? (i := 608) (by decide +kernel), by decide +kernel⟩
theorem ca_w609 : ca_Yw (Cond.methodLink "ClassAnswersLaw" (12 : Nat) ({ cls := "ClassAnswersModel", name := "<init>", desc := "()V" } : MethodName)) := ⟨List.mem_of_getElem? (i := 609) (by decide +kernel), by decide +kernel⟩
theorem ca_w610 : ca_Yw (Cond.instanceMethod ({ cls := "ClassAnswersModel", name := "<init>", desc := "()V" } : MethodName)) := ⟨List.mem_of_getElem? (i := 610) (by decide +kernel), by decide +kernel⟩
theorem ca_w611 : ca_Yw (Cond.code ({ cls := "ClassAnswersModel", name := "<init>", desc := "()V" } : MethodName) prog_12_method_1_code (1 : Nat) (Option.none : Option ClassFile.FieldType)) := ⟨List.mem_of_getElem? (i := 611) (by decide +kernel), by decide +kernel⟩
theorem ca_w711 : ca_Yw (Cond.methodLink "ClassAnswersLaw" (17 : Nat) ({ cls := "ClassAnswersModel", name := "box", desc := "()I" } : MethodName)) := ⟨List.mem_of_getElem? (i := 711) (by decide +kernel), by decide +kernel⟩
theorem ca_w712 : ca_Yw (Cond.instanceMethod ({ cls := "ClassAnswersModel", name := "box", desc := "()I" } : MethodName)) := ⟨List.mem_of_getElem? (i := 712) (by decide +kernel), by decide +kernel⟩
theorem ca_w713 : ca_Yw (Cond.selects "ClassAnswersModel" ({ cls := "ClassAnswersModel", name := "box", desc := "()I" } : MethodName) ({ cls := "ClassAnswersModel", name := "box", desc := "()I" } : MethodName)) := ⟨List.mem_of_getElem? (i := 713) (by decide +kernel), by decide +kernel⟩
theorem ca_w714 : ca_Yw (Cond.code ({ cls := "ClassAnswersModel", name := "box", desc := "()I" } : MethodName) prog_12_method_5_code (1 : Nat) (Option.some ClassFile.FieldType.int)) := ⟨List.mem_of_getElem? (i := 714) (by decide +kernel), by decide +kernel⟩
theorem ca_w715 : ca_Yw (Cond.methodLink "ClassAnswersLaw" (22 : Nat) ({ cls := "ClassAnswersModel", name := "road", desc := "(IIII)I" } : MethodName)) := ⟨List.mem_of_getElem? (i := 715) (by decide +kernel), by decide +kernel⟩
theorem ca_w716 : ca_Yw (Cond.instanceMethod ({ cls := "ClassAnswersModel", name := "road", desc := "(IIII)I" } : MethodName)) := ⟨List.mem_of_getElem? (i := 716) (by decide +kernel), by decide +kernel⟩
theorem ca_w717 : ca_Yw (Cond.selects "ClassAnswersModel" ({ cls := "ClassAnswersModel", name := "road", desc := "(IIII)I" } : MethodName) ({ cls := "ClassAnswersModel", name := "road", desc := "(IIII)I" } : MethodName)) := ⟨List.mem_of_getElem? (i := 717) (by decide +kernel), by decide +kernel⟩
theorem ca_w718 : ca_Yw (Cond.code ({ cls := "ClassAnswersModel", name := "road", desc := "(IIII)I" } : MethodName) prog_12_method_6_code (5 : Nat) (Option.some ClassFile.FieldType.int)) := ⟨List.mem_of_getElem? (i := 718) (by decide +kernel), by decide +kernel⟩
theorem ca_w730 : ca_Yw (Cond.methodLink "ClassAnswersLaw" (27 : Nat) ({ cls := "ClassAnswersModel", name := "rule", desc := "(II)I" } : MethodName)) := ⟨List.mem_of_getElem? (i := 730) (by decide +kernel), by decide +kernel⟩
theorem ca_w731 : ca_Yw (Cond.instanceMethod ({ cls := "ClassAnswersModel", name := "rule", desc := "(II)I" } : MethodName)) := ⟨List.mem_of_getElem? (i := 731) (by decide +kernel), by decide +kernel⟩
theorem ca_w732 : ca_Yw (Cond.selects "ClassAnswersModel" ({ cls := "ClassAnswersModel", name := "rule", desc := "(II)I" } : MethodName) ({ cls := "ClassAnswersModel", name := "rule", desc := "(II)I" } : MethodName)) := ⟨List.mem_of_getElem? (i := 732) (by decide +kernel), by decide +kernel⟩
theorem ca_w733 : ca_Yw (Cond.code ({ cls := "ClassAnswersModel", name := "rule", desc := "(II)I" } : MethodName) prog_12_method_7_code (4 : Nat) (Option.some ClassFile.FieldType.int)) := ⟨List.mem_of_getElem? (i := 733) (by decide +kernel), by decide +kernel⟩
theorem ca_w734 : ca_Yw (Cond.methodLink "ClassAnswersLaw" (32 : Nat) ({ cls := "ClassAnswersModel", name := "ask", desc := "(III)I" } : MethodName)) := ⟨List.mem_of_getElem? (i := 734) (by decide +kernel), by decide +kernel⟩
theorem ca_w735 : ca_Yw (Cond.instanceMethod ({ cls := "ClassAnswersModel", name := "ask", desc := "(III)I" } : MethodName)) := ⟨List.mem_of_getElem? (i := 735) (by decide +kernel), by decide +kernel⟩
theorem ca_w736 : ca_Yw (Cond.selects "ClassAnswersModel" ({ cls := "ClassAnswersModel", name := "ask", desc := "(III)I" } : MethodName) ({ cls := "ClassAnswersModel", name := "ask", desc := "(III)I" } : MethodName)) := ⟨List.mem_of_getElem? (i := 736) (by decide +kernel), by decide +kernel⟩
theorem ca_w737 : ca_Yw (Cond.code ({ cls := "ClassAnswersModel", name := "ask", desc := "(III)I" } : MethodName) prog_12_method_8_code (5 : Nat) (Option.some ClassFile.FieldType.int)) := ⟨List.mem_of_getElem? (i := 737) (by decide +kernel), by decide +kernel⟩
theorem ca_w739 : ca_Yw (Cond.methodLink "ClassAnswersLaw" (36 : Nat) ({ cls := "ClassAnswersModel", name := "send", desc := "(II)I" } : MethodName)) := ⟨List.mem_of_getElem? (i := 739) (by decide +kernel), by decide +kernel⟩
theorem ca_w740 : ca_Yw (Cond.instanceMethod ({ cls := "ClassAnswersModel", name := "send", desc := "(II)I" } : MethodName)) := ⟨List.mem_of_getElem? (i := 740) (by decide +kernel), by decide +kernel⟩
theorem ca_w741 : ca_Yw (Cond.selects "ClassAnswersModel" ({ cls := "ClassAnswersModel", name := "send", desc := "(II)I" } : MethodName) ({ cls := "ClassAnswersModel", name := "send", desc := "(II)I" } : MethodName)) := ⟨List.mem_of_getElem? (i := 741) (by decide +kernel), by decide +kernel⟩
theorem ca_w742 : ca_Yw (Cond.code ({ cls := "ClassAnswersModel", name := "send", desc := "(II)I" } : MethodName) prog_12_method_10_code (3 : Nat) (Option.some ClassFile.FieldType.int)) := ⟨List.mem_of_getElem? (i := 742) (by decide +kernel), by decide +kernel⟩
theorem ca_w747 : ca_Yw (Cond.methodLink "ClassAnswersLaw" (41 : Nat) ({ cls := "ClassAnswersModel", name := "ticks", desc := "(I)I" } : MethodName)) := ⟨List.mem_of_getElem? (i := 747) (by decide +kernel), by decide +kernel⟩
theorem ca_w748 : ca_Yw (Cond.instanceMethod ({ cls := "ClassAnswersModel", name := "ticks", desc := "(I)I" } : MethodName)) := ⟨List.mem_of_getElem? (i := 748) (by decide +kernel), by decide +kernel⟩
theorem ca_w749 : ca_Yw (Cond.selects "ClassAnswersModel" ({ cls := "ClassAnswersModel", name := "ticks", desc := "(I)I" } : MethodName) ({ cls := "ClassAnswersModel", name := "ticks", desc := "(I)I" } : MethodName)) := ⟨List.mem_of_getElem? (i := 749) (by decide +kernel), by decide +kernel⟩
theorem ca_w750 : ca_Yw (Cond.code ({ cls := "ClassAnswersModel", name := "ticks", desc := "(I)I" } : MethodName) prog_12_method_14_code (3 : Nat) (Option.some ClassFile.FieldType.int)) := ⟨List.mem_of_getElem? (i := 750) (by decide +kernel), by decide +kernel⟩
theorem ca_w763 : ca_Yw (Cond.methodLink "ClassAnswersLaw" (45 : Nat) ({ cls := "ClassAnswersModel", name := "base", desc := "(III)I" } : MethodName)) := ⟨List.mem_of_getElem? (i := 763) (by decide +kernel), by decide +kernel⟩
theorem ca_w764 : ca_Yw (Cond.instanceMethod ({ cls := "ClassAnswersModel", name := "base", desc := "(III)I" } : MethodName)) := ⟨List.mem_of_getElem? (i := 764) (by decide +kernel), by decide +kernel⟩
theorem ca_w765 : ca_Yw (Cond.selects "ClassAnswersModel" ({ cls := "ClassAnswersModel", name := "base", desc := "(III)I" } : MethodName) ({ cls := "ClassAnswersModel", name := "base", desc := "(III)I" } : MethodName)) := ⟨List.mem_of_getElem? (i := 765) (by decide +kernel), by decide +kernel⟩
theorem ca_w766 : ca_Yw (Cond.code ({ cls := "ClassAnswersModel", name := "base", desc := "(III)I" } : MethodName) prog_12_method_15_code (6 : Nat) (Option.some ClassFile.FieldType.int)) := ⟨List.mem_of_getElem? (i := 766) (by decide +kernel), by decide +kernel⟩
theorem ca_w767 : ca_Yw (Cond.methodLink "ClassAnswersLaw" (49 : Nat) ({ cls := "ClassAnswersModel", name := "about", desc := "(II)I" } : MethodName)) := ⟨List.mem_of_getElem? (i := 767) (by decide +kernel), by decide +kernel⟩
theorem ca_w768 : ca_Yw (Cond.instanceMethod ({ cls := "ClassAnswersModel", name := "about", desc := "(II)I" } : MethodName)) := ⟨List.mem_of_getElem? (i := 768) (by decide +kernel), by decide +kernel⟩
theorem ca_w769 : ca_Yw (Cond.selects "ClassAnswersModel" ({ cls := "ClassAnswersModel", name := "about", desc := "(II)I" } : MethodName) ({ cls := "ClassAnswersModel", name := "about", desc := "(II)I" } : MethodName)) := ⟨List.mem_of_getElem? (i := 769) (by decide +kernel), by decide +kernel⟩
theorem ca_w770 : ca_Yw (Cond.code ({ cls := "ClassAnswersModel", name := "about", desc := "(II)I" } : MethodName) prog_12_method_17_code (3 : Nat) (Option.some ClassFile.FieldType.int)) := ⟨List.mem_of_getElem? (i := 770) (by decide +kernel), by decide +kernel⟩
theorem ca_w775 : ca_Yw (Cond.methodLink "ClassAnswersLaw" (53 : Nat) ({ cls := "ClassAnswersModel", name := "answers", desc := "()I" } : MethodName)) := ⟨List.mem_of_getElem? (i := 775) (by decide +kernel), by decide +kernel⟩
theorem ca_w776 : ca_Yw (Cond.instanceMethod ({ cls := "ClassAnswersModel", name := "answers", desc := "()I" } : MethodName)) := ⟨List.mem_of_getElem? (i := 776) (by decide +kernel), by decide +kernel⟩
theorem ca_w777 : ca_Yw (Cond.selects "ClassAnswersModel" ({ cls := "ClassAnswersModel", name := "answers", desc := "()I" } : MethodName) ({ cls := "ClassAnswersModel", name := "answers", desc := "()I" } : MethodName)) := ⟨List.mem_of_getElem? (i := 777) (by decide +kernel), by decide +kernel⟩
theorem ca_w778 : ca_Yw (Cond.code ({ cls := "ClassAnswersModel", name := "answers", desc := "()I" } : MethodName) prog_12_method_20_code (1 : Nat) (Option.some ClassFile.FieldType.int)) := ⟨List.mem_of_getElem? (i := 778) (by decide +kernel), by decide +kernel⟩
theorem ca_w787 : ca_Yw (Cond.methodLink "ClassAnswersLaw" (57 : Nat) ({ cls := "ClassAnswersModel", name := "share", desc := "(I)I" } : MethodName)) := ⟨List.mem_of_getElem? (i := 787) (by decide +kernel), by decide +kernel⟩
theorem ca_w788 : ca_Yw (Cond.instanceMethod ({ cls := "ClassAnswersModel", name := "share", desc := "(I)I" } : MethodName)) := ⟨List.mem_of_getElem? (i := 788) (by decide +kernel), by decide +kernel⟩
theorem ca_w789 : ca_Yw (Cond.selects "ClassAnswersModel" ({ cls := "ClassAnswersModel", name := "share", desc := "(I)I" } : MethodName) ({ cls := "ClassAnswersModel", name := "share", desc := "(I)I" } : MethodName)) := ⟨List.mem_of_getElem? (i := 789) (by decide +kernel), by decide +kernel⟩
theorem ca_w790 : ca_Yw (Cond.code ({ cls := "ClassAnswersModel", name := "share", desc := "(I)I" } : MethodName) prog_12_method_22_code (4 : Nat) (Option.some ClassFile.FieldType.int)) := ⟨List.mem_of_getElem? (i := 790) (by decide +kernel), by decide +kernel⟩
theorem ca_w795 : ca_Yw (Cond.methodLink "ClassAnswersLaw" (61 : Nat) ({ cls := "ClassAnswersModel", name := "number", desc := "(I)I" } : MethodName)) := ⟨List.mem_of_getElem? (i := 795) (by decide +kernel), by decide +kernel⟩
theorem ca_w796 : ca_Yw (Cond.instanceMethod ({ cls := "ClassAnswersModel", name := "number", desc := "(I)I" } : MethodName)) := ⟨List.mem_of_getElem? (i := 796) (by decide +kernel), by decide +kernel⟩
theorem ca_w797 : ca_Yw (Cond.selects "ClassAnswersModel" ({ cls := "ClassAnswersModel", name := "number", desc := "(I)I" } : MethodName) ({ cls := "ClassAnswersModel", name := "number", desc := "(I)I" } : MethodName)) := ⟨List.mem_of_getElem? (i := 797) (by decide +kernel), by decide +kernel⟩
theorem ca_w798 : ca_Yw (Cond.code ({ cls := "ClassAnswersModel", name := "number", desc := "(I)I" } : MethodName) prog_12_method_25_code (9 : Nat) (Option.some ClassFile.FieldType.int)) := ⟨List.mem_of_getElem? (i := 798) (by decide +kernel), by decide +kernel⟩
theorem ca_w806 : ca_Yw (Cond.methodLink "ClassAnswersLaw" (65 : Nat) ({ cls := "ClassAnswersModel", name := "order", desc := "(I)I" } : MethodName)) := ⟨List.mem_of_getElem? (i := 806) (by decide +kernel), by decide +kernel⟩
theorem ca_w807 : ca_Yw (Cond.instanceMethod ({ cls := "ClassAnswersModel", name := "order", desc := "(I)I" } : MethodName)) := ⟨List.mem_of_getElem? (i := 807) (by decide +kernel), by decide +kernel⟩
theorem ca_w808 : ca_Yw (Cond.selects "ClassAnswersModel" ({ cls := "ClassAnswersModel", name := "order", desc := "(I)I" } : MethodName) ({ cls := "ClassAnswersModel", name := "order", desc := "(I)I" } : MethodName)) := ⟨List.mem_of_getElem? (i := 808) (by decide +kernel), by decide +kernel⟩
theorem ca_w809 : ca_Yw (Cond.code ({ cls := "ClassAnswersModel", name := "order", desc := "(I)I" } : MethodName) prog_12_method_29_code (6 : Nat) (Option.some ClassFile.FieldType.int)) := ⟨List.mem_of_getElem? (i := 809) (by decide +kernel), by decide +kernel⟩
theorem ca_w821 : ca_Yw (Cond.methodLink "ClassAnswersLaw" (69 : Nat) ({ cls := "ClassAnswersModel", name := "close", desc := "(I)I" } : MethodName)) := ⟨List.mem_of_getElem? (i := 821) (by decide +kernel), by decide +kernel⟩
theorem ca_w822 : ca_Yw (Cond.instanceMethod ({ cls := "ClassAnswersModel", name := "close", desc := "(I)I" } : MethodName)) := ⟨List.mem_of_getElem? (i := 822) (by decide +kernel), by decide +kernel⟩
theorem ca_w823 : ca_Yw (Cond.selects "ClassAnswersModel" ({ cls := "ClassAnswersModel", name := "close", desc := "(I)I" } : MethodName) ({ cls := "ClassAnswersModel", name := "close", desc := "(I)I" } : MethodName)) := ⟨List.mem_of_getElem? (i := 823) (by decide +kernel), by decide +kernel⟩
theorem ca_w824 : ca_Yw (Cond.code ({ cls := "ClassAnswersModel", name := "close", desc := "(I)I" } : MethodName) prog_12_method_30_code (5 : Nat) (Option.some ClassFile.FieldType.int)) := ⟨List.mem_of_getElem? (i := 824) (by decide +kernel), by decide +kernel⟩
theorem ca_w825 : ca_Yw (Cond.methodLink "ClassAnswersLaw" (73 : Nat) ({ cls := "ClassAnswersModel", name := "book", desc := "(II)I" } : MethodName)) := ⟨List.mem_of_getElem? (i := 825) (by decide +kernel), by decide +kernel⟩
theorem ca_w826 : ca_Yw (Cond.instanceMethod ({ cls := "ClassAnswersModel", name := "book", desc := "(II)I" } : MethodName)) := ⟨List.mem_of_getElem? (i := 826) (by decide +kernel), by decide +kernel⟩
theorem ca_w827 : ca_Yw (Cond.selects "ClassAnswersModel" ({ cls := "ClassAnswersModel", name := "book", desc := "(II)I" } : MethodName) ({ cls := "ClassAnswersModel", name := "book", desc := "(II)I" } : MethodName)) := ⟨List.mem_of_getElem? (i := 827) (by decide +kernel), by decide +kernel⟩
theorem ca_w828 : ca_Yw (Cond.code ({ cls := "ClassAnswersModel", name := "book", desc := "(II)I" } : MethodName) prog_12_method_31_code (3 : Nat) (Option.some ClassFile.FieldType.int)) := ⟨List.mem_of_getElem? (i := 828) (by decide +kernel), by decide +kernel⟩
theorem ca_w829 : ca_Yw (Cond.methodLink "ClassAnswersLaw" (77 : Nat) ({ cls := "ClassAnswersModel", name := "marks", desc := "(I)I" } : MethodName)) := ⟨List.mem_of_getElem? (i := 829) (by decide +kernel), by decide +kernel⟩
theorem ca_w830 : ca_Yw (Cond.instanceMethod ({ cls := "ClassAnswersModel", name := "marks", desc := "(I)I" } : MethodName)) := ⟨List.mem_of_getElem? (i := 830) (by decide +kernel), by decide +kernel⟩
theorem ca_w831 : ca_Yw (Cond.selects "ClassAnswersModel" ({ cls := "ClassAnswersModel", name := "marks", desc := "(I)I" } : MethodName) ({ cls := "ClassAnswersModel", name := "marks", desc := "(I)I" } : MethodName)) := ⟨List.mem_of_getElem? (i := 831) (by decide +kernel), by decide +kernel⟩
theorem ca_w832 : ca_Yw (Cond.code ({ cls := "ClassAnswersModel", name := "marks", desc := "(I)I" } : MethodName) prog_12_method_33_code (2 : Nat) (Option.some ClassFile.FieldType.int)) := ⟨List.mem_of_getElem? (i := 832) (by decide +kernel), by decide +kernel⟩
theorem ca_w837 : ca_Yw (Cond.methodLink "ClassAnswersLaw" (81 : Nat) ({ cls := "ClassAnswersModel", name := "teams", desc := "(II)I" } : MethodName)) := ⟨List.mem_of_getElem? (i := 837) (by decide +kernel), by decide +kernel⟩
theorem ca_w838 : ca_Yw (Cond.instanceMethod ({ cls := "ClassAnswersModel", name := "teams", desc := "(II)I" } : MethodName)) := ⟨List.mem_of_getElem? (i := 838) (by decide +kernel), by decide +kernel⟩
theorem ca_w839 : ca_Yw (Cond.selects "ClassAnswersModel" ({ cls := "ClassAnswersModel", name := "teams", desc := "(II)I" } : MethodName) ({ cls := "ClassAnswersModel", name := "teams", desc := "(II)I" } : MethodName)) := ⟨List.mem_of_getElem? (i := 839) (by decide +kernel), by decide +kernel⟩
theorem ca_w840 : ca_Yw (Cond.code ({ cls := "ClassAnswersModel", name := "teams", desc := "(II)I" } : MethodName) prog_12_method_36_code (9 : Nat) (Option.some ClassFile.FieldType.int)) := ⟨List.mem_of_getElem? (i := 840) (by decide +kernel), by decide +kernel⟩
theorem ca_w848 : ca_Yw (Cond.methodLink "ClassAnswersLaw" (85 : Nat) ({ cls := "ClassAnswersModel", name := "best", desc := "()I" } : MethodName)) := ⟨List.mem_of_getElem? (i := 848) (by decide +kernel), by decide +kernel⟩
theorem ca_w849 : ca_Yw (Cond.instanceMethod ({ cls := "ClassAnswersModel", name := "best", desc := "()I" } : MethodName)) := ⟨List.mem_of_getElem? (i := 849) (by decide +kernel), by decide +kernel⟩
theorem ca_w850 : ca_Yw (Cond.selects "ClassAnswersModel" ({ cls := "ClassAnswersModel", name := "best", desc := "()I" } : MethodName) ({ cls := "ClassAnswersModel", name := "best", desc := "()I" } : MethodName)) := ⟨List.mem_of_getElem? (i := 850) (by decide +kernel), by decide +kernel⟩
theorem ca_w851 : ca_Yw (Cond.code ({ cls := "ClassAnswersModel", name := "best", desc := "()I" } : MethodName) prog_12_method_37_code (7 : Nat) (Option.some ClassFile.FieldType.int)) := ⟨List.mem_of_getElem? (i := 851) (by decide +kernel), by decide +kernel⟩
theorem ca_w852 : ca_Yw (Cond.methodLink "ClassAnswersLaw" (89 : Nat) ({ cls := "ClassAnswersModel", name := "seed", desc := "(I)I" } : MethodName)) := ⟨List.mem_of_getElem? (i := 852) (by decide +kernel), by decide +kernel⟩
theorem ca_w853 : ca_Yw (Cond.instanceMethod ({ cls := "ClassAnswersModel", name := "seed", desc := "(I)I" } : MethodName)) := ⟨List.mem_of_getElem? (i := 853) (by decide +kernel), by decide +kernel⟩
theorem ca_w854 : ca_Yw (Cond.selects "ClassAnswersModel" ({ cls := "ClassAnswersModel", name := "seed", desc := "(I)I" } : MethodName) ({ cls := "ClassAnswersModel", name := "seed", desc := "(I)I" } : MethodName)) := ⟨List.mem_of_getElem? (i := 854) (by decide +kernel), by decide +kernel⟩
theorem ca_w855 : ca_Yw (Cond.code ({ cls := "ClassAnswersModel", name := "seed", desc := "(I)I" } : MethodName) prog_12_method_38_code (2 : Nat) (Option.some ClassFile.FieldType.int)) := ⟨List.mem_of_getElem? (i := 855) (by decide +kernel), by decide +kernel⟩
theorem ca_w857 : ca_Yw (Cond.methodLink "ClassAnswersLaw" (93 : Nat) ({ cls := "ClassAnswersModel", name := "draw", desc := "()I" } : MethodName)) := ⟨List.mem_of_getElem? (i := 857) (by decide +kernel), by decide +kernel⟩
theorem ca_w858 : ca_Yw (Cond.instanceMethod ({ cls := "ClassAnswersModel", name := "draw", desc := "()I" } : MethodName)) := ⟨List.mem_of_getElem? (i := 858) (by decide +kernel), by decide +kernel⟩
theorem ca_w859 : ca_Yw (Cond.selects "ClassAnswersModel" ({ cls := "ClassAnswersModel", name := "draw", desc := "()I" } : MethodName) ({ cls := "ClassAnswersModel", name := "draw", desc := "()I" } : MethodName)) := ⟨List.mem_of_getElem? (i := 859) (by decide +kernel), by decide +kernel⟩
theorem ca_w860 : ca_Yw (Cond.code ({ cls := "ClassAnswersModel", name := "draw", desc := "()I" } : MethodName) prog_12_method_39_code (4 : Nat) (Option.some ClassFile.FieldType.int)) := ⟨List.mem_of_getElem? (i := 860) (by decide +kernel), by decide +kernel⟩
theorem ca_w863 : ca_Yw (Cond.methodLink "ClassAnswersLaw" (97 : Nat) ({ cls := "ClassAnswersModel", name := "count", desc := "(I)I" } : MethodName)) := ⟨List.mem_of_getElem? (i := 863) (by decide +kernel), by decide +kernel⟩
theorem ca_w864 : ca_Yw (Cond.instanceMethod ({ cls := "ClassAnswersModel", name := "count", desc := "(I)I" } : MethodName)) := ⟨List.mem_of_getElem? (i := 864) (by decide +kernel), by decide +kernel⟩
theorem ca_w865 : ca_Yw (Cond.selects "ClassAnswersModel" ({ cls := "ClassAnswersModel", name := "count", desc := "(I)I" } : MethodName) ({ cls := "ClassAnswersModel", name := "count", desc := "(I)I" } : MethodName)) := ⟨List.mem_of_getElem? (i := 865) (by decide +kernel), by decide +kernel⟩
theorem ca_w866 : ca_Yw (Cond.code ({ cls := "ClassAnswersModel", name := "count", desc := "(I)I" } : MethodName) prog_12_method_40_code (2 : Nat) (Option.some ClassFile.FieldType.int)) := ⟨List.mem_of_getElem? (i := 866) (by decide +kernel), by decide +kernel⟩
theorem ca_Y_X10_about : ca_Yv yX10_about RX10 cX10_about 3 (some .int) 2 := ⟨ca_w768, ca_w769, ca_w48, ca_w770, by decide, by decide, by decide +kernel⟩
theorem ca_Y_X10_answers : ca_Yv yX10_answers RX10 cX10_answers 1 (some .int) 0 := ⟨ca_w776, ca_w777, ca_w48, ca_w778, by decide, by decide, by decide +kernel⟩
theorem ca_Y_X10_ask : ca_Yv yX10_ask RX10 cX10_ask 5 (some .int) 3 := ⟨ca_w735, ca_w736, ca_w48, ca_w737, by decide, by decide, by decide +kernel⟩
theorem ca_Y_X10_base : ca_Yv yX10_base RX10 cX10_base 6 (some .int) 3 := ⟨ca_w764, ca_w765, ca_w48, ca_w766, by decide, by decide, by decide +kernel⟩
theorem ca_Y_X10_best : ca_Yv yX10_best RX10 cX10_best 7 (some .int) 0 := ⟨ca_w849, ca_w850, ca_w48, ca_w851, by decide, by decide, by decide +kernel⟩
theorem ca_Y_X10_book : ca_Yv yX10_book RX10 cX10_book 3 (some .int) 2 := ⟨ca_w826, ca_w827, ca_w48, ca_w828, by decide, by decide, by decide +kernel⟩
theorem ca_Y_X10_box : ca_Yv yX10_box RX10 cX10_box 1 (some .int) 0 := ⟨ca_w712, ca_w713, ca_w48, ca_w714, by decide, by decide, by decide +kernel⟩
theorem ca_Y_X10_close : ca_Yv yX10_close RX10 cX10_close 5 (some .int) 1 := ⟨ca_w822, ca_w823, ca_w48, ca_w824, by decide, by decide, by decide +kernel⟩
theorem ca_Y_X10_count : ca_Yv yX10_count RX10 cX10_count 2 (some .int) 1 := ⟨ca_w864, ca_w865, ca_w48, ca_w866, by decide, by decide, by decide +kernel⟩
theorem ca_Y_X10_draw : ca_Yv yX10_draw RX10 cX10_draw 4 (some .int) 0 := ⟨ca_w858, ca_w859, ca_w48, ca_w860, by decide, by decide, by decide +kernel⟩
theorem ca_Y_X10_marks : ca_Yv yX10_marks RX10 cX10_marks 2 (some .int) 1 := ⟨ca_w830, ca_w831, ca_w48, ca_w832, by decide, by decide, by decide +kernel⟩
theorem ca_Y_X10_number : ca_Yv yX10_number RX10 cX10_number 9 (some .int) 1 := ⟨ca_w796, ca_w797, ca_w48, ca_w798, by decide, by decide, by decide +kernel⟩
theorem ca_Y_X10_order : ca_Yv yX10_order RX10 cX10_order 6 (some .int) 1 := ⟨ca_w807, ca_w808, ca_w48, ca_w809, by decide, by decide, by decide +kernel⟩
theorem ca_Y_X10_road : ca_Yv yX10_road RX10 cX10_road 5 (some .int) 4 := ⟨ca_w716, ca_w717, ca_w48, ca_w718, by decide, by decide, by decide +kernel⟩
theorem ca_Y_X10_rule : ca_Yv yX10_rule RX10 cX10_rule 4 (some .int) 2 := ⟨ca_w731, ca_w732, ca_w48, ca_w733, by decide, by decide, by decide +kernel⟩
theorem ca_Y_X10_seed : ca_Yv yX10_seed RX10 cX10_seed 2 (some .int) 1 := ⟨ca_w853, ca_w854, ca_w48, ca_w855, by decide, by decide, by decide +kernel⟩
theorem ca_Y_X10_send : ca_Yv yX10_send RX10 cX10_send 3 (some .int) 2 := ⟨ca_w740, ca_w741, ca_w48, ca_w742, by decide, by decide, by decide +kernel⟩
theorem ca_Y_X10_share : ca_Yv yX10_share RX10 cX10_share 4 (some .int) 1 := ⟨ca_w788, ca_w789, ca_w48, ca_w790, by decide, by decide, by decide +kernel⟩
theorem ca_Y_X10_teams : ca_Yv yX10_teams RX10 cX10_teams 9 (some .int) 2 := ⟨ca_w838, ca_w839, ca_w48, ca_w840, by decide, by decide, by decide +kernel⟩
theorem ca_Y_X10_ticks : ca_Yv yX10_ticks RX10 cX10_ticks 3 (some .int) 1 := ⟨ca_w748, ca_w749, ca_w48, ca_w750, by decide, by decide, by decide +kernel⟩
theorem ca_Y_X9_about : ca_Yv yX9_about RX9 cX9_about 4 (some .int) 2 := ⟨ca_w427, ca_w428, ca_w38, ca_w429, by decide, by decide, by decide +kernel⟩
theorem ca_Y_X9_answers : ca_Yv yX9_answers RX9 cX9_answers 1 (some .int) 0 := ⟨ca_w435, ca_w436, ca_w38, ca_w437, by decide, by decide, by decide +kernel⟩
theorem ca_Y_X9_ask : ca_Yv yX9_ask RX9 cX9_ask 5 (some .int) 3 := ⟨ca_w328, ca_w329, ca_w38, ca_w330, by decide, by decide, by decide +kernel⟩
theorem ca_Y_X9_base : ca_Yv yX9_base RX9 cX9_base 5 (some .int) 3 := ⟨ca_w422, ca_w423, ca_w38, ca_w424, by decide, by decide, by decide +kernel⟩
theorem ca_Y_X9_best : ca_Yv yX9_best RX9 cX9_best 1 (some .int) 0 := ⟨ca_w566, ca_w567, ca_w38, ca_w568, by decide, by decide, by decide +kernel⟩
theorem ca_Y_X9_book : ca_Yv yX9_book RX9 cX9_book 3 (some .int) 2 := ⟨ca_w537, ca_w538, ca_w38, ca_w539, by decide, by decide, by decide +kernel⟩
theorem ca_Y_X9_box : ca_Yv yX9_box RX9 cX9_box 1 (some .int) 0 := ⟨ca_w301, ca_w302, ca_w38, ca_w303, by decide, by decide, by decide +kernel⟩
theorem ca_Y_X9_close : ca_Yv yX9_close RX9 cX9_close 2 (some .int) 1 := ⟨ca_w520, ca_w521, ca_w38, ca_w522, by decide, by decide, by decide +kernel⟩
theorem ca_Y_X9_count : ca_Yv yX9_count RX9 cX9_count 2 (some .int) 1 := ⟨ca_w604, ca_w605, ca_w38, ca_w606, by decide, by decide, by decide +kernel⟩
theorem ca_Y_X9_draw : ca_Yv yX9_draw RX9 cX9_draw 1 (some .int) 0 := ⟨ca_w590, ca_w591, ca_w38, ca_w592, by decide, by decide, by decide +kernel⟩
theorem ca_Y_X9_marks : ca_Yv yX9_marks RX9 cX9_marks 2 (some .int) 1 := ⟨ca_w541, ca_w542, ca_w38, ca_w543, by decide, by decide, by decide +kernel⟩
theorem ca_Y_X9_number : ca_Yv yX9_number RX9 cX9_number 2 (some .int) 1 := ⟨ca_w455, ca_w456, ca_w38, ca_w457, by decide, by decide, by decide +kernel⟩
theorem ca_Y_X9_order : ca_Yv yX9_order RX9 cX9_order 2 (some .int) 1 := ⟨ca_w485, ca_w486, ca_w38, ca_w487, by decide, by decide, by decide +kernel⟩
theorem ca_Y_X9_road : ca_Yv yX9_road RX9 cX9_road 5 (some .int) 4 := ⟨ca_w305, ca_w306, ca_w38, ca_w307, by decide, by decide, by decide +kernel⟩
theorem ca_Y_X9_rule : ca_Yv yX9_rule RX9 cX9_rule 4 (some .int) 2 := ⟨ca_w324, ca_w325, ca_w38, ca_w326, by decide, by decide, by decide +kernel⟩
theorem ca_Y_X9_seed : ca_Yv yX9_seed RX9 cX9_seed 2 (some .int) 1 := ⟨ca_w581, ca_w582, ca_w38, ca_w583, by decide, by decide, by decide +kernel⟩
theorem ca_Y_X9_send : ca_Yv yX9_send RX9 cX9_send 3 (some .int) 2 := ⟨ca_w349, ca_w350, ca_w38, ca_w351, by decide, by decide, by decide +kernel⟩
theorem ca_Y_X9_share : ca_Yv yX9_share RX9 cX9_share 4 (some .int) 1 := ⟨ca_w447, ca_w448, ca_w38, ca_w449, by decide, by decide, by decide +kernel⟩
theorem ca_Y_X9_teams : ca_Yv yX9_teams RX9 cX9_teams 4 (some .int) 2 := ⟨ca_w545, ca_w546, ca_w38, ca_w547, by decide, by decide, by decide +kernel⟩
theorem ca_Y_X9_ticks : ca_Yv yX9_ticks RX9 cX9_ticks 4 (some .int) 1 := ⟨ca_w366, ca_w367, ca_w38, ca_w368, by decide, by decide, by decide +kernel⟩
theorem ca_L_L_13 : ca_Yl RL 13 yX9_box := Or.inl ca_w300
theorem ca_L_L_17 : ca_Yl RL 17 yX10_box := Or.inl ca_w711
theorem ca_L_L_18 : ca_Yl RL 18 yX9_road := Or.inl ca_w304
theorem ca_L_L_22 : ca_Yl RL 22 yX10_road := Or.inl ca_w715
theorem ca_L_L_23 : ca_Yl RL 23 yX9_rule := Or.inl ca_w323
theorem ca_L_L_27 : ca_Yl RL 27 yX10_rule := Or.inl ca_w730
theorem ca_L_L_28 : ca_Yl RL 28 yX9_ask := Or.inl ca_w327
theorem ca_L_L_32 : ca_Yl RL 32 yX10_ask := Or.inl ca_w734
theorem ca_L_L_33 : ca_Yl RL 33 yX9_send := Or.inl ca_w348
theorem ca_L_L_36 : ca_Yl RL 36 yX10_send := Or.inl ca_w739
theorem ca_L_L_37 : ca_Yl RL 37 yX9_ticks := Or.inl ca_w365
theorem ca_L_L_41 : ca_Yl RL 41 yX10_ticks := Or.inl ca_w747
theorem ca_L_L_42 : ca_Yl RL 42 yX9_base := Or.inl ca_w421
theorem ca_L_L_45 : ca_Yl RL 45 yX10_base := Or.inl ca_w763
theorem ca_L_L_46 : ca_Yl RL 46 yX9_about := Or.inl ca_w426
theorem ca_L_L_49 : ca_Yl RL 49 yX10_about := Or.inl ca_w767
theorem ca_L_L_50 : ca_Yl RL 50 yX9_answers := Or.inl ca_w434
theorem ca_L_L_53 : ca_Yl RL 53 yX10_answers := Or.inl ca_w775
theorem ca_L_L_54 : ca_Yl RL 54 yX9_share := Or.inl ca_w446
theorem ca_L_L_57 : ca_Yl RL 57 yX10_share := Or.inl ca_w787
theorem ca_L_L_58 : ca_Yl RL 58 yX9_number := Or.inl ca_w454
theorem ca_L_L_61 : ca_Yl RL 61 yX10_number := Or.inl ca_w795
theorem ca_L_L_62 : ca_Yl RL 62 yX9_order := Or.inl ca_w484
theorem ca_L_L_65 : ca_Yl RL 65 yX10_order := Or.inl ca_w806
theorem ca_L_L_66 : ca_Yl RL 66 yX9_close := Or.inl ca_w519
theorem ca_L_L_69 : ca_Yl RL 69 yX10_close := Or.inl ca_w821
theorem ca_L_L_70 : ca_Yl RL 70 yX9_book := Or.inl ca_w536
theorem ca_L_L_73 : ca_Yl RL 73 yX10_book := Or.inl ca_w825
theorem ca_L_L_74 : ca_Yl RL 74 yX9_marks := Or.inl ca_w540
theorem ca_L_L_77 : ca_Yl RL 77 yX10_marks := Or.inl ca_w829
theorem ca_L_L_78 : ca_Yl RL 78 yX9_teams := Or.inl ca_w544
theorem ca_L_L_81 : ca_Yl RL 81 yX10_teams := Or.inl ca_w837
theorem ca_L_L_82 : ca_Yl RL 82 yX9_best := Or.inl ca_w565
theorem ca_L_L_85 : ca_Yl RL 85 yX10_best := Or.inl ca_w848
theorem ca_L_L_86 : ca_Yl RL 86 yX9_seed := Or.inl ca_w580
theorem ca_L_L_89 : ca_Yl RL 89 yX10_seed := Or.inl ca_w852
theorem ca_L_L_90 : ca_Yl RL 90 yX9_draw := Or.inl ca_w589
theorem ca_L_L_93 : ca_Yl RL 93 yX10_draw := Or.inl ca_w857
theorem ca_L_L_94 : ca_Yl RL 94 yX9_count := Or.inl ca_w603
theorem ca_L_L_97 : ca_Yl RL 97 yX10_count := Or.inl ca_w863
def ca_St_box (R : Nat → ca_S → ca_S → Prop) (k : Nat) (σ τ : ca_S) : Prop := (∃ (r : Int32) (σ' : ca_S) (τ' : ca_S), cf_X9_box σ = some (r, σ') ∧ cf_X10_box τ = some (r, τ') ∧ R (k + 1) σ' τ')
def ca_St_road (R : Nat → ca_S → ca_S → Prop) (k : Nat) (σ τ : ca_S) : Prop := (∀ a1 a2 a3 a4 : Int32, ∃ (r : Int32) (σ' : ca_S) (τ' : ca_S), cf_X9_road σ a1 a2 a3 a4 = some (r, σ') ∧ cf_X10_road τ a1 a2 a3 a4 = some (r, τ') ∧ R (k + 1) σ' τ')
def ca_St_rule (R : Nat → ca_S → ca_S → Prop) (k : Nat) (σ τ : ca_S) : Prop := (∀ a1 a2 : Int32, ∃ (r : Int32) (σ' : ca_S) (τ' : ca_S), cf_X9_rule σ a1 a2 = some (r, σ') ∧ cf_X10_rule τ a1 a2 = some (r, τ') ∧ R (k + 1) σ' τ')
def ca_St_ask (R : Nat → ca_S → ca_S → Prop) (k : Nat) (σ τ : ca_S) : Prop := (∀ a1 a2 a3 : Int32, ∃ (r : Int32) (σ' : ca_S) (τ' : ca_S), cf_X9_ask σ a1 a2 a3 = some (r, σ') ∧ cf_X10_ask τ a1 a2 a3 = some (r, τ') ∧ R (k + 1) σ' τ')
def ca_St_send (R : Nat → ca_S → ca_S → Prop) (k : Nat) (σ τ : ca_S) : Prop := (∀ a1 a2 : Int32, ∃ (r : Int32) (σ' : ca_S) (τ' : ca_S), cf_X9_send σ a1 a2 = some (r, σ') ∧ cf_X10_send τ a1 a2 = some (r, τ') ∧ R (k + 1) σ' τ')
def ca_St_ticks (R : Nat → ca_S → ca_S → Prop) (k : Nat) (σ τ : ca_S) : Prop := (∀ a1 : Int32, ∃ (r : Int32) (σ' : ca_S) (τ' : ca_S), cf_X9_ticks σ a1 = some (r, σ') ∧ cf_X10_ticks τ a1 = some (r, τ') ∧ R (k + 1) σ' τ')
def ca_St_base (R : Nat → ca_S → ca_S → Prop) (k : Nat) (σ τ : ca_S) : Prop := (∀ a1 a2 a3 : Int32, ∃ (r : Int32), cf_X9_base σ a1 a2 a3 = some r ∧ cf_X10_base τ a1 a2 a3 = some r ∧ R (k + 1) σ τ)
def ca_St_about (R : Nat → ca_S → ca_S → Prop) (k : Nat) (σ τ : ca_S) : Prop := (∀ a1 a2 : Int32, ∃ (r : Int32), cf_X9_about σ a1 a2 = some r ∧ cf_X10_about τ a1 a2 = some r ∧ R (k + 1) σ τ)
def ca_St_answers (R : Nat → ca_S → ca_S → Prop) (k : Nat) (σ τ : ca_S) : Prop := (∃ (r : Int32), cf_X9_answers σ = some r ∧ cf_X10_answers τ = some r ∧ R (k + 1) σ τ)
def ca_St_share (R : Nat → ca_S → ca_S → Prop) (k : Nat) (σ τ : ca_S) : Prop := (∀ a1 : Int32, ∃ (r : Int32), cf_X9_share σ a1 = some r ∧ cf_X10_share τ a1 = some r ∧ R (k + 1) σ τ)
def ca_St_number (R : Nat → ca_S → ca_S → Prop) (k : Nat) (σ τ : ca_S) : Prop := (∀ a1 : Int32, ∃ (r : Int32) (σ' : ca_S) (τ' : ca_S), cf_X9_number σ a1 = some (r, σ') ∧ cf_X10_number τ a1 = some (r, τ') ∧ R (k + 1) σ' τ')
def ca_St_order (R : Nat → ca_S → ca_S → Prop) (k : Nat) (σ τ : ca_S) : Prop := (∀ a1 : Int32, ∃ (r : Int32) (σ' : ca_S), cf_X9_order σ a1 = some (r, σ') ∧ cf_X10_order τ a1 = some r ∧ R (k + 1) σ' τ)
def ca_St_close (R : Nat → ca_S → ca_S → Prop) (k : Nat) (σ τ : ca_S) : Prop := (∀ a1 : Int32, ∃ (r : Int32) (σ' : ca_S) (τ' : ca_S), cf_X9_close σ a1 = some (r, σ') ∧ cf_X10_close τ a1 = some (r, τ') ∧ R (k + 1) σ' τ')
def ca_St_book (R : Nat → ca_S → ca_S → Prop) (k : Nat) (σ τ : ca_S) : Prop := (∀ a1 a2 : Int32, ∃ (r : Int32), cf_X9_book σ a1 a2 = some r ∧ cf_X10_book τ a1 a2 = some r ∧ R (k + 1) σ τ)
def ca_St_marks (R : Nat → ca_S → ca_S → Prop) (k : Nat) (σ τ : ca_S) : Prop := (∀ a1 : Int32, ∃ (r : Int32), cf_X9_marks σ a1 = some r ∧ cf_X10_marks τ a1 = some r ∧ R (k + 1) σ τ)
def ca_St_teams (R : Nat → ca_S → ca_S → Prop) (k : Nat) (σ τ : ca_S) : Prop := (∀ a1 a2 : Int32, ∃ (r : Int32), cf_X9_teams σ a1 a2 = some r ∧ cf_X10_teams τ a1 a2 = some r ∧ R (k + 1) σ τ)
def ca_St_best (R : Nat → ca_S → ca_S → Prop) (k : Nat) (σ τ : ca_S) : Prop := (∃ (r : Int32), cf_X9_best σ = some r ∧ cf_X10_best τ = some r ∧ R (k + 1) σ τ)
def ca_St_seed (R : Nat → ca_S → ca_S → Prop) (k : Nat) (σ τ : ca_S) : Prop := (∀ a1 : Int32, ∃ (r : Int32) (σ' : ca_S) (τ' : ca_S), cf_X9_seed σ a1 = some (r, σ') ∧ cf_X10_seed τ a1 = some (r, τ') ∧ R (k + 1) σ' τ')
def ca_St_draw (R : Nat → ca_S → ca_S → Prop) (k : Nat) (σ τ : ca_S) : Prop := (∃ (r : Int32) (σ' : ca_S) (τ' : ca_S), cf_X9_draw σ = some (r, σ') ∧ cf_X10_draw τ = some (r, τ') ∧ R (k + 1) σ' τ')
def ca_St_count (R : Nat → ca_S → ca_S → Prop) (k : Nat) (σ τ : ca_S) : Prop := (∀ a1 : Int32, ∃ (r : Int32), cf_X9_count σ a1 = some r ∧ cf_X10_count τ a1 = some r ∧ R (k + 1) σ τ)
def ca_Step (R : Nat → ca_S → ca_S → Prop) : Prop := ∀ (k : Nat) (σ τ : ca_S), k < 512 → R k σ τ → ca_St_box R k σ τ ∧ ca_St_road R k σ τ ∧ ca_St_rule R k σ τ ∧ ca_St_ask R k σ τ ∧ ca_St_send R k σ τ ∧ ca_St_ticks R k σ τ ∧ ca_St_base R k σ τ ∧ ca_St_about R k σ τ ∧ ca_St_answers R k σ τ ∧ ca_St_share R k σ τ ∧ ca_St_number R k σ τ ∧ ca_St_order R k σ τ ∧ ca_St_close R k σ τ ∧ ca_St_book R k σ τ ∧ ca_St_marks R k σ τ ∧ ca_St_teams R k σ τ ∧ ca_St_best R k σ τ ∧ ca_St_seed R k σ τ ∧ ca_St_draw R k σ τ ∧ ca_St_count R k σ τ ∧ R (k + 1) σ τ
/-- what stands still in the law -/
def ca_LX (Γ : ca_G) (s : State) : Prop := ca_X Γ ca_cC s ∧ ca_X Γ ca_cM s ∧ (∀ q, ca_Ad Γ ca_cC q → s.heap.size ≤ q ∧ ¬ ca_Ad Γ ca_cM q) ∧ (∀ q, ca_Ad Γ ca_cM q → s.heap.size ≤ q ∧ ¬ ca_Ad Γ ca_cC q)
def ca_LW (Γ : ca_G) (σ τ : ca_S) (H : Heap) : Prop := va_P Γ.1 vwCl (ca_lay Γ ca_cC σ) H ∧ va_P Γ.1 vwCl (ca_lay Γ ca_cM τ) H
theorem ca_kept {Γ : ca_G} {cs : List ca_I} {τ : ca_S} {H H1 : Heap} {A1 : Nat → Prop} (h : va_P Γ.1 vwCl (ca_lay Γ cs τ) H) (ha : ∀ q, ca_Ad Γ cs q → ¬ A1 q) (hk : ∀ q : Nat, q < H.size → ¬ A1 q → H1[q]? = H[q]?) : va_P Γ.1 vwCl (ca_lay Γ cs τ) H1 := by
  refine h.kept (fun k q hq => hk q.1 ((h k q hq).lt) (ha q.1 ?_))
  simp only [ca_lay, List.getElem?_map] at hq
  cases hc : cs[k]? with
  | none => rw [hc] at hq; cases hq
  | some d => rw [hc] at hq; cases hq; exact ⟨d, List.mem_of_getElem? hc, rfl⟩
theorem lw_callC {p : Program} {l : Launch} {e : Env} {s : State} {m : MethodId} {below : List Frame} {meth : Method} {c : Code} {b : Nat} {Q : State → Prop} {H : Heap} {locs : List Loc} {ls : Array Slot} {lv : List (Nat × Value)} {pc : Nat} {rest stk : List Value} {Γ : ca_G} {σ τ : ca_S} {y : MethodName} {bytes : ByteArray} {mL n i f2 l2 : Nat} {As : List Value} {r : Int32} {σ' : ca_S} (hx : p.tables.exec = Jvm.exec) (hb : c.code = code) (hml : c.maxLocals = 4) (hown : s.vm.findClass RL = some m.cls) (hX : ca_LX Γ s) (hP : ca_LW Γ σ τ H) (hS : va_S (fun q => s.heap.size ≤ q) s.heap H locs) (hl : lv_has ls 4 lv) (hM : Met l y [.code y bytes mL (some .int)] { frames := f2, cells := 0, slots := 0, locals := l2 } (va_Pc (.ref (Γ.2.1 (0, 0, 0)) :: As) (fun U => ca_X Γ ca_cC U ∧ va_P Γ.1 vwCl (ca_lay Γ ca_cC σ) U.heap)) (ca_Qi Γ ca_cC (r, σ')) 0 0 (ca_Ad Γ ca_cC)) (hY : ca_Yv y RX9 bytes mL (some .int) n) (hL : ca_Yl RL i y) (hn : As.length = n) (hstk : stk = As.reverse ++ .ref (Γ.2.1 (0, 0, 0)) :: rest) (hc8 : (rest.map fun v => v.category).sum ≤ 8) (hR : f2 + 1 ≤ 8 ∧ 8 + (mL + 11) + l2 ≤ 252) (hd : decode code pc = .ok (.invokevirtual i, 3))
    (kk : ∀ (H1 : Heap) (locs1 : List Loc), ca_LW Γ σ' τ H1 → va_S (fun q => s.heap.size ≤ q) s.heap H1 locs1 → W p l e room_1 s m #[Value.ref b] below meth c H1 locs1 600000 7302250 Q (F0 m (pc + 3) ls (.int r :: rest))) : W p l e room_1 s m #[Value.ref b] below meth c H locs 600000 7302250 Q (F0 m pc ls stk) := by
  refine va_calli (A1 := ca_Ad Γ ca_cC) (ca_runV hx hb hml hown hX.1 hP.1 (fun q h1 h2 => hS.2.1 q h1 (Nat.not_le.mpr h1)) hl hM hY hL ca_m0 rfl rfl hn hstk hc8 hR ⟨Nat.le_refl _, Nat.le_refl _⟩ hd) hS (fun q _ h => (hX.2.2.1 q h).1) (fun q h => (hX.2.2.1 q h).1) (fun r2 u t H1 locs1 ht hvm hp hB hz hk2 hS1 => ?_)
  have hp : r2 = r := hp
  rw [hp]
  exact kk H1 locs1 ⟨ht ▸ hB, ca_kept hP.2 (fun q h => (hX.2.2.2 q h).2) hk2⟩ hS1
theorem lw_callM {p : Program} {l : Launch} {e : Env} {s : State} {m : MethodId} {below : List Frame} {meth : Method} {c : Code} {b : Nat} {Q : State → Prop} {H : Heap} {locs : List Loc} {ls : Array Slot} {lv : List (Nat × Value)} {pc : Nat} {rest stk : List Value} {Γ : ca_G} {σ τ : ca_S} {y : MethodName} {bytes : ByteArray} {mL n i f2 l2 : Nat} {As : List Value} {r : Int32} {τ' : ca_S} (hx : p.tables.exec = Jvm.exec) (hb : c.code = code) (hml : c.maxLocals = 4) (hown : s.vm.findClass RL = some m.cls) (hX : ca_LX Γ s) (hP : ca_LW Γ σ τ H) (hS : va_S (fun q => s.heap.size ≤ q) s.heap H locs) (hl : lv_has ls 4 lv) (hM : Met l y [.code y bytes mL (some .int)] { frames := f2, cells := 0, slots := 0, locals := l2 } (va_Pc (.ref (Γ.2.1 (20, 0, 0)) :: As) (fun U => ca_X Γ ca_cM U ∧ va_P Γ.1 vwCl (ca_lay Γ ca_cM τ) U.heap)) (ca_Qi Γ ca_cM (r, τ')) 0 0 (ca_Ad Γ ca_cM)) (hY : ca_Yv y RX10 bytes mL (some .int) n) (hL : ca_Yl RL i y) (hn : As.length = n) (hstk : stk = As.reverse ++ .ref (Γ.2.1 (20, 0, 0)) :: rest) (hc8 : (rest.map fun v => v.category).sum ≤ 8) (hR : f2 + 1 ≤ 8 ∧ 8 + (mL + 11) + l2 ≤ 252) (hd : decode code pc = .ok (.invokevirtual i, 3))
    (kk : ∀ (H1 : Heap) (locs1 : List Loc), ca_LW Γ σ τ' H1 → va_S (fun q => s.heap.size ≤ q) s.heap H1 locs1 → W p l e room_1 s m #[Value.ref b] below meth c H1 locs1 600000 7302250 Q (F0 m (pc + 3) ls (.int r :: rest))) : W p l e room_1 s m #[Value.ref b] below meth c H locs 600000 7302250 Q (F0 m pc ls stk) := by
  refine va_calli (A1 := ca_Ad Γ ca_cM) (ca_runV hx hb hml hown hX.2.1 hP.2 (fun q h1 h2 => hS.2.1 q h1 (Nat.not_le.mpr h1)) hl hM hY hL ca_m20 rfl rfl hn hstk hc8 hR ⟨Nat.le_refl _, Nat.le_refl _⟩ hd) hS (fun q _ h => (hX.2.2.2 q h).1) (fun q h => (hX.2.2.2 q h).1) (fun r2 u t H1 locs1 ht hvm hp hB hz hk2 hS1 => ?_)
  have hp : r2 = r := hp
  rw [hp]
  exact kk H1 locs1 ⟨ca_kept hP.1 (fun q h => (hX.2.2.1 q h).2) hk2, ht ▸ hB⟩ hS1
/-- script[i + j] -/
theorem lw_arg {p : Program} {l : Launch} {e : Env} {s : State} {m : MethodId} {below : List Frame} {meth : Method} {c : Code} {b L : Nat} {xs : Nat → Int32} {Q : State → Prop} {H : Heap} {locs : List Loc} {ls : Array Slot} {pc : Nat} {rest : List Value} {Γ : ca_G} {k : Nat} (j : Nat) {v : Int32} (hL : L ≤ 2560) (C0 : lw_At p s m meth c b L xs) (hk : 5 * k + j < L) (hv : v = nI j) (hS : va_S (fun q => s.heap.size ≤ q) s.heap H locs) (hl : lv_has ls 4 [(3, .int (nI (5 * k))), (2, .ref (Γ.2.1 (20, 0, 0))), (1, .ref (Γ.2.1 (0, 0, 0))), (0, .ref b)]) (d0 : decode code pc = .ok (.aload_n 0, 1)) (d1 : decode code (pc + 1) = .ok (.iload_n 3, 1)) {z : Int} (d2 : decode code (pc + 2) = .ok (.iconst z, 1)) (hz : Int32.ofInt z = v) (d3 : decode code (pc + 3) = .ok (.iadd, 1)) (d4 : decode code (pc + 4) = .ok (.iaload, 1)) (kk : W p l e room_1 s m #[Value.ref b] below meth c H locs 600000 7302250 Q (F0 m (pc + 5) ls (.int (xs (5 * k + j)) :: rest))) : W p l e room_1 s m #[Value.ref b] below meth c H locs 600000 7302250 Q (F0 m pc ls rest) := by
  obtain ⟨hx, hb, hr, hml, hown, hts, hXs, hbl, hlocks, hgv⟩ := C0
  refine lv_aload_n hx hb d0 rfl (lv_at hl 3 rfl) ?_
  refine lv_iload_n hx hb d1 rfl (lv_at hl 0 rfl) ?_
  refine lv_iconst (v := v) hx hb d2 hz ?_
  refine lv_iadd hx hb d3 ?_
  have e : nI (5 * k) + v = nI (5 * k + j) := by rw [hv, nI_add]
  rw [e]
  refine va_sld hx hb hXs hbl (A := fun q => s.heap.size ≤ q) (Nat.not_le.mpr hbl) hS (vp_in_nI hk (by omega)) d4 ?_
  rw [nI_clamp (by omega)]
  exact kk
set_option maxHeartbeats 4000000 in
set_option maxRecDepth 100000 in
theorem law_loop {R : Nat → ca_S → ca_S → Prop} (hSim : ca_Step R) {p : Program} {l : Launch} {e : Env} {s : State} {m : MethodId} {below : List Frame} {meth : Method} {c : Code} {b L : Nat} {xs : Nat → Int32} {Γ : ca_G} (hL : L ≤ 2560) (C0 : lw_At p s m meth c b L xs) (hXX : ca_LX Γ s) : ∀ (n k : Nat), L < 5 * k + n → 5 * k ≤ L → ∀ (H : Heap) (locs : List Loc) (ls : Array Slot) (σ τ : ca_S), ca_LW Γ σ τ H → va_S (fun q => s.heap.size ≤ q) s.heap H locs → lv_has ls 4 [(3, .int (nI (5 * k))), (2, .ref (Γ.2.1 (20, 0, 0))), (1, .ref (Γ.2.1 (0, 0, 0))), (0, .ref b)] → R k σ τ → W p l e room_1 s m #[Value.ref b] below meth c H locs 600000 7302250 (lw_Z below #[Value.ref b] s) (F0 m 18 ls []) := by
  obtain ⟨hx, hb, hr, hml, hown, hts, hXs, hbl, hlocks, hgv⟩ := id C0
  have hbA : ¬ (fun q : Nat => s.heap.size ≤ q) b := Nat.not_le.mpr hbl
  intro n
  induction n with
  | zero => intro k h1 h2; omega
  | succ n ih =>
    intro k hn hk H locs ls σ τ hP hS hl hR
    refine lv_iload_n hx hb dL_law_18 rfl (lv_at hl 0 rfl) ?_
    refine lv_aload_n hx hb dL_law_19 rfl (lv_at hl 3 rfl) ?_
    refine va_slen hx hb hXs hbl hbA hS dL_law_20 ?_
    refine lv_iconst (v := 5) hx hb dL_law_21 (by decide) ?_
    refine lv_isub hx hb dL_law_22 ?_
    have e5 : (Int32.ofNat L - 5).toInt = (L : Int) - 5 := pk_sub_toInt (a := L) (b := 5) (by omega) (by decide)
    have ek : (nI (5 * k)).toInt = ((5 * k : Nat) : Int) := nI_toInt (by omega)
    refine lv_icmp_gt (tgt := 674) hx hb dL_law_23 (by decide) (fun _ => ?_) (fun h => ?_)
    · refine lv_iconst (v := 1) hx hb dL_law_674 (by decide) ?_
      refine va_forget (fun q hq => hS.2.2 q hq) ?_
      exact lw_ret hx hb hr hlocks dL_law_675
    have hlt : 5 * k + 5 ≤ L := by
      rcases Nat.lt_or_ge (L) (5 * k + 5) with hh | hh
      · exfalso
        apply h
        rw [Int32.lt_iff_toInt_lt, e5, ek]
        omega
      · exact hh
    have hst := hSim k σ τ (by omega) hR
    have hnext : ∀ (H : Heap) (locs : List Loc) (ls : Array Slot) (σ τ : ca_S), ca_LW Γ σ τ H → va_S (fun q => s.heap.size ≤ q) s.heap H locs → lv_has ls 4 [(3, .int (nI (5 * k))), (2, .ref (Γ.2.1 (20, 0, 0))), (1, .ref (Γ.2.1 (0, 0, 0))), (0, .ref b)] → R (k + 1) σ τ → W p l e room_1 s m #[Value.ref b] below meth c H locs 600000 7302250 (lw_Z below #[Value.ref b] s) (F0 m 668 ls []) := by
      intro H locs ls σ τ hP hS hl hR
      refine lv_iinc (v := nI (5 * (k + 1))) (lv' := [(3, .int (nI (5 * (k + 1)))), (2, .ref (Γ.2.1 (20, 0, 0))), (1, .ref (Γ.2.1 (0, 0, 0))), (0, .ref b)]) hx hb dL_law_668 hl (k := 0) rfl (by rw [show Int32.ofInt 5 = nI 5 from rfl, nI_add]; rfl) (by decide) rfl (fun ls hl => ?_)
      refine lv_goto (tgt := 18) hx hb dL_law_671 (by decide) ?_
      exact ih (k + 1) (by omega) (by omega) H locs ls σ τ hP hS hl hR
    refine lv_aload_n hx hb dL_law_26 rfl (lv_at hl 3 rfl) ?_
    refine lv_iload_n hx hb dL_law_27 rfl (lv_at hl 0 rfl) ?_
    refine va_sld hx hb hXs hbl hbA hS (vp_in_nI (by omega) (by omega)) dL_law_28 ?_
    rw [nI_clamp (by omega)]
    refine lv_bipush (v := 31) hx hb dL_law_29 (by decide) ?_
    refine lv_iand hx hb dL_law_31 ?_
    obtain ⟨x, hxx⟩ : ∃ x : Int32, x = xs (5 * k) &&& 31 := ⟨_, rfl⟩
    rw [← hxx]
    by_cases g0 : x = 0
    · refine lv_tableIn (tgt := 128) hx hb dL_law_32 (by rw [g0]; decide) (by rw [g0]; decide) (by rw [g0]; rfl) (by decide) ?_
      obtain ⟨r, σ', τ', h1, h2, hR2⟩ := (hst.1)
      refine lv_aload_n hx hb dL_law_128 rfl (lv_at hl 2 rfl) ?_
      refine lw_callC (rest := []) hx hb hml hown hXX hP hS hl (cm_X9_box Γ l σ  (r, σ') h1) ca_Y_X9_box ca_L_L_13 rfl rfl (Nat.le_of_ble_eq_true rfl) ⟨Nat.le_of_ble_eq_true rfl, Nat.le_of_ble_eq_true rfl⟩ dL_law_129 (fun H locs hP hS => ?_)
      refine lv_aload_n hx hb dL_law_132 rfl (lv_at hl 1 rfl) ?_
      refine lw_callM (rest := [.int r]) hx hb hml hown hXX hP hS hl (cm_X10_box Γ l τ  (r, τ') h2) ca_Y_X10_box ca_L_L_17 rfl rfl (Nat.le_of_ble_eq_true rfl) ⟨Nat.le_of_ble_eq_true rfl, Nat.le_of_ble_eq_true rfl⟩ dL_law_133 (fun H locs hP hS => ?_)
      refine lv_icmp_eq (tgt := 668) hx hb dL_law_136 (by decide) (fun _ => ?_) (fun h => absurd rfl h)
      exact hnext H locs ls σ' τ' hP hS hl hR2
    by_cases g1 : x = 1
    · refine lv_tableIn (tgt := 141) hx hb dL_law_32 (by rw [g1]; decide) (by rw [g1]; decide) (by rw [g1]; rfl) (by decide) ?_
      obtain ⟨r, σ', τ', h1, h2, hR2⟩ := (hst.2.1 (xs (5 * k + 1)) (xs (5 * k + 2)) (xs (5 * k + 3)) (xs (5 * k + 4)))
      refine lv_aload_n hx hb dL_law_141 rfl (lv_at hl 2 rfl) ?_
      refine lw_arg 1 hL C0 (by omega) rfl hS hl dL_law_142 dL_law_143 dL_law_144 (by decide) dL_law_145 dL_law_146 ?_
      refine lw_arg 2 hL C0 (by omega) rfl hS hl dL_law_147 dL_law_148 dL_law_149 (by decide) dL_law_150 dL_law_151 ?_
      refine lw_arg 3 hL C0 (by omega) rfl hS hl dL_law_152 dL_law_153 dL_law_154 (by decide) dL_law_155 dL_law_156 ?_
      refine lw_arg 4 hL C0 (by omega) rfl hS hl dL_law_157 dL_law_158 dL_law_159 (by decide) dL_law_160 dL_law_161 ?_
      refine lw_callC (rest := []) hx hb hml hown hXX hP hS hl (cm_X9_road Γ l σ (xs (5 * k + 1)) (xs (5 * k + 2)) (xs (5 * k + 3)) (xs (5 * k + 4)) (r, σ') h1) ca_Y_X9_road ca_L_L_18 rfl rfl (Nat.le_of_ble_eq_true rfl) ⟨Nat.le_of_ble_eq_true rfl, Nat.le_of_ble_eq_true rfl⟩ dL_law_162 (fun H locs hP hS => ?_)
      refine lv_aload_n hx hb dL_law_165 rfl (lv_at hl 1 rfl) ?_
      refine lw_arg 1 hL C0 (by omega) rfl hS hl dL_law_166 dL_law_167 dL_law_168 (by decide) dL_law_169 dL_law_170 ?_
      refine lw_arg 2 hL C0 (by omega) rfl hS hl dL_law_171 dL_law_172 dL_law_173 (by decide) dL_law_174 dL_law_175 ?_
      refine lw_arg 3 hL C0 (by omega) rfl hS hl dL_law_176 dL_law_177 dL_law_178 (by decide) dL_law_179 dL_law_180 ?_
      refine lw_arg 4 hL C0 (by omega) rfl hS hl dL_law_181 dL_law_182 dL_law_183 (by decide) dL_law_184 dL_law_185 ?_
      refine lw_callM (rest := [.int r]) hx hb hml hown hXX hP hS hl (cm_X10_road Γ l τ (xs (5 * k + 1)) (xs (5 * k + 2)) (xs (5 * k + 3)) (xs (5 * k + 4)) (r, τ') h2) ca_Y_X10_road ca_L_L_22 rfl rfl (Nat.le_of_ble_eq_true rfl) ⟨Nat.le_of_ble_eq_true rfl, Nat.le_of_ble_eq_true rfl⟩ dL_law_186 (fun H locs hP hS => ?_)
      refine lv_icmp_eq (tgt := 668) hx hb dL_law_189 (by decide) (fun _ => ?_) (fun h => absurd rfl h)
      exact hnext H locs ls σ' τ' hP hS hl hR2
    by_cases g2 : x = 2
    · refine lv_tableIn (tgt := 194) hx hb dL_law_32 (by rw [g2]; decide) (by rw [g2]; decide) (by rw [g2]; rfl) (by decide) ?_
      obtain ⟨r, σ', τ', h1, h2, hR2⟩ := (hst.2.2.1 (xs (5 * k + 1)) (xs (5 * k + 2)))
      refine lv_aload_n hx hb dL_law_194 rfl (lv_at hl 2 rfl) ?_
      refine lw_arg 1 hL C0 (by omega) rfl hS hl dL_law_195 dL_law_196 dL_law_197 (by decide) dL_law_198 dL_law_199 ?_
      refine lw_arg 2 hL C0 (by omega) rfl hS hl dL_law_200 dL_law_201 dL_law_202 (by decide) dL_law_203 dL_law_204 ?_
      refine lw_callC (rest := []) hx hb hml hown hXX hP hS hl (cm_X9_rule Γ l σ (xs (5 * k + 1)) (xs (5 * k + 2)) (r, σ') h1) ca_Y_X9_rule ca_L_L_23 rfl rfl (Nat.le_of_ble_eq_true rfl) ⟨Nat.le_of_ble_eq_true rfl, Nat.le_of_ble_eq_true rfl⟩ dL_law_205 (fun H locs hP hS => ?_)
      refine lv_aload_n hx hb dL_law_208 rfl (lv_at hl 1 rfl) ?_
      refine lw_arg 1 hL C0 (by omega) rfl hS hl dL_law_209 dL_law_210 dL_law_211 (by decide) dL_law_212 dL_law_213 ?_
      refine lw_arg 2 hL C0 (by omega) rfl hS hl dL_law_214 dL_law_215 dL_law_216 (by decide) dL_law_217 dL_law_218 ?_
      refine lw_callM (rest := [.int r]) hx hb hml hown hXX hP hS hl (cm_X10_rule Γ l τ (xs (5 * k + 1)) (xs (5 * k + 2)) (r, τ') h2) ca_Y_X10_rule ca_L_L_27 rfl rfl (Nat.le_of_ble_eq_true rfl) ⟨Nat.le_of_ble_eq_true rfl, Nat.le_of_ble_eq_true rfl⟩ dL_law_219 (fun H locs hP hS => ?_)
      refine lv_icmp_eq (tgt := 668) hx hb dL_law_222 (by decide) (fun _ => ?_) (fun h => absurd rfl h)
      exact hnext H locs ls σ' τ' hP hS hl hR2
    by_cases g3 : x = 3
    · refine lv_tableIn (tgt := 227) hx hb dL_law_32 (by rw [g3]; decide) (by rw [g3]; decide) (by rw [g3]; rfl) (by decide) ?_
      obtain ⟨r, σ', τ', h1, h2, hR2⟩ := (hst.2.2.2.1 (xs (5 * k + 1)) (xs (5 * k + 2)) (xs (5 * k + 3)))
      refine lv_aload_n hx hb dL_law_227 rfl (lv_at hl 2 rfl) ?_
      refine lw_arg 1 hL C0 (by omega) rfl hS hl dL_law_228 dL_law_229 dL_law_230 (by decide) dL_law_231 dL_law_232 ?_
      refine lw_arg 2 hL C0 (by omega) rfl hS hl dL_law_233 dL_law_234 dL_law_235 (by decide) dL_law_236 dL_law_237 ?_
      refine lw_arg 3 hL C0 (by omega) rfl hS hl dL_law_238 dL_law_239 dL_law_240 (by decide) dL_law_241 dL_law_242 ?_
      refine lw_callC (rest := []) hx hb hml hown hXX hP hS hl (cm_X9_ask Γ l σ (xs (5 * k + 1)) (xs (5 * k + 2)) (xs (5 * k + 3)) (r, σ') h1) ca_Y_X9_ask ca_L_L_28 rfl rfl (Nat.le_of_ble_eq_true rfl) ⟨Nat.le_of_ble_eq_true rfl, Nat.le_of_ble_eq_true rfl⟩ dL_law_243 (fun H locs hP hS => ?_)
      refine lv_aload_n hx hb dL_law_246 rfl (lv_at hl 1 rfl) ?_
      refine lw_arg 1 hL C0 (by omega) rfl hS hl dL_law_247 dL_law_248 dL_law_249 (by decide) dL_law_250 dL_law_251 ?_
      refine lw_arg 2 hL C0 (by omega) rfl hS hl dL_law_252 dL_law_253 dL_law_254 (by decide) dL_law_255 dL_law_256 ?_
      refine lw_arg 3 hL C0 (by omega) rfl hS hl dL_law_257 dL_law_258 dL_law_259 (by decide) dL_law_260 dL_law_261 ?_
      refine lw_callM (rest := [.int r]) hx hb hml hown hXX hP hS hl (cm_X10_ask Γ l τ (xs (5 * k + 1)) (xs (5 * k + 2)) (xs (5 * k + 3)) (r, τ') h2) ca_Y_X10_ask ca_L_L_32 rfl rfl (Nat.le_of_ble_eq_true rfl) ⟨Nat.le_of_ble_eq_true rfl, Nat.le_of_ble_eq_true rfl⟩ dL_law_262 (fun H locs hP hS => ?_)
      refine lv_icmp_eq (tgt := 668) hx hb dL_law_265 (by decide) (fun _ => ?_) (fun h => absurd rfl h)
      exact hnext H locs ls σ' τ' hP hS hl hR2
    by_cases g4 : x = 4
    · refine lv_tableIn (tgt := 270) hx hb dL_law_32 (by rw [g4]; decide) (by rw [g4]; decide) (by rw [g4]; rfl) (by decide) ?_
      obtain ⟨r, σ', τ', h1, h2, hR2⟩ := (hst.2.2.2.2.1 (xs (5 * k + 1)) (xs (5 * k + 2)))
      refine lv_aload_n hx hb dL_law_270 rfl (lv_at hl 2 rfl) ?_
      refine lw_arg 1 hL C0 (by omega) rfl hS hl dL_law_271 dL_law_272 dL_law_273 (by decide) dL_law_274 dL_law_275 ?_
      refine lw_arg 2 hL C0 (by omega) rfl hS hl dL_law_276 dL_law_277 dL_law_278 (by decide) dL_law_279 dL_law_280 ?_
      refine lw_callC (rest := []) hx hb hml hown hXX hP hS hl (cm_X9_send Γ l σ (xs (5 * k + 1)) (xs (5 * k + 2)) (r, σ') h1) ca_Y_X9_send ca_L_L_33 rfl rfl (Nat.le_of_ble_eq_true rfl) ⟨Nat.le_of_ble_eq_true rfl, Nat.le_of_ble_eq_true rfl⟩ dL_law_281 (fun H locs hP hS => ?_)
      refine lv_aload_n hx hb dL_law_284 rfl (lv_at hl 1 rfl) ?_
      refine lw_arg 1 hL C0 (by omega) rfl hS hl dL_law_285 dL_law_286 dL_law_287 (by decide) dL_law_288 dL_law_289 ?_
      refine lw_arg 2 hL C0 (by omega) rfl hS hl dL_law_290 dL_law_291 dL_law_292 (by decide) dL_law_293 dL_law_294 ?_
      refine lw_callM (rest := [.int r]) hx hb hml hown hXX hP hS hl (cm_X10_send Γ l τ (xs (5 * k + 1)) (xs (5 * k + 2)) (r, τ') h2) ca_Y_X10_send ca_L_L_36 rfl rfl (Nat.le_of_ble_eq_true rfl) ⟨Nat.le_of_ble_eq_true rfl, Nat.le_of_ble_eq_true rfl⟩ dL_law_295 (fun H locs hP hS => ?_)
      refine lv_icmp_eq (tgt := 668) hx hb dL_law_298 (by decide) (fun _ => ?_) (fun h => absurd rfl h)
      exact hnext H locs ls σ' τ' hP hS hl hR2
    by_cases g5 : x = 5
    · refine lv_tableIn (tgt := 303) hx hb dL_law_32 (by rw [g5]; decide) (by rw [g5]; decide) (by rw [g5]; rfl) (by decide) ?_
      obtain ⟨r, σ', τ', h1, h2, hR2⟩ := (hst.2.2.2.2.2.1 (xs (5 * k + 1)))
      refine lv_aload_n hx hb dL_law_303 rfl (lv_at hl 2 rfl) ?_
      refine lw_arg 1 hL C0 (by omega) rfl hS hl dL_law_304 dL_law_305 dL_law_306 (by decide) dL_law_307 dL_law_308 ?_
      refine lw_callC (rest := []) hx hb hml hown hXX hP hS hl (cm_X9_ticks Γ l σ (xs (5 * k + 1)) (r, σ') h1) ca_Y_X9_ticks ca_L_L_37 rfl rfl (Nat.le_of_ble_eq_true rfl) ⟨Nat.le_of_ble_eq_true rfl, Nat.le_of_ble_eq_true rfl⟩ dL_law_309 (fun H locs hP hS => ?_)
      refine lv_aload_n hx hb dL_law_312 rfl (lv_at hl 1 rfl) ?_
      refine lw_arg 1 hL C0 (by omega) rfl hS hl dL_law_313 dL_law_314 dL_law_315 (by decide) dL_law_316 dL_law_317 ?_
      refine lw_callM (rest := [.int r]) hx hb hml hown hXX hP hS hl (cm_X10_ticks Γ l τ (xs (5 * k + 1)) (r, τ') h2) ca_Y_X10_ticks ca_L_L_41 rfl rfl (Nat.le_of_ble_eq_true rfl) ⟨Nat.le_of_ble_eq_true rfl, Nat.le_of_ble_eq_true rfl⟩ dL_law_318 (fun H locs hP hS => ?_)
      refine lv_icmp_eq (tgt := 668) hx hb dL_law_321 (by decide) (fun _ => ?_) (fun h => absurd rfl h)
      exact hnext H locs ls σ' τ' hP hS hl hR2
    by_cases g6 : x = 6
    · refine lv_tableIn (tgt := 326) hx hb dL_law_32 (by rw [g6]; decide) (by rw [g6]; decide) (by rw [g6]; rfl) (by decide) ?_
      obtain ⟨r, h1, h2, hR2⟩ := (hst.2.2.2.2.2.2.1 (xs (5 * k + 1)) (xs (5 * k + 2)) (xs (5 * k + 3)))
      refine lv_aload_n hx hb dL_law_326 rfl (lv_at hl 2 rfl) ?_
      refine lw_arg 1 hL C0 (by omega) rfl hS hl dL_law_327 dL_law_328 dL_law_329 (by decide) dL_law_330 dL_law_331 ?_
      refine lw_arg 2 hL C0 (by omega) rfl hS hl dL_law_332 dL_law_333 dL_law_334 (by decide) dL_law_335 dL_law_336 ?_
      refine lw_arg 3 hL C0 (by omega) rfl hS hl dL_law_337 dL_law_338 dL_law_339 (by decide) dL_law_340 dL_law_341 ?_
      refine lw_callC (rest := []) hx hb hml hown hXX hP hS hl (cm_X9_base Γ l σ (xs (5 * k + 1)) (xs (5 * k + 2)) (xs (5 * k + 3)) r h1) ca_Y_X9_base ca_L_L_42 rfl rfl (Nat.le_of_ble_eq_true rfl) ⟨Nat.le_of_ble_eq_true rfl, Nat.le_of_ble_eq_true rfl⟩ dL_law_342 (fun H locs hP hS => ?_)
      refine lv_aload_n hx hb dL_law_345 rfl (lv_at hl 1 rfl) ?_
      refine lw_arg 1 hL C0 (by omega) rfl hS hl dL_law_346 dL_law_347 dL_law_348 (by decide) dL_law_349 dL_law_350 ?_
      refine lw_arg 2 hL C0 (by omega) rfl hS hl dL_law_351 dL_law_352 dL_law_353 (by decide) dL_law_354 dL_law_355 ?_
      refine lw_arg 3 hL C0 (by omega) rfl hS hl dL_law_356 dL_law_357 dL_law_358 (by decide) dL_law_359 dL_law_360 ?_
      refine lw_callM (rest := [.int r]) hx hb hml hown hXX hP hS hl (cm_X10_base Γ l τ (xs (5 * k + 1)) (xs (5 * k + 2)) (xs (5 * k + 3)) r h2) ca_Y_X10_base ca_L_L_45 rfl rfl (Nat.le_of_ble_eq_true rfl) ⟨Nat.le_of_ble_eq_true rfl, Nat.le_of_ble_eq_true rfl⟩ dL_law_361 (fun H locs hP hS => ?_)
      refine lv_icmp_eq (tgt := 668) hx hb dL_law_364 (by decide) (fun _ => ?_) (fun h => absurd rfl h)
      exact hnext H locs ls σ τ hP hS hl hR2
    by_cases g7 : x = 7
    · refine lv_tableIn (tgt := 369) hx hb dL_law_32 (by rw [g7]; decide) (by rw [g7]; decide) (by rw [g7]; rfl) (by decide) ?_
      obtain ⟨r, h1, h2, hR2⟩ := (hst.2.2.2.2.2.2.2.1 (xs (5 * k + 1)) (xs (5 * k + 2)))
      refine lv_aload_n hx hb dL_law_369 rfl (lv_at hl 2 rfl) ?_
      refine lw_arg 1 hL C0 (by omega) rfl hS hl dL_law_370 dL_law_371 dL_law_372 (by decide) dL_law_373 dL_law_374 ?_
      refine lw_arg 2 hL C0 (by omega) rfl hS hl dL_law_375 dL_law_376 dL_law_377 (by decide) dL_law_378 dL_law_379 ?_
      refine lw_callC (rest := []) hx hb hml hown hXX hP hS hl (cm_X9_about Γ l σ (xs (5 * k + 1)) (xs (5 * k + 2)) r h1) ca_Y_X9_about ca_L_L_46 rfl rfl (Nat.le_of_ble_eq_true rfl) ⟨Nat.le_of_ble_eq_true rfl, Nat.le_of_ble_eq_true rfl⟩ dL_law_380 (fun H locs hP hS => ?_)
      refine lv_aload_n hx hb dL_law_383 rfl (lv_at hl 1 rfl) ?_
      refine lw_arg 1 hL C0 (by omega) rfl hS hl dL_law_384 dL_law_385 dL_law_386 (by decide) dL_law_387 dL_law_388 ?_
      refine lw_arg 2 hL C0 (by omega) rfl hS hl dL_law_389 dL_law_390 dL_law_391 (by decide) dL_law_392 dL_law_393 ?_
      refine lw_callM (rest := [.int r]) hx hb hml hown hXX hP hS hl (cm_X10_about Γ l τ (xs (5 * k + 1)) (xs (5 * k + 2)) r h2) ca_Y_X10_about ca_L_L_49 rfl rfl (Nat.le_of_ble_eq_true rfl) ⟨Nat.le_of_ble_eq_true rfl, Nat.le_of_ble_eq_true rfl⟩ dL_law_394 (fun H locs hP hS => ?_)
      refine lv_icmp_eq (tgt := 668) hx hb dL_law_397 (by decide) (fun _ => ?_) (fun h => absurd rfl h)
      exact hnext H locs ls σ τ hP hS hl hR2
    by_cases g8 : x = 8
    · refine lv_tableIn (tgt := 402) hx hb dL_law_32 (by rw [g8]; decide) (by rw [g8]; decide) (by rw [g8]; rfl) (by decide) ?_
      obtain ⟨r, h1, h2, hR2⟩ := (hst.2.2.2.2.2.2.2.2.1)
      refine lv_aload_n hx hb dL_law_402 rfl (lv_at hl 2 rfl) ?_
      refine lw_callC (rest := []) hx hb hml hown hXX hP hS hl (cm_X9_answers Γ l σ  r h1) ca_Y_X9_answers ca_L_L_50 rfl rfl (Nat.le_of_ble_eq_true rfl) ⟨Nat.le_of_ble_eq_true rfl, Nat.le_of_ble_eq_true rfl⟩ dL_law_403 (fun H locs hP hS => ?_)
      refine lv_aload_n hx hb dL_law_406 rfl (lv_at hl 1 rfl) ?_
      refine lw_callM (rest := [.int r]) hx hb hml hown hXX hP hS hl (cm_X10_answers Γ l τ  r h2) ca_Y_X10_answers ca_L_L_53 rfl rfl (Nat.le_of_ble_eq_true rfl) ⟨Nat.le_of_ble_eq_true rfl, Nat.le_of_ble_eq_true rfl⟩ dL_law_407 (fun H locs hP hS => ?_)
      refine lv_icmp_eq (tgt := 668) hx hb dL_law_410 (by decide) (fun _ => ?_) (fun h => absurd rfl h)
      exact hnext H locs ls σ τ hP hS hl hR2
    by_cases g9 : x = 9
    · refine lv_tableIn (tgt := 415) hx hb dL_law_32 (by rw [g9]; decide) (by rw [g9]; decide) (by rw [g9]; rfl) (by decide) ?_
      obtain ⟨r, h1, h2, hR2⟩ := (hst.2.2.2.2.2.2.2.2.2.1 (xs (5 * k + 1)))
      refine lv_aload_n hx hb dL_law_415 rfl (lv_at hl 2 rfl) ?_
      refine lw_arg 1 hL C0 (by omega) rfl hS hl dL_law_416 dL_law_417 dL_law_418 (by decide) dL_law_419 dL_law_420 ?_
      refine lw_callC (rest := []) hx hb hml hown hXX hP hS hl (cm_X9_share Γ l σ (xs (5 * k + 1)) r h1) ca_Y_X9_share ca_L_L_54 rfl rfl (Nat.le_of_ble_eq_true rfl) ⟨Nat.le_of_ble_eq_true rfl, Nat.le_of_ble_eq_true rfl⟩ dL_law_421 (fun H locs hP hS => ?_)
      refine lv_aload_n hx hb dL_law_424 rfl (lv_at hl 1 rfl) ?_
      refine lw_arg 1 hL C0 (by omega) rfl hS hl dL_law_425 dL_law_426 dL_law_427 (by decide) dL_law_428 dL_law_429 ?_
      refine lw_callM (rest := [.int r]) hx hb hml hown hXX hP hS hl (cm_X10_share Γ l τ (xs (5 * k + 1)) r h2) ca_Y_X10_share ca_L_L_57 rfl rfl (Nat.le_of_ble_eq_true rfl) ⟨Nat.le_of_ble_eq_true rfl, Nat.le_of_ble_eq_true rfl⟩ dL_law_430 (fun H locs hP hS => ?_)
      refine lv_icmp_eq (tgt := 668) hx hb dL_law_433 (by decide) (fun _ => ?_) (fun h => absurd rfl h)
      exact hnext H locs ls σ τ hP hS hl hR2
    by_cases g10 : x = 10
    · refine lv_tableIn (tgt := 438) hx hb dL_law_32 (by rw [g10]; decide) (by rw [g10]; decide) (by rw [g10]; rfl) (by decide) ?_
      obtain ⟨r, σ', τ', h1, h2, hR2⟩ := (hst.2.2.2.2.2.2.2.2.2.2.1 (xs (5 * k + 1)))
      refine lv_aload_n hx hb dL_law_438 rfl (lv_at hl 2 rfl) ?_
      refine lw_arg 1 hL C0 (by omega) rfl hS hl dL_law_439 dL_law_440 dL_law_441 (by decide) dL_law_442 dL_law_443 ?_
      refine lw_callC (rest := []) hx hb hml hown hXX hP hS hl (cm_X9_number Γ l σ (xs (5 * k + 1)) (r, σ') h1) ca_Y_X9_number ca_L_L_58 rfl rfl (Nat.le_of_ble_eq_true rfl) ⟨Nat.le_of_ble_eq_true rfl, Nat.le_of_ble_eq_true rfl⟩ dL_law_444 (fun H locs hP hS => ?_)
      refine lv_aload_n hx hb dL_law_447 rfl (lv_at hl 1 rfl) ?_
      refine lw_arg 1 hL C0 (by omega) rfl hS hl dL_law_448 dL_law_449 dL_law_450 (by decide) dL_law_451 dL_law_452 ?_
      refine lw_callM (rest := [.int r]) hx hb hml hown hXX hP hS hl (cm_X10_number Γ l τ (xs (5 * k + 1)) (r, τ') h2) ca_Y_X10_number ca_L_L_61 rfl rfl (Nat.le_of_ble_eq_true rfl) ⟨Nat.le_of_ble_eq_true rfl, Nat.le_of_ble_eq_true rfl⟩ dL_law_453 (fun H locs hP hS => ?_)
      refine lv_icmp_eq (tgt := 668) hx hb dL_law_456 (by decide) (fun _ => ?_) (fun h => absurd rfl h)
      exact hnext H locs ls σ' τ' hP hS hl hR2
    by_cases g11 : x = 11
    · refine lv_tableIn (tgt := 461) hx hb dL_law_32 (by rw [g11]; decide) (by rw [g11]; decide) (by rw [g11]; rfl) (by decide) ?_
      obtain ⟨r, σ', h1, h2, hR2⟩ := (hst.2.2.2.2.2.2.2.2.2.2.2.1 (xs (5 * k + 1)))
      refine lv_aload_n hx hb dL_law_461 rfl (lv_at hl 2 rfl) ?_
      refine lw_arg 1 hL C0 (by omega) rfl hS hl dL_law_462 dL_law_463 dL_law_464 (by decide) dL_law_465 dL_law_466 ?_
      refine lw_callC (rest := []) hx hb hml hown hXX hP hS hl (cm_X9_order Γ l σ (xs (5 * k + 1)) (r, σ') h1) ca_Y_X9_order ca_L_L_62 rfl rfl (Nat.le_of_ble_eq_true rfl) ⟨Nat.le_of_ble_eq_true rfl, Nat.le_of_ble_eq_true rfl⟩ dL_law_467 (fun H locs hP hS => ?_)
      refine lv_aload_n hx hb dL_law_470 rfl (lv_at hl 1 rfl) ?_
      refine lw_arg 1 hL C0 (by omega) rfl hS hl dL_law_471 dL_law_472 dL_law_473 (by decide) dL_law_474 dL_law_475 ?_
      refine lw_callM (rest := [.int r]) hx hb hml hown hXX hP hS hl (cm_X10_order Γ l τ (xs (5 * k + 1)) r h2) ca_Y_X10_order ca_L_L_65 rfl rfl (Nat.le_of_ble_eq_true rfl) ⟨Nat.le_of_ble_eq_true rfl, Nat.le_of_ble_eq_true rfl⟩ dL_law_476 (fun H locs hP hS => ?_)
      refine lv_icmp_eq (tgt := 668) hx hb dL_law_479 (by decide) (fun _ => ?_) (fun h => absurd rfl h)
      exact hnext H locs ls σ' τ hP hS hl hR2
    by_cases g12 : x = 12
    · refine lv_tableIn (tgt := 484) hx hb dL_law_32 (by rw [g12]; decide) (by rw [g12]; decide) (by rw [g12]; rfl) (by decide) ?_
      obtain ⟨r, σ', τ', h1, h2, hR2⟩ := (hst.2.2.2.2.2.2.2.2.2.2.2.2.1 (xs (5 * k + 1)))
      refine lv_aload_n hx hb dL_law_484 rfl (lv_at hl 2 rfl) ?_
      refine lw_arg 1 hL C0 (by omega) rfl hS hl dL_law_485 dL_law_486 dL_law_487 (by decide) dL_law_488 dL_law_489 ?_
      refine lw_callC (rest := []) hx hb hml hown hXX hP hS hl (cm_X9_close Γ l σ (xs (5 * k + 1)) (r, σ') h1) ca_Y_X9_close ca_L_L_66 rfl rfl (Nat.le_of_ble_eq_true rfl) ⟨Nat.le_of_ble_eq_true rfl, Nat.le_of_ble_eq_true rfl⟩ dL_law_490 (fun H locs hP hS => ?_)
      refine lv_aload_n hx hb dL_law_493 rfl (lv_at hl 1 rfl) ?_
      refine lw_arg 1 hL C0 (by omega) rfl hS hl dL_law_494 dL_law_495 dL_law_496 (by decide) dL_law_497 dL_law_498 ?_
      refine lw_callM (rest := [.int r]) hx hb hml hown hXX hP hS hl (cm_X10_close Γ l τ (xs (5 * k + 1)) (r, τ') h2) ca_Y_X10_close ca_L_L_69 rfl rfl (Nat.le_of_ble_eq_true rfl) ⟨Nat.le_of_ble_eq_true rfl, Nat.le_of_ble_eq_true rfl⟩ dL_law_499 (fun H locs hP hS => ?_)
      refine lv_icmp_eq (tgt := 668) hx hb dL_law_502 (by decide) (fun _ => ?_) (fun h => absurd rfl h)
      exact hnext H locs ls σ' τ' hP hS hl hR2
    by_cases g13 : x = 13
    · refine lv_tableIn (tgt := 507) hx hb dL_law_32 (by rw [g13]; decide) (by rw [g13]; decide) (by rw [g13]; rfl) (by decide) ?_
      obtain ⟨r, h1, h2, hR2⟩ := (hst.2.2.2.2.2.2.2.2.2.2.2.2.2.1 (xs (5 * k + 1)) (xs (5 * k + 2)))
      refine lv_aload_n hx hb dL_law_507 rfl (lv_at hl 2 rfl) ?_
      refine lw_arg 1 hL C0 (by omega) rfl hS hl dL_law_508 dL_law_509 dL_law_510 (by decide) dL_law_511 dL_law_512 ?_
      refine lw_arg 2 hL C0 (by omega) rfl hS hl dL_law_513 dL_law_514 dL_law_515 (by decide) dL_law_516 dL_law_517 ?_
      refine lw_callC (rest := []) hx hb hml hown hXX hP hS hl (cm_X9_book Γ l σ (xs (5 * k + 1)) (xs (5 * k + 2)) r h1) ca_Y_X9_book ca_L_L_70 rfl rfl (Nat.le_of_ble_eq_true rfl) ⟨Nat.le_of_ble_eq_true rfl, Nat.le_of_ble_eq_true rfl⟩ dL_law_518 (fun H locs hP hS => ?_)
      refine lv_aload_n hx hb dL_law_521 rfl (lv_at hl 1 rfl) ?_
      refine lw_arg 1 hL C0 (by omega) rfl hS hl dL_law_522 dL_law_523 dL_law_524 (by decide) dL_law_525 dL_law_526 ?_
      refine lw_arg 2 hL C0 (by omega) rfl hS hl dL_law_527 dL_law_528 dL_law_529 (by decide) dL_law_530 dL_law_531 ?_
      refine lw_callM (rest := [.int r]) hx hb hml hown hXX hP hS hl (cm_X10_book Γ l τ (xs (5 * k + 1)) (xs (5 * k + 2)) r h2) ca_Y_X10_book ca_L_L_73 rfl rfl (Nat.le_of_ble_eq_true rfl) ⟨Nat.le_of_ble_eq_true rfl, Nat.le_of_ble_eq_true rfl⟩ dL_law_532 (fun H locs hP hS => ?_)
      refine lv_icmp_eq (tgt := 668) hx hb dL_law_535 (by decide) (fun _ => ?_) (fun h => absurd rfl h)
      exact hnext H locs ls σ τ hP hS hl hR2
    by_cases g14 : x = 14
    · refine lv_tableIn (tgt := 540) hx hb dL_law_32 (by rw [g14]; decide) (by rw [g14]; decide) (by rw [g14]; rfl) (by decide) ?_
      obtain ⟨r, h1, h2, hR2⟩ := (hst.2.2.2.2.2.2.2.2.2.2.2.2.2.2.1 (xs (5 * k + 1)))
      refine lv_aload_n hx hb dL_law_540 rfl (lv_at hl 2 rfl) ?_
      refine lw_arg 1 hL C0 (by omega) rfl hS hl dL_law_541 dL_law_542 dL_law_543 (by decide) dL_law_544 dL_law_545 ?_
      refine lw_callC (rest := []) hx hb hml hown hXX hP hS hl (cm_X9_marks Γ l σ (xs (5 * k + 1)) r h1) ca_Y_X9_marks ca_L_L_74 rfl rfl (Nat.le_of_ble_eq_true rfl) ⟨Nat.le_of_ble_eq_true rfl, Nat.le_of_ble_eq_true rfl⟩ dL_law_546 (fun H locs hP hS => ?_)
      refine lv_aload_n hx hb dL_law_549 rfl (lv_at hl 1 rfl) ?_
      refine lw_arg 1 hL C0 (by omega) rfl hS hl dL_law_550 dL_law_551 dL_law_552 (by decide) dL_law_553 dL_law_554 ?_
      refine lw_callM (rest := [.int r]) hx hb hml hown hXX hP hS hl (cm_X10_marks Γ l τ (xs (5 * k + 1)) r h2) ca_Y_X10_marks ca_L_L_77 rfl rfl (Nat.le_of_ble_eq_true rfl) ⟨Nat.le_of_ble_eq_true rfl, Nat.le_of_ble_eq_true rfl⟩ dL_law_555 (fun H locs hP hS => ?_)
      refine lv_icmp_eq (tgt := 668) hx hb dL_law_558 (by decide) (fun _ => ?_) (fun h => absurd rfl h)
      exact hnext H locs ls σ τ hP hS hl hR2
    by_cases g15 : x = 15
    · refine lv_tableIn (tgt := 563) hx hb dL_law_32 (by rw [g15]; decide) (by rw [g15]; decide) (by rw [g15]; rfl) (by decide) ?_
      obtain ⟨r, h1, h2, hR2⟩ := (hst.2.2.2.2.2.2.2.2.2.2.2.2.2.2.2.1 (xs (5 * k + 1)) (xs (5 * k + 2)))
      refine lv_aload_n hx hb dL_law_563 rfl (lv_at hl 2 rfl) ?_
      refine lw_arg 1 hL C0 (by omega) rfl hS hl dL_law_564 dL_law_565 dL_law_566 (by decide) dL_law_567 dL_law_568 ?_
      refine lw_arg 2 hL C0 (by omega) rfl hS hl dL_law_569 dL_law_570 dL_law_571 (by decide) dL_law_572 dL_law_573 ?_
      refine lw_callC (rest := []) hx hb hml hown hXX hP hS hl (cm_X9_teams Γ l σ (xs (5 * k + 1)) (xs (5 * k + 2)) r h1) ca_Y_X9_teams ca_L_L_78 rfl rfl (Nat.le_of_ble_eq_true rfl) ⟨Nat.le_of_ble_eq_true rfl, Nat.le_of_ble_eq_true rfl⟩ dL_law_574 (fun H locs hP hS => ?_)
      refine lv_aload_n hx hb dL_law_577 rfl (lv_at hl 1 rfl) ?_
      refine lw_arg 1 hL C0 (by omega) rfl hS hl dL_law_578 dL_law_579 dL_law_580 (by decide) dL_law_581 dL_law_582 ?_
      refine lw_arg 2 hL C0 (by omega) rfl hS hl dL_law_583 dL_law_584 dL_law_585 (by decide) dL_law_586 dL_law_587 ?_
      refine lw_callM (rest := [.int r]) hx hb hml hown hXX hP hS hl (cm_X10_teams Γ l τ (xs (5 * k + 1)) (xs (5 * k + 2)) r h2) ca_Y_X10_teams ca_L_L_81 rfl rfl (Nat.le_of_ble_eq_true rfl) ⟨Nat.le_of_ble_eq_true rfl, Nat.le_of_ble_eq_true rfl⟩ dL_law_588 (fun H locs hP hS => ?_)
      refine lv_icmp_eq (tgt := 668) hx hb dL_law_591 (by decide) (fun _ => ?_) (fun h => absurd rfl h)
      exact hnext H locs ls σ τ hP hS hl hR2
    by_cases g16 : x = 16
    · refine lv_tableIn (tgt := 596) hx hb dL_law_32 (by rw [g16]; decide) (by rw [g16]; decide) (by rw [g16]; rfl) (by decide) ?_
      obtain ⟨r, h1, h2, hR2⟩ := (hst.2.2.2.2.2.2.2.2.2.2.2.2.2.2.2.2.1)
      refine lv_aload_n hx hb dL_law_596 rfl (lv_at hl 2 rfl) ?_
      refine lw_callC (rest := []) hx hb hml hown hXX hP hS hl (cm_X9_best Γ l σ  r h1) ca_Y_X9_best ca_L_L_82 rfl rfl (Nat.le_of_ble_eq_true rfl) ⟨Nat.le_of_ble_eq_true rfl, Nat.le_of_ble_eq_true rfl⟩ dL_law_597 (fun H locs hP hS => ?_)
      refine lv_aload_n hx hb dL_law_600 rfl (lv_at hl 1 rfl) ?_
      refine lw_callM (rest := [.int r]) hx hb hml hown hXX hP hS hl (cm_X10_best Γ l τ  r h2) ca_Y_X10_best ca_L_L_85 rfl rfl (Nat.le_of_ble_eq_true rfl) ⟨Nat.le_of_ble_eq_true rfl, Nat.le_of_ble_eq_true rfl⟩ dL_law_601 (fun H locs hP hS => ?_)
      refine lv_icmp_eq (tgt := 668) hx hb dL_law_604 (by decide) (fun _ => ?_) (fun h => absurd rfl h)
      exact hnext H locs ls σ τ hP hS hl hR2
    by_cases g17 : x = 17
    · refine lv_tableIn (tgt := 609) hx hb dL_law_32 (by rw [g17]; decide) (by rw [g17]; decide) (by rw [g17]; rfl) (by decide) ?_
      obtain ⟨r, σ', τ', h1, h2, hR2⟩ := (hst.2.2.2.2.2.2.2.2.2.2.2.2.2.2.2.2.2.1 (xs (5 * k + 1)))
      refine lv_aload_n hx hb dL_law_609 rfl (lv_at hl 2 rfl) ?_
      refine lw_arg 1 hL C0 (by omega) rfl hS hl dL_law_610 dL_law_611 dL_law_612 (by decide) dL_law_613 dL_law_614 ?_
      refine lw_callC (rest := []) hx hb hml hown hXX hP hS hl (cm_X9_seed Γ l σ (xs (5 * k + 1)) (r, σ') h1) ca_Y_X9_seed ca_L_L_86 rfl rfl (Nat.le_of_ble_eq_true rfl) ⟨Nat.le_of_ble_eq_true rfl, Nat.le_of_ble_eq_true rfl⟩ dL_law_615 (fun H locs hP hS => ?_)
      refine lv_aload_n hx hb dL_law_618 rfl (lv_at hl 1 rfl) ?_
      refine lw_arg 1 hL C0 (by omega) rfl hS hl dL_law_619 dL_law_620 dL_law_621 (by decide) dL_law_622 dL_law_623 ?_
      refine lw_callM (rest := [.int r]) hx hb hml hown hXX hP hS hl (cm_X10_seed Γ l τ (xs (5 * k + 1)) (r, τ') h2) ca_Y_X10_seed ca_L_L_89 rfl rfl (Nat.le_of_ble_eq_true rfl) ⟨Nat.le_of_ble_eq_true rfl, Nat.le_of_ble_eq_true rfl⟩ dL_law_624 (fun H locs hP hS => ?_)
      refine lv_icmp_eq (tgt := 668) hx hb dL_law_627 (by decide) (fun _ => ?_) (fun h => absurd rfl h)
      exact hnext H locs ls σ' τ' hP hS hl hR2
    by_cases g18 : x = 18
    · refine lv_tableIn (tgt := 632) hx hb dL_law_32 (by rw [g18]; decide) (by rw [g18]; decide) (by rw [g18]; rfl) (by decide) ?_
      obtain ⟨r, σ', τ', h1, h2, hR2⟩ := (hst.2.2.2.2.2.2.2.2.2.2.2.2.2.2.2.2.2.2.1)
      refine lv_aload_n hx hb dL_law_632 rfl (lv_at hl 2 rfl) ?_
      refine lw_callC (rest := []) hx hb hml hown hXX hP hS hl (cm_X9_draw Γ l σ  (r, σ') h1) ca_Y_X9_draw ca_L_L_90 rfl rfl (Nat.le_of_ble_eq_true rfl) ⟨Nat.le_of_ble_eq_true rfl, Nat.le_of_ble_eq_true rfl⟩ dL_law_633 (fun H locs hP hS => ?_)
      refine lv_aload_n hx hb dL_law_636 rfl (lv_at hl 1 rfl) ?_
      refine lw_callM (rest := [.int r]) hx hb hml hown hXX hP hS hl (cm_X10_draw Γ l τ  (r, τ') h2) ca_Y_X10_draw ca_L_L_93 rfl rfl (Nat.le_of_ble_eq_true rfl) ⟨Nat.le_of_ble_eq_true rfl, Nat.le_of_ble_eq_true rfl⟩ dL_law_637 (fun H locs hP hS => ?_)
      refine lv_icmp_eq (tgt := 668) hx hb dL_law_640 (by decide) (fun _ => ?_) (fun h => absurd rfl h)
      exact hnext H locs ls σ' τ' hP hS hl hR2
    by_cases g19 : x = 19
    · refine lv_tableIn (tgt := 645) hx hb dL_law_32 (by rw [g19]; decide) (by rw [g19]; decide) (by rw [g19]; rfl) (by decide) ?_
      obtain ⟨r, h1, h2, hR2⟩ := (hst.2.2.2.2.2.2.2.2.2.2.2.2.2.2.2.2.2.2.2.1 (xs (5 * k + 1)))
      refine lv_aload_n hx hb dL_law_645 rfl (lv_at hl 2 rfl) ?_
      refine lw_arg 1 hL C0 (by omega) rfl hS hl dL_law_646 dL_law_647 dL_law_648 (by decide) dL_law_649 dL_law_650 ?_
      refine lw_callC (rest := []) hx hb hml hown hXX hP hS hl (cm_X9_count Γ l σ (xs (5 * k + 1)) r h1) ca_Y_X9_count ca_L_L_94 rfl rfl (Nat.le_of_ble_eq_true rfl) ⟨Nat.le_of_ble_eq_true rfl, Nat.le_of_ble_eq_true rfl⟩ dL_law_651 (fun H locs hP hS => ?_)
      refine lv_aload_n hx hb dL_law_654 rfl (lv_at hl 1 rfl) ?_
      refine lw_arg 1 hL C0 (by omega) rfl hS hl dL_law_655 dL_law_656 dL_law_657 (by decide) dL_law_658 dL_law_659 ?_
      refine lw_callM (rest := [.int r]) hx hb hml hown hXX hP hS hl (cm_X10_count Γ l τ (xs (5 * k + 1)) r h2) ca_Y_X10_count ca_L_L_97 rfl rfl (Nat.le_of_ble_eq_true rfl) ⟨Nat.le_of_ble_eq_true rfl, Nat.le_of_ble_eq_true rfl⟩ dL_law_660 (fun H locs hP hS => ?_)
      refine lv_icmp_eq (tgt := 668) hx hb dL_law_663 (by decide) (fun _ => ?_) (fun h => absurd rfl h)
      exact hnext H locs ls σ τ hP hS hl hR2
    have hout : ∀ z : Int, 0 ≤ z → z ≤ 19 → x ≠ Int32.ofInt z := fun z z1 z2 => by
      rcases (show z = 0 ∨ z = 1 ∨ z = 2 ∨ z = 3 ∨ z = 4 ∨ z = 5 ∨ z = 6 ∨ z = 7 ∨ z = 8 ∨ z = 9 ∨ z = 10 ∨ z = 11 ∨ z = 12 ∨ z = 13 ∨ z = 14 ∨ z = 15 ∨ z = 16 ∨ z = 17 ∨ z = 18 ∨ z = 19 by omega) with rfl | rfl | rfl | rfl | rfl | rfl | rfl | rfl | rfl | rfl | rfl | rfl | rfl | rfl | rfl | rfl | rfl | rfl | rfl | rfl <;> assumption
    refine lv_tableOut (tgt := 668) hx hb dL_law_32 ?_ (by decide) (hnext H locs ls σ τ hP hS hl (hst.2.2.2.2.2.2.2.2.2.2.2.2.2.2.2.2.2.2.2.2))
    by_cases z1 : x.toInt < 0
    · exact Or.inl z1
    · by_cases z2 : 19 < x.toInt
      · exact Or.inr z2
      · exact absurd (Int32.ofInt_toInt x).symm (hout x.toInt (Int.not_lt.mp z1) (Int.not_lt.mp z2))
theorem ca_cC_nd : ca_cC.Nodup := by decide +kernel
theorem ca_cM_nd : ca_cM.Nodup := by decide +kernel
theorem ca_offC : ∀ c ∈ ca_cC, ∀ d ∈ ca_cC, ca_off c = ca_off d → c = d := by decide +kernel
theorem ca_offM : ∀ c ∈ ca_cM, ∀ d ∈ ca_cM, ca_off c = ca_off d → c = d := by decide +kernel
theorem ca_offC_lt : ∀ c ∈ ca_cC, ca_off c < 155 := by decide +kernel
theorem ca_offM_ge : ∀ c ∈ ca_cM, 155 ≤ ca_off c := by decide +kernel
theorem ca_E0_E {Γ : ca_G} {H : Heap} {c : ca_I} {lk : List (ca_I × Nat)} (hr : ∀ k, k < 32 → (ca_rf c k).isSome = true → (c, k) ∈ lk) (hch : ∀ q, ca_ra c.1 = some q → ∀ i, i < q.2 → (c, i) ∈ lk) (hN : ∀ q, ca_ob c.1 = some q → q.2 ≤ 32) (h : va_at Γ.1 vwCl (Γ.2.1 c, ca_E0 Γ lk c) H) : va_at Γ.1 vwCl (Γ.2.1 c, ca_E Γ (fun _ _ => 0, 0) c) H := by
  cases ho : ca_ob c.1 with
  | some q =>
    have e : ca_E Γ (fun _ _ => 0, 0) c = ca_E0 Γ lk c := by
      simp only [ca_E, ca_E0, ho]
      congr 2
      apply List.map_congr_left
      intro k hk
      have hk32 : k < 32 := Nat.lt_of_lt_of_le (List.mem_range.mp hk) (hN q ho)
      unfold ca_fv ca_fv0
      cases hk2 : ca_rf c k with
      | none => rfl
      | some d =>
        have := hr k hk32 (by rw [hk2]; rfl)
        simp [this]
    rw [e]
    exact h
  | none =>
    cases ha : ca_ra c.1 with
    | some q =>
      simp only [ca_E0, ho, ha] at h
      simp only [ca_E, ho, ha]
      have h : H[Γ.2.1 c]? = some (vp_cell _ _) := h
      show H[Γ.2.1 c]? = some (vp_cell _ _)
      rw [h, vp_cell_q, vp_cell_q]
      congr 1
      unfold arrV
      congr 1
      apply Array.ext
      · simp
      · intro i h1 h2
        have hi : i < q.2 := by simpa using h1
        simp [hch q ha i hi]
    | none =>
      simp only [ca_E0, ho, ha] at h
      simp only [ca_E, ho, ha]
      exact h
theorem ca_NW_all {Γ : ca_G} {b0 : Nat} {cs ds : List ca_I} {lk : List (ca_I × Nat)} {bs : Nat} {H : Heap} (hN : ca_NW Γ b0 cs lk bs H) (h : ∀ c ∈ ds, c ∈ cs ∧ (∀ k, k < 32 → (ca_rf c k).isSome = true → (c, k) ∈ lk) ∧ (∀ q, ca_ra c.1 = some q → ∀ i, i < q.2 → (c, i) ∈ lk) ∧ (∀ q, ca_ob c.1 = some q → q.2 ≤ 32)) : va_P Γ.1 vwCl (ca_lay Γ ds (fun _ _ => 0, 0)) H := by
  intro k x hx
  simp only [ca_lay, List.getElem?_map] at hx
  cases hc : ds[k]? with
  | none => rw [hc] at hx; cases hx
  | some c =>
    rw [hc] at hx
    cases hx
    obtain ⟨h1, h2, h3, h4⟩ := h c (List.mem_of_getElem? hc)
    obtain ⟨j, hj⟩ := List.getElem?_of_mem h1
    exact ca_E0_E h2 h3 h4 (hN.1 j _ (ca_lay0_at hj))
def cb_csA : List ca_I := ((((((((((((((((((((cb_cs 16 ++ [(20, 0, 0)]) ++ [(21, 2, 0)]) ++ [(21, 3, 0)]) ++ [(21, 4, 0)]) ++ [(21, 5, 0)]) ++ [(21, 12, 0)]) ++ [(21, 13, 0)]) ++ [(21, 14, 0)]) ++ [(21, 15, 0)]) ++ [(21, 16, 0)]) ++ [(21, 17, 0)]) ++ [(21, 18, 0)]) ++ [(21, 19, 0)]) ++ [(21, 21, 0)]) ++ [(21, 22, 0)]) ++ [(21, 23, 0)]) ++ [(21, 24, 0)]) ++ [(21, 25, 0)]) ++ [(21, 28, 0)]) ++ [(21, 31, 0)])
def cb_lkA : List (ca_I × Nat) := (((((((((((((((((((cb_lk 16 ++ [((20, 0, 0), 2)]) ++ [((20, 0, 0), 3)]) ++ [((20, 0, 0), 4)]) ++ [((20, 0, 0), 5)]) ++ [((20, 0, 0), 12)]) ++ [((20, 0, 0), 13)]) ++ [((20, 0, 0), 14)]) ++ [((20, 0, 0), 15)]) ++ [((20, 0, 0), 16)]) ++ [((20, 0, 0), 17)]) ++ [((20, 0, 0), 18)]) ++ [((20, 0, 0), 19)]) ++ [((20, 0, 0), 21)]) ++ [((20, 0, 0), 22)]) ++ [((20, 0, 0), 23)]) ++ [((20, 0, 0), 24)]) ++ [((20, 0, 0), 25)]) ++ [((20, 0, 0), 28)]) ++ [((20, 0, 0), 31)])
theorem ca_okA : ∀ c ∈ ca_cC ++ ca_cM, c ∈ cb_csA ∧ ((List.range 32).all (fun k => !(ca_rf c k).isSome || decide ((c, k) ∈ cb_lkA))) = true ∧ (match ca_ra c.1 with | some q => (List.range q.2).all (fun i => decide ((c, i) ∈ cb_lkA)) | none => true) = true ∧ (match ca_ob c.1 with | some q => decide (q.2 ≤ 32) | none => true) = true := by decide +kernel
theorem ca_ok_of {c : ca_I} {lk : List (ca_I × Nat)} (h2 : ((List.range 32).all (fun k => !(ca_rf c k).isSome || decide ((c, k) ∈ lk))) = true) (h3 : (match ca_ra c.1 with | some q => (List.range q.2).all (fun i => decide ((c, i) ∈ lk)) | none => true) = true) (h4 : (match ca_ob c.1 with | some q => decide (q.2 ≤ 32) | none => true) = true) : (∀ k, k < 32 → (ca_rf c k).isSome = true → (c, k) ∈ lk) ∧ (∀ q, ca_ra c.1 = some q → ∀ i, i < q.2 → (c, i) ∈ lk) ∧ (∀ q, ca_ob c.1 = some q → q.2 ≤ 32) := by
  refine ⟨fun k hk hs => ?_, fun q hq i hi => ?_, fun q hq => ?_⟩
  · have := List.all_eq_true.mp h2 k (List.mem_range.mpr hk)
    rw [hs] at this
    simpa using this
  · rw [hq] at h3
    have := List.all_eq_true.mp h3 i (List.mem_range.mpr hi)
    simpa using this
  · rw [hq] at h4
    simpa using h4
set_option maxHeartbeats 8000000 in
set_option maxRecDepth 100000 in
/-- the law from its entry, over a simulation -/
theorem whole_sim {R : Nat → ca_S → ca_S → Prop} (hSim : ca_Step R) (hR0 : R 0 (fun _ _ => 0, 0) (fun _ _ => 0, 0)) {p : Program} {e : Env} {s : State} {m : MethodId} {below : List Frame} {meth : Method} {c : Code} (l : Launch) {b L : Nat} {xs : Nat → Int32} (hL : L ≤ 2560) (C0 : lw_At p s m meth c b L xs) : W p l e room_1 s m #[Value.ref b] below meth c s.heap [] 0 0 (lw_Z below #[Value.ref b] s) (entryFrame m ([Value.ref b] : List Value).toArray 4) := by
  obtain ⟨hx, hb, hr, hml, hown, hts, hXs, hbl, hlocks, hgv⟩ := id C0
  have hWs : ca_Ws s := fun w hw hk => by
    have h1 := hts w hw
    unfold ca_ok at hk
    rcases (Bool.or_eq_true _ _).mp hk with hg | hn
    · exact word_at (State.WarmedH.refl s) (good_of_word hg) h1
    · cases w <;> first | exact va_Nw.of rfl h1 | (simp at hn)
  obtain ⟨c0, iS0, hKn0⟩ := u_known (C := RX0) (T := TX0) (N := 7) (n := 7) hts ca_inX0 (hts _ ca_w187.1)
  obtain ⟨c1, iS1, hKn1⟩ := u_known (C := RX1) (T := TX1) (N := 4) (n := 4) hts ca_inX1 (hts _ ca_w166.1)
  obtain ⟨c2, iS2, hKn2⟩ := u_known (C := RX2) (T := TX2) (N := 3) (n := 3) hts ca_inX2 (hts _ ca_w212.1)
  obtain ⟨c3, iS3, hKn3⟩ := u_known (C := RX3) (T := TX3) (N := 2) (n := 2) hts ca_inX3 (hts _ ca_w115.1)
  obtain ⟨c4, iS4, hKn4⟩ := u_known (C := RX4) (T := TX4) (N := 2) (n := 2) hts ca_inX4 (hts _ ca_w132.1)
  obtain ⟨c5, iS5, hKn5⟩ := u_known (C := RX5) (T := TX5) (N := 4) (n := 4) hts ca_inX5 (hts _ ca_w145.1)
  obtain ⟨c6, iS6, hKn6⟩ := u_known (C := RX6) (T := TX6) (N := 7) (n := 7) hts ca_inX6 (hts _ ca_w85.1)
  obtain ⟨c7, iS7, hKn7⟩ := u_known (C := RX7) (T := TX7) (N := 4) (n := 4) hts ca_inX7 (hts _ ca_w62.1)
  obtain ⟨c8, iS8, hKn8⟩ := u_known (C := RX8) (T := TX8) (N := 3) (n := 3) hts ca_inX8 (hts _ ca_w196.1)
  obtain ⟨c9, iS9, hKn9⟩ := u_known (C := RX9) (T := TX9) (N := 12) (n := 12) hts ca_inX9 (hts _ ca_w52.1)
  obtain ⟨c10, iS10, hKn10⟩ := u_known (C := RX10) (T := TX10) (N := 32) (n := 32) hts ca_inX10 (hts _ ca_w608.1)
  obtain ⟨dC, dI, hKc⟩ : ∃ (dC : Nat → ClassId) (dI : Nat → Nat → Nat), ∀ (k : Nat) (q : vw_C), vwCl[k]? = some q → u_Kn s q.1 q.2.1 q.2.2 (dC k) (dI k) := by
    refine ⟨fun k => if k = 0 then c0 else if k = 1 then c1 else if k = 2 then c2 else if k = 3 then c3 else if k = 4 then c4 else if k = 5 then c5 else if k = 6 then c6 else if k = 7 then c7 else if k = 8 then c8 else if k = 9 then c9 else c10, fun k => if k = 0 then iS0 else if k = 1 then iS1 else if k = 2 then iS2 else if k = 3 then iS3 else if k = 4 then iS4 else if k = 5 then iS5 else if k = 6 then iS6 else if k = 7 then iS7 else if k = 8 then iS8 else if k = 9 then iS9 else iS10, ?_⟩
    intro k q hq
    match k, hq with
    | 0, hq => cases hq; exact hKn0
    | 1, hq => cases hq; exact hKn1
    | 2, hq => cases hq; exact hKn2
    | 3, hq => cases hq; exact hKn3
    | 4, hq => cases hq; exact hKn4
    | 5, hq => cases hq; exact hKn5
    | 6, hq => cases hq; exact hKn6
    | 7, hq => cases hq; exact hKn7
    | 8, hq => cases hq; exact hKn8
    | 9, hq => cases hq; exact hKn9
    | 10, hq => cases hq; exact hKn10
    | k + 11, hq => simp [vwCl] at hq
  obtain ⟨cI, kI, compI, fI, gI, dI0⟩ := Cond.arrayClass_spec (hts (Cond.arrayClass ClassFile.FieldType.int) (List.mem_of_getElem? (i := 113) (by decide +kernel)))
  obtain ⟨cZ, kZ, compZ, fZ, gZ, dZ0⟩ := Cond.arrayClass_spec (hts (Cond.arrayClass ClassFile.FieldType.boolean) (List.mem_of_getElem? (i := 710) (by decide +kernel)))
  have aoB : va_AO "ClassAnswers$Box" s := va_AO.of (hts (Cond.arrayOver (ClassFile.FieldType.object "ClassAnswers$Box")) (List.mem_of_getElem? (i := 60) (by decide +kernel)))
  have aoR : va_AO "ClassAnswers$Road" s := va_AO.of (hts (Cond.arrayOver (ClassFile.FieldType.object "ClassAnswers$Road")) (List.mem_of_getElem? (i := 193) (by decide +kernel)))
  have aoK : va_AO "ClassAnswers$Kept" s := va_AO.of (hts (Cond.arrayOver (ClassFile.FieldType.object "ClassAnswers$Kept")) (List.mem_of_getElem? (i := 195) (by decide +kernel)))
  have aoI : ca_AOA s := hts (Cond.arrayOver (ClassFile.FieldType.array ClassFile.FieldType.int)) (List.mem_of_getElem? (i := 121) (by decide +kernel))
  obtain ⟨compB, cB, kB, b1, -, b2, b3, b4⟩ := Cond.arrayOver_spec aoB
  obtain ⟨compR, cR, kR, r1, -, r2, r3, r4⟩ := Cond.arrayOver_spec aoR
  obtain ⟨compK, cK, kK, k1, -, k2, k3, k4⟩ := Cond.arrayOver_spec aoK
  obtain ⟨compA, cA, kA, a1, a2, a3, a4⟩ := Cond.arrayOver_specA aoI
  obtain ⟨Γ, hΓ⟩ : ∃ Γ : ca_G, Γ = ((dC, dI), (fun c => s.heap.size + ca_off c), (fun k => if k = 0 then cI else if k = 1 then cZ else if k = 2 then cB else if k = 3 then cR else if k = 4 then cK else cA), 0) := ⟨_, rfl⟩
  have had : ∀ c, Γ.2.1 c = s.heap.size + ca_off c := fun c => by rw [hΓ]
  have hK : va_K Γ.1 vwCl (ca_tys Γ) s := by
    rw [hΓ]
    refine ⟨hKc, fun k q hq => ?_⟩
    match k, hq with
    | 0, hq => cases hq; exact ⟨fun n z => ⟨fun k h => (by cases h), kI, gI, compI, dI0⟩, fI⟩
    | 1, hq => cases hq; exact ⟨fun n z => ⟨fun k h => (by cases h), kZ, gZ, compZ, dZ0⟩, fZ⟩
    | 2, hq => cases hq; exact ⟨fun n z => ⟨fun k h => (by cases h), kB, b2, compB, b3⟩, kB, compB, b2, b3, b1, b4⟩
    | 3, hq => cases hq; exact ⟨fun n z => ⟨fun k h => (by cases h), kR, r2, compR, r3⟩, kR, compR, r2, r3, r1, r4⟩
    | 4, hq => cases hq; exact ⟨fun n z => ⟨fun k h => (by cases h), kK, k2, compK, k3⟩, kK, compK, k2, k3, k1, k4⟩
    | 5, hq => cases hq; exact ⟨fun n z => ⟨fun k h => (by cases h), kA, a2, compA, a3⟩, a4⟩
    | k + 6, hq => simp [ca_tys] at hq
  have hX0 : ca_X0 Γ s.heap.size s := ⟨hWs, hK, had, aoB, aoR, aoK, aoI⟩
  have hAd : ∀ cs : List ca_I, ∀ q, ca_Ad Γ cs q → s.heap.size ≤ q := fun cs q h => by
    obtain ⟨d, -, hd⟩ := h
    rw [had] at hd
    omega
  have hSF : ∀ cs : List ca_I, ca_SF Γ cs s := fun cs => trivial
  have hXX : ca_LX Γ s := by
    refine ⟨⟨hWs, hK, ⟨ca_cC_nd, fun c hc d hd h => ca_offC c hc d hd (by rw [had, had] at h; omega)⟩, hSF _⟩, ⟨hWs, hK, ⟨ca_cM_nd, fun c hc d hd h => ca_offM c hc d hd (by rw [had, had] at h; omega)⟩, hSF _⟩, fun q h => ⟨hAd _ q h, fun h2 => ?_⟩, fun q h => ⟨hAd _ q h, fun h2 => ?_⟩⟩
    · obtain ⟨d, hd, e1⟩ := h
      obtain ⟨d2, hd2, e2⟩ := h2
      have := ca_offC_lt d hd
      have := ca_offM_ge d2 hd2
      rw [had] at e1 e2
      omega
    · obtain ⟨d, hd, e1⟩ := h
      obtain ⟨d2, hd2, e2⟩ := h2
      have := ca_offM_ge d hd
      have := ca_offC_lt d2 hd2
      rw [had] at e1 e2
      omega
  have hl := lv_entry ([.ref b]) (n := 4) (Nat.le_of_ble_eq_true rfl)
  rw [lg_entry_eq]
  generalize (lg_sl ([.ref b]) ++ List.replicate (4 - (lg_sl ([.ref b])).length) Slot.unset).toArray = ls at hl ⊢
  have hl : lv_has ls 4 [(0, .ref b)] := hl
  have hS : va_S (fun q => s.heap.size ≤ q) s.heap s.heap [] := va_S.rf
  have hN0 : ca_NW Γ 0 [] [] s.heap.size s.heap := ⟨fun k q h => by simp [ca_lay0] at h, by simp, fun k c h => by simp at h⟩
  refine cn_new (A := fun q => s.heap.size ≤ q) (c0 := (0, 0, 0)) tyX9 hx hb hown hX0 ca_inX9 ca_layX9 tyX9_ok ca_w51 ca_w52 ca_w38 (by rfl) rfl rfl (fun j hj => by rcases (show j = 0 ∨ j = 1 ∨ j = 2 ∨ j = 3 ∨ j = 4 ∨ j = 5 ∨ j = 6 ∨ j = 7 ∨ j = 8 ∨ j = 9 ∨ j = 10 ∨ j = 11 by omega) with rfl | rfl | rfl | rfl | rfl | rfl | rfl | rfl | rfl | rfl | rfl | rfl <;> rfl) hN0 hS (Nat.le_of_ble_eq_true rfl) (Nat.le_of_ble_eq_true rfl) dL_law_0 (fun H hN hS => ?_)
  refine lv_dup hx hb dL_law_3 rfl ?_
  refine cn_call (A := fun q => s.heap.size ≤ q) (rest := [.ref (Γ.2.1 (0, 0, 0))]) hx hb hml hown hX0 (fun q h => h) (cb_X9_init Γ s.heap.size l) ca_w54 ca_w38 ca_w55 ⟨by decide, by decide, by decide +kernel⟩ rfl (Or.inl ca_w53) (Nat.le_of_ble_eq_true rfl) ⟨Nat.le_of_ble_eq_true rfl, Nat.le_of_ble_eq_true rfl⟩ ⟨Nat.le_of_ble_eq_true rfl, Nat.le_of_ble_eq_true rfl⟩ hN hS hl dL_law_4 (fun H locs hN hS _ _ => ?_)
  refine W.widen (k := 155) (n := 2730) (Nat.le_of_ble_eq_true rfl) (Nat.le_of_ble_eq_true rfl) ?_
  refine lv_astore_n (lv' := [(1, .ref (Γ.2.1 (0, 0, 0))), (0, .ref b)]) hx hb dL_law_7 rfl hl (by decide) rfl (fun ls hl => ?_)
  have hfr : ∀ j : Nat, ((20, 0, 0), j) ∉ cb_lk 16 := fun j => by simp [cb_lk, cb_lk0]
  refine cn_new (A := fun q => s.heap.size ≤ q) (c0 := (20, 0, 0)) tyX10 hx hb hown hX0 ca_inX10 ca_layX10 tyX10_ok ca_w607 ca_w608 ca_w48 (by rfl) rfl (by rw [cb_len]; rfl) (fun j hj => by rcases (show j = 0 ∨ j = 1 ∨ j = 2 ∨ j = 3 ∨ j = 4 ∨ j = 5 ∨ j = 6 ∨ j = 7 ∨ j = 8 ∨ j = 9 ∨ j = 10 ∨ j = 11 ∨ j = 12 ∨ j = 13 ∨ j = 14 ∨ j = 15 ∨ j = 16 ∨ j = 17 ∨ j = 18 ∨ j = 19 ∨ j = 20 ∨ j = 21 ∨ j = 22 ∨ j = 23 ∨ j = 24 ∨ j = 25 ∨ j = 26 ∨ j = 27 ∨ j = 28 ∨ j = 29 ∨ j = 30 ∨ j = 31 by omega) with rfl | rfl | rfl | rfl | rfl | rfl | rfl | rfl | rfl | rfl | rfl | rfl | rfl | rfl | rfl | rfl | rfl | rfl | rfl | rfl | rfl | rfl | rfl | rfl | rfl | rfl | rfl | rfl | rfl | rfl | rfl | rfl <;> first | rfl | exact (if_neg (hfr _)).symm) hN hS (Nat.le_of_ble_eq_true rfl) (Nat.le_of_ble_eq_true rfl) dL_law_8 (fun H hN hS => ?_)
  refine lv_dup hx hb dL_law_11 rfl ?_
  refine cn_call (A := fun q => s.heap.size ≤ q) (rest := [.ref (Γ.2.1 (20, 0, 0))]) hx hb hml hown hX0 (fun q h => h) (cb_X10_init Γ s.heap.size l _ _ (by rw [List.length_append, cb_len]; rfl) (by simp)) ca_w610 ca_w48 ca_w611 ⟨by decide, by decide, by decide +kernel⟩ rfl (Or.inl ca_w609) (Nat.le_of_ble_eq_true rfl) ⟨Nat.le_of_ble_eq_true rfl, Nat.le_of_ble_eq_true rfl⟩ ⟨Nat.le_of_ble_eq_true rfl, Nat.le_of_ble_eq_true rfl⟩ hN hS hl dL_law_12 (fun H locs hN hS _ _ => ?_)
  have hN : ca_NW Γ 0 cb_csA cb_lkA s.heap.size H := hN
  have hPC := ca_NW_all (ds := ca_cC) hN (fun c hc => by obtain ⟨g1, g2, g3, g4⟩ := ca_okA c (List.mem_append_left _ hc); exact ⟨g1, ca_ok_of g2 g3 g4⟩)
  have hPM := ca_NW_all (ds := ca_cM) hN (fun c hc => by obtain ⟨g1, g2, g3, g4⟩ := ca_okA c (List.mem_append_right _ hc); exact ⟨g1, ca_ok_of g2 g3 g4⟩)
  refine W.widen (k := 600000) (n := 7302250) (Nat.le_of_ble_eq_true rfl) (Nat.le_of_ble_eq_true rfl) ?_
  refine lv_astore_n (lv' := [(2, .ref (Γ.2.1 (20, 0, 0))), (1, .ref (Γ.2.1 (0, 0, 0))), (0, .ref b)]) hx hb dL_law_15 rfl hl (by decide) rfl (fun ls hl => ?_)
  refine lv_iconst (v := nI (5 * 0)) hx hb dL_law_16 (by decide) ?_
  refine lv_istore_n (lv' := [(3, .int (nI (5 * 0))), (2, .ref (Γ.2.1 (20, 0, 0))), (1, .ref (Γ.2.1 (0, 0, 0))), (0, .ref b)]) hx hb dL_law_17 rfl hl (by decide) rfl (fun ls hl => ?_)
  exact law_loop hSim hL C0 hXX (L + 1) 0 (by omega) (Nat.zero_le _) H _ ls _ _ ⟨hPC, hPM⟩ hS hl hR0
