/-! THE CLAIM OUT OF ONE WALK OF THE LAW'S BODY. Your part is whole_start (and what it stands on); all else here is the same for every law, but numbers. -/
def R_law : String := "PathTextsLaw"
def lw_P (b : Addr) (xs : List Int32) (args : Array Value) (s : State) : Prop := args = #[.ref b] ∧ s.IntsAt b xs ∧ xs.length ≤ 3584 ∧ (Jvm.Cond.and given_1 narrow_1).before args s = true
def lw_Q (_ : Array Value) (s : State) (o : Outcome) (t : State) : Prop := o = .returned (some (.int 1)) ∧ Framed s o t [] 601024 7293034
def lw_Z (below : List Frame) (a : Array Value) (s : State) : State → Prop := fun t => ∃ o, t.status = .running ∧ Ended t below o ∧ lw_Q a s o t
/-- the law's own end, with 1 on the stack, nothing written that was there before, its room as the claim has it -/
theorem lw_ret {p : Program} {l : Launch} {e : Env} {s : State} {m : MethodId} {below : List Frame} {meth : Method} {c : Code} {b : Nat} (hx : p.tables.exec = Jvm.exec) (hb : c.code = code) (hr : meth.sig.returnType = ret) (hlocks : meth.locks = false) {pc : Nat} {H : Heap} {ls : Array Slot} (hdg : decode code pc = .ok (.ireturn, 1)) : W p l e room_1 s m #[Value.ref b] below meth c H [] 601024 7293034 (lw_Z below #[Value.ref b] s) (F0 m pc ls [.int 1]) := by
  intro T hT X
  obtain ⟨fs, hret, hrun, hended, hW, hframe⟩ := X.leave (v := some (.int 1)) (hlocks := hlocks) (fun h => by rw [hr] at h; cases h)
  have hmeth' : T.vm.method? m = some meth := X.method'
  refine ⟨T.setFrames fs, ?_, .returned (some (.int 1)), hrun, hended, rfl, ⟨_, rfl⟩, hW, hframe⟩
  jvm_step X.here [X.here.top, hx, hb, hdg, hmeth', hr, ret, narrow_b1]
  (try refine ⟨rfl, ?_⟩); (try refine ⟨rfl, ?_⟩)
  first | (intro acts; rw [hret _ acts rfl rfl rfl]) | rw [hret _ _ rfl rfl rfl]
  exact Steps.refl _
/-- what holds at the law's entry: the machine, the code, the tables' words (any of lw_tbl by 'hts w (by decide +kernel)'), the script of L ints xs at the cell b, what the Statement gives of the start (any of its parts by flat_of_before) -/
def lw_At (p : Program) (s : State) (m : MethodId) (meth : Method) (c : Code) (b L : Nat) (xs : Nat → Int32) : Prop :=
  p.tables.exec = Jvm.exec ∧ c.code = code ∧ meth.sig.returnType = ret ∧ c.maxLocals = 7 ∧ s.vm.findClass R_law = some m.cls ∧ (∀ w ∈ lw_tbl, w.before #[Value.ref b] s = true) ∧ va_X b L xs s s.heap ∧ b < s.heap.size ∧ meth.locks = false ∧ (Jvm.Cond.and given_1 narrow_1).before #[Value.ref b] s = true
theorem kw_0 : (Jvm.Cond.initialized "PathTextsLaw") ∈ kw := kt_1 (List.mem_of_getElem? (i := 0) rfl) rfl
theorem kw_208 : (Jvm.Cond.methodLink "PathTextsLaw" (68 : Nat) ({ cls := "PathTexts", name := "read", desc := "()I" } : Jvm.MethodName)) ∈ kw := kt_1 (List.mem_of_getElem? (i := 208) rfl) rfl
theorem kw_209 : (Jvm.Cond.instanceMethod ({ cls := "PathTexts", name := "read", desc := "()I" } : Jvm.MethodName)) ∈ kw := kt_1 (List.mem_of_getElem? (i := 209) rfl) rfl
theorem kw_210 : (Jvm.Cond.selects "PathTexts" ({ cls := "PathTexts", name := "read", desc := "()I" } : Jvm.MethodName) ({ cls := "PathTexts", name := "read", desc := "()I" } : Jvm.MethodName)) ∈ kw := kt_1 (List.mem_of_getElem? (i := 210) rfl) rfl
theorem kw_211 : (Jvm.Cond.code ({ cls := "PathTexts", name := "read", desc := "()I" } : Jvm.MethodName) prog_1_method_3_code (3 : Nat) (Option.some Jvm.ClassFile.FieldType.int)) ∈ kw := kt_1 (List.mem_of_getElem? (i := 211) rfl) rfl
theorem kw_349 : (Jvm.Cond.methodLink "PathTextsLaw" (94 : Nat) ({ cls := "PathTexts", name := "write", desc := "()I" } : Jvm.MethodName)) ∈ kw := kt_2 (List.mem_of_getElem? (i := 109) rfl) rfl
theorem kw_350 : (Jvm.Cond.instanceMethod ({ cls := "PathTexts", name := "write", desc := "()I" } : Jvm.MethodName)) ∈ kw := kt_2 (List.mem_of_getElem? (i := 110) rfl) rfl
theorem kw_351 : (Jvm.Cond.selects "PathTexts" ({ cls := "PathTexts", name := "write", desc := "()I" } : Jvm.MethodName) ({ cls := "PathTexts", name := "write", desc := "()I" } : Jvm.MethodName)) ∈ kw := kt_2 (List.mem_of_getElem? (i := 111) rfl) rfl
theorem kw_352 : (Jvm.Cond.code ({ cls := "PathTexts", name := "write", desc := "()I" } : Jvm.MethodName) prog_1_method_10_code (1 : Nat) (Option.some Jvm.ClassFile.FieldType.int)) ∈ kw := kt_2 (List.mem_of_getElem? (i := 112) rfl) rfl
theorem kw_390 : (Jvm.Cond.methodLink "PathTextsLaw" (108 : Nat) ({ cls := "PathTexts", name := "bound", desc := "(I)I" } : Jvm.MethodName)) ∈ kw := kt_2 (List.mem_of_getElem? (i := 150) rfl) rfl
theorem kw_391 : (Jvm.Cond.instanceMethod ({ cls := "PathTexts", name := "bound", desc := "(I)I" } : Jvm.MethodName)) ∈ kw := kt_2 (List.mem_of_getElem? (i := 151) rfl) rfl
theorem kw_392 : (Jvm.Cond.selects "PathTexts" ({ cls := "PathTexts", name := "bound", desc := "(I)I" } : Jvm.MethodName) ({ cls := "PathTexts", name := "bound", desc := "(I)I" } : Jvm.MethodName)) ∈ kw := kt_2 (List.mem_of_getElem? (i := 152) rfl) rfl
theorem kw_393 : (Jvm.Cond.code ({ cls := "PathTexts", name := "bound", desc := "(I)I" } : Jvm.MethodName) prog_1_method_14_code (2 : Nat) (Option.some Jvm.ClassFile.FieldType.int)) ∈ kw := kt_2 (List.mem_of_getElem? (i := 153) rfl) rfl
theorem kw_398 : (Jvm.Cond.methodLink "PathTextsLaw" (112 : Nat) ({ cls := "PathTexts", name := "told", desc := "(I)I" } : Jvm.MethodName)) ∈ kw := kt_2 (List.mem_of_getElem? (i := 158) rfl) rfl
theorem kw_399 : (Jvm.Cond.instanceMethod ({ cls := "PathTexts", name := "told", desc := "(I)I" } : Jvm.MethodName)) ∈ kw := kt_2 (List.mem_of_getElem? (i := 159) rfl) rfl
theorem kw_400 : (Jvm.Cond.selects "PathTexts" ({ cls := "PathTexts", name := "told", desc := "(I)I" } : Jvm.MethodName) ({ cls := "PathTexts", name := "told", desc := "(I)I" } : Jvm.MethodName)) ∈ kw := kt_2 (List.mem_of_getElem? (i := 160) rfl) rfl
theorem kw_401 : (Jvm.Cond.code ({ cls := "PathTexts", name := "told", desc := "(I)I" } : Jvm.MethodName) prog_1_method_15_code (2 : Nat) (Option.some Jvm.ClassFile.FieldType.int)) ∈ kw := kt_2 (List.mem_of_getElem? (i := 161) rfl) rfl
theorem kw_406 : (Jvm.Cond.methodLink "PathTextsLaw" (116 : Nat) ({ cls := "PathTexts", name := "clear", desc := "()V" } : Jvm.MethodName)) ∈ kw := kt_2 (List.mem_of_getElem? (i := 166) rfl) rfl
theorem kw_407 : (Jvm.Cond.instanceMethod ({ cls := "PathTexts", name := "clear", desc := "()V" } : Jvm.MethodName)) ∈ kw := kt_2 (List.mem_of_getElem? (i := 167) rfl) rfl
theorem kw_408 : (Jvm.Cond.selects "PathTexts" ({ cls := "PathTexts", name := "clear", desc := "()V" } : Jvm.MethodName) ({ cls := "PathTexts", name := "clear", desc := "()V" } : Jvm.MethodName)) ∈ kw := kt_2 (List.mem_of_getElem? (i := 168) rfl) rfl
theorem kw_409 : (Jvm.Cond.code ({ cls := "PathTexts", name := "clear", desc := "()V" } : Jvm.MethodName) prog_1_method_16_code (1 : Nat) (Option.none : Option Jvm.ClassFile.FieldType)) ∈ kw := kt_2 (List.mem_of_getElem? (i := 169) rfl) rfl
theorem kw_410 : (Jvm.Cond.methodLink "PathTextsLaw" (59 : Nat) ({ cls := "PathTextsLaw", name := "text", desc := "(LPathTexts;J[J)I" } : Jvm.MethodName)) ∈ kw := kt_2 (List.mem_of_getElem? (i := 170) rfl) rfl
theorem kw_411 : (Jvm.Cond.static ({ cls := "PathTextsLaw", name := "text", desc := "(LPathTexts;J[J)I" } : Jvm.MethodName)) ∈ kw := kt_2 (List.mem_of_getElem? (i := 171) rfl) rfl
theorem kw_412 : (Jvm.Cond.codeWith ({ cls := "PathTextsLaw", name := "text", desc := "(LPathTexts;J[J)I" } : Jvm.MethodName) method_3_code (5 : Nat) (Option.some Jvm.ClassFile.FieldType.int) [((0 : Nat), (9 : Nat), (12 : Nat), (13 : Nat)), ((0 : Nat), (9 : Nat), (16 : Nat), (15 : Nat))]) ∈ kw := kt_2 (List.mem_of_getElem? (i := 172) rfl) rfl
theorem kw_508 : (Jvm.Cond.methodLink "PathTextsLaw" (72 : Nat) ({ cls := "PathTextsLaw", name := "move", desc := "(LPathTexts;II[J)I" } : Jvm.MethodName)) ∈ kw := kt_3 (List.mem_of_getElem? (i := 28) rfl) rfl
theorem kw_509 : (Jvm.Cond.static ({ cls := "PathTextsLaw", name := "move", desc := "(LPathTexts;II[J)I" } : Jvm.MethodName)) ∈ kw := kt_3 (List.mem_of_getElem? (i := 29) rfl) rfl
theorem kw_510 : (Jvm.Cond.codeWith ({ cls := "PathTextsLaw", name := "move", desc := "(LPathTexts;II[J)I" } : Jvm.MethodName) method_4_code (5 : Nat) (Option.some Jvm.ClassFile.FieldType.int) [((0 : Nat), (10 : Nat), (13 : Nat), (13 : Nat)), ((0 : Nat), (10 : Nat), (17 : Nat), (15 : Nat))]) ∈ kw := kt_3 (List.mem_of_getElem? (i := 30) rfl) rfl
theorem kw_540 : (Jvm.Cond.methodLink "PathTextsLaw" (76 : Nat) ({ cls := "PathTextsLaw", name := "line", desc := "(LPathTexts;II[J)I" } : Jvm.MethodName)) ∈ kw := kt_3 (List.mem_of_getElem? (i := 60) rfl) rfl
theorem kw_541 : (Jvm.Cond.static ({ cls := "PathTextsLaw", name := "line", desc := "(LPathTexts;II[J)I" } : Jvm.MethodName)) ∈ kw := kt_3 (List.mem_of_getElem? (i := 61) rfl) rfl
theorem kw_542 : (Jvm.Cond.codeWith ({ cls := "PathTextsLaw", name := "line", desc := "(LPathTexts;II[J)I" } : Jvm.MethodName) method_5_code (5 : Nat) (Option.some Jvm.ClassFile.FieldType.int) [((0 : Nat), (10 : Nat), (13 : Nat), (13 : Nat)), ((0 : Nat), (10 : Nat), (17 : Nat), (24 : Nat)), ((0 : Nat), (10 : Nat), (21 : Nat), (15 : Nat))]) ∈ kw := kt_3 (List.mem_of_getElem? (i := 62) rfl) rfl
theorem kw_548 : (Jvm.Cond.methodLink "PathTextsLaw" (79 : Nat) ({ cls := "PathTextsLaw", name := "cubic", desc := "(LPathTexts;IIIIII[J)I" } : Jvm.MethodName)) ∈ kw := kt_3 (List.mem_of_getElem? (i := 68) rfl) rfl
theorem kw_549 : (Jvm.Cond.static ({ cls := "PathTextsLaw", name := "cubic", desc := "(LPathTexts;IIIIII[J)I" } : Jvm.MethodName)) ∈ kw := kt_3 (List.mem_of_getElem? (i := 69) rfl) rfl
theorem kw_550 : (Jvm.Cond.codeWith ({ cls := "PathTextsLaw", name := "cubic", desc := "(LPathTexts;IIIIII[J)I" } : Jvm.MethodName) method_6_code (9 : Nat) (Option.some Jvm.ClassFile.FieldType.int) [((0 : Nat), (18 : Nat), (21 : Nat), (13 : Nat)), ((0 : Nat), (18 : Nat), (25 : Nat), (24 : Nat)), ((0 : Nat), (18 : Nat), (29 : Nat), (15 : Nat))]) ∈ kw := kt_3 (List.mem_of_getElem? (i := 70) rfl) rfl
theorem kw_555 : (Jvm.Cond.methodLink "PathTextsLaw" (83 : Nat) ({ cls := "PathTextsLaw", name := "close", desc := "(LPathTexts;[J)I" } : Jvm.MethodName)) ∈ kw := kt_3 (List.mem_of_getElem? (i := 75) rfl) rfl
theorem kw_556 : (Jvm.Cond.static ({ cls := "PathTextsLaw", name := "close", desc := "(LPathTexts;[J)I" } : Jvm.MethodName)) ∈ kw := kt_3 (List.mem_of_getElem? (i := 76) rfl) rfl
theorem kw_557 : (Jvm.Cond.codeWith ({ cls := "PathTextsLaw", name := "close", desc := "(LPathTexts;[J)I" } : Jvm.MethodName) method_7_code (3 : Nat) (Option.some Jvm.ClassFile.FieldType.int) [((0 : Nat), (8 : Nat), (11 : Nat), (24 : Nat)), ((0 : Nat), (8 : Nat), (14 : Nat), (15 : Nat))]) ∈ kw := kt_3 (List.mem_of_getElem? (i := 77) rfl) rfl
theorem kw_562 : (Jvm.Cond.methodLink "PathTextsLaw" (87 : Nat) ({ cls := "PathTextsLaw", name := "command", desc := "(LPathTexts;I[J)I" } : Jvm.MethodName)) ∈ kw := kt_3 (List.mem_of_getElem? (i := 82) rfl) rfl
theorem kw_563 : (Jvm.Cond.static ({ cls := "PathTextsLaw", name := "command", desc := "(LPathTexts;I[J)I" } : Jvm.MethodName)) ∈ kw := kt_3 (List.mem_of_getElem? (i := 83) rfl) rfl
theorem kw_564 : (Jvm.Cond.codeWith ({ cls := "PathTextsLaw", name := "command", desc := "(LPathTexts;I[J)I" } : Jvm.MethodName) method_8_code (4 : Nat) (Option.some Jvm.ClassFile.FieldType.int) [((0 : Nat), (9 : Nat), (12 : Nat), (38 : Nat))]) ∈ kw := kt_3 (List.mem_of_getElem? (i := 84) rfl) rfl
theorem kw_590 : (Jvm.Cond.methodLink "PathTextsLaw" (91 : Nat) ({ cls := "PathTextsLaw", name := "number", desc := "(LPathTexts;II[J)I" } : Jvm.MethodName)) ∈ kw := kt_3 (List.mem_of_getElem? (i := 110) rfl) rfl
theorem kw_591 : (Jvm.Cond.static ({ cls := "PathTextsLaw", name := "number", desc := "(LPathTexts;II[J)I" } : Jvm.MethodName)) ∈ kw := kt_3 (List.mem_of_getElem? (i := 111) rfl) rfl
theorem kw_592 : (Jvm.Cond.codeWith ({ cls := "PathTextsLaw", name := "number", desc := "(LPathTexts;II[J)I" } : Jvm.MethodName) method_9_code (5 : Nat) (Option.some Jvm.ClassFile.FieldType.int) [((0 : Nat), (10 : Nat), (13 : Nat), (38 : Nat))]) ∈ kw := kt_3 (List.mem_of_getElem? (i := 112) rfl) rfl
theorem kw_598 : (Jvm.Cond.methodLink "PathTextsLaw" (98 : Nat) ({ cls := "PathTextsLaw", name := "charAt", desc := "(LPathTexts;I[J)I" } : Jvm.MethodName)) ∈ kw := kt_3 (List.mem_of_getElem? (i := 118) rfl) rfl
theorem kw_599 : (Jvm.Cond.static ({ cls := "PathTextsLaw", name := "charAt", desc := "(LPathTexts;I[J)I" } : Jvm.MethodName)) ∈ kw := kt_3 (List.mem_of_getElem? (i := 119) rfl) rfl
theorem kw_600 : (Jvm.Cond.codeWith ({ cls := "PathTextsLaw", name := "charAt", desc := "(LPathTexts;I[J)I" } : Jvm.MethodName) method_10_code (4 : Nat) (Option.some Jvm.ClassFile.FieldType.int) [((0 : Nat), (9 : Nat), (12 : Nat), (38 : Nat))]) ∈ kw := kt_3 (List.mem_of_getElem? (i := 120) rfl) rfl
theorem kw_607 : (Jvm.Cond.methodLink "PathTextsLaw" (101 : Nat) ({ cls := "PathTextsLaw", name := "render", desc := "(LPathTexts;III[J)I" } : Jvm.MethodName)) ∈ kw := kt_3 (List.mem_of_getElem? (i := 127) rfl) rfl
theorem kw_608 : (Jvm.Cond.static ({ cls := "PathTextsLaw", name := "render", desc := "(LPathTexts;III[J)I" } : Jvm.MethodName)) ∈ kw := kt_3 (List.mem_of_getElem? (i := 128) rfl) rfl
theorem kw_609 : (Jvm.Cond.codeWith ({ cls := "PathTextsLaw", name := "render", desc := "(LPathTexts;III[J)I" } : Jvm.MethodName) method_11_code (6 : Nat) (Option.some Jvm.ClassFile.FieldType.int) [((0 : Nat), (12 : Nat), (15 : Nat), (13 : Nat))]) ∈ kw := kt_3 (List.mem_of_getElem? (i := 129) rfl) rfl
theorem kw_657 : (Jvm.Cond.methodLink "PathTextsLaw" (105 : Nat) ({ cls := "PathTextsLaw", name := "covered", desc := "(LPathTexts;II[J)I" } : Jvm.MethodName)) ∈ kw := kt_3 (List.mem_of_getElem? (i := 177) rfl) rfl
theorem kw_658 : (Jvm.Cond.static ({ cls := "PathTextsLaw", name := "covered", desc := "(LPathTexts;II[J)I" } : Jvm.MethodName)) ∈ kw := kt_3 (List.mem_of_getElem? (i := 178) rfl) rfl
theorem kw_659 : (Jvm.Cond.codeWith ({ cls := "PathTextsLaw", name := "covered", desc := "(LPathTexts;II[J)I" } : Jvm.MethodName) method_12_code (5 : Nat) (Option.some Jvm.ClassFile.FieldType.int) [((0 : Nat), (10 : Nat), (13 : Nat), (38 : Nat))]) ∈ kw := kt_3 (List.mem_of_getElem? (i := 179) rfl) rfl
theorem kw_777 : (Jvm.Cond.methodLink "PathTextsLaw" (65 : Nat) ({ cls := "PathTextsModel", name := "thrown", desc := "()I" } : Jvm.MethodName)) ∈ kw := kt_4 (List.mem_of_getElem? (i := 57) rfl) rfl
theorem kw_778 : (Jvm.Cond.instanceMethod ({ cls := "PathTextsModel", name := "thrown", desc := "()I" } : Jvm.MethodName)) ∈ kw := kt_4 (List.mem_of_getElem? (i := 58) rfl) rfl
theorem kw_779 : (Jvm.Cond.selects "PathTextsModel" ({ cls := "PathTextsModel", name := "thrown", desc := "()I" } : Jvm.MethodName) ({ cls := "PathTextsModel", name := "thrown", desc := "()I" } : Jvm.MethodName)) ∈ kw := kt_4 (List.mem_of_getElem? (i := 59) rfl) rfl
theorem kw_780 : (Jvm.Cond.code ({ cls := "PathTextsModel", name := "thrown", desc := "()I" } : Jvm.MethodName) prog_10_method_2_code (1 : Nat) (Option.some Jvm.ClassFile.FieldType.int)) ∈ kw := kt_4 (List.mem_of_getElem? (i := 60) rfl) rfl
theorem kw_781 : (Jvm.Cond.methodLink "PathTextsLaw" (64 : Nat) ({ cls := "PathTextsModel", name := "text", desc := "(J)I" } : Jvm.MethodName)) ∈ kw := kt_4 (List.mem_of_getElem? (i := 61) rfl) rfl
theorem kw_782 : (Jvm.Cond.instanceMethod ({ cls := "PathTextsModel", name := "text", desc := "(J)I" } : Jvm.MethodName)) ∈ kw := kt_4 (List.mem_of_getElem? (i := 62) rfl) rfl
theorem kw_783 : (Jvm.Cond.selects "PathTextsModel" ({ cls := "PathTextsModel", name := "text", desc := "(J)I" } : Jvm.MethodName) ({ cls := "PathTextsModel", name := "text", desc := "(J)I" } : Jvm.MethodName)) ∈ kw := kt_4 (List.mem_of_getElem? (i := 63) rfl) rfl
theorem kw_784 : (Jvm.Cond.code ({ cls := "PathTextsModel", name := "text", desc := "(J)I" } : Jvm.MethodName) prog_10_method_5_code (7 : Nat) (Option.some Jvm.ClassFile.FieldType.int)) ∈ kw := kt_4 (List.mem_of_getElem? (i := 64) rfl) rfl
theorem kw_791 : (Jvm.Cond.methodLink "PathTextsLaw" (71 : Nat) ({ cls := "PathTextsModel", name := "read", desc := "()I" } : Jvm.MethodName)) ∈ kw := kt_4 (List.mem_of_getElem? (i := 71) rfl) rfl
theorem kw_792 : (Jvm.Cond.instanceMethod ({ cls := "PathTextsModel", name := "read", desc := "()I" } : Jvm.MethodName)) ∈ kw := kt_4 (List.mem_of_getElem? (i := 72) rfl) rfl
theorem kw_793 : (Jvm.Cond.selects "PathTextsModel" ({ cls := "PathTextsModel", name := "read", desc := "()I" } : Jvm.MethodName) ({ cls := "PathTextsModel", name := "read", desc := "()I" } : Jvm.MethodName)) ∈ kw := kt_4 (List.mem_of_getElem? (i := 73) rfl) rfl
theorem kw_794 : (Jvm.Cond.code ({ cls := "PathTextsModel", name := "read", desc := "()I" } : Jvm.MethodName) prog_10_method_20_code (3 : Nat) (Option.some Jvm.ClassFile.FieldType.int)) ∈ kw := kt_4 (List.mem_of_getElem? (i := 74) rfl) rfl
theorem kw_861 : (Jvm.Cond.methodLink "PathTextsLaw" (75 : Nat) ({ cls := "PathTextsModel", name := "move", desc := "(II)I" } : Jvm.MethodName)) ∈ kw := kt_4 (List.mem_of_getElem? (i := 141) rfl) rfl
theorem kw_862 : (Jvm.Cond.instanceMethod ({ cls := "PathTextsModel", name := "move", desc := "(II)I" } : Jvm.MethodName)) ∈ kw := kt_4 (List.mem_of_getElem? (i := 142) rfl) rfl
theorem kw_863 : (Jvm.Cond.selects "PathTextsModel" ({ cls := "PathTextsModel", name := "move", desc := "(II)I" } : Jvm.MethodName) ({ cls := "PathTextsModel", name := "move", desc := "(II)I" } : Jvm.MethodName)) ∈ kw := kt_4 (List.mem_of_getElem? (i := 143) rfl) rfl
theorem kw_864 : (Jvm.Cond.code ({ cls := "PathTextsModel", name := "move", desc := "(II)I" } : Jvm.MethodName) prog_10_method_25_code (3 : Nat) (Option.some Jvm.ClassFile.FieldType.int)) ∈ kw := kt_4 (List.mem_of_getElem? (i := 144) rfl) rfl
theorem kw_876 : (Jvm.Cond.methodLink "PathTextsLaw" (78 : Nat) ({ cls := "PathTextsModel", name := "line", desc := "(II)I" } : Jvm.MethodName)) ∈ kw := kt_4 (List.mem_of_getElem? (i := 156) rfl) rfl
theorem kw_877 : (Jvm.Cond.instanceMethod ({ cls := "PathTextsModel", name := "line", desc := "(II)I" } : Jvm.MethodName)) ∈ kw := kt_4 (List.mem_of_getElem? (i := 157) rfl) rfl
theorem kw_878 : (Jvm.Cond.selects "PathTextsModel" ({ cls := "PathTextsModel", name := "line", desc := "(II)I" } : Jvm.MethodName) ({ cls := "PathTextsModel", name := "line", desc := "(II)I" } : Jvm.MethodName)) ∈ kw := kt_4 (List.mem_of_getElem? (i := 158) rfl) rfl
theorem kw_879 : (Jvm.Cond.code ({ cls := "PathTextsModel", name := "line", desc := "(II)I" } : Jvm.MethodName) prog_10_method_26_code (3 : Nat) (Option.some Jvm.ClassFile.FieldType.int)) ∈ kw := kt_4 (List.mem_of_getElem? (i := 159) rfl) rfl
theorem kw_884 : (Jvm.Cond.methodLink "PathTextsLaw" (82 : Nat) ({ cls := "PathTextsModel", name := "cubic", desc := "(IIIIII)I" } : Jvm.MethodName)) ∈ kw := kt_4 (List.mem_of_getElem? (i := 164) rfl) rfl
theorem kw_885 : (Jvm.Cond.instanceMethod ({ cls := "PathTextsModel", name := "cubic", desc := "(IIIIII)I" } : Jvm.MethodName)) ∈ kw := kt_4 (List.mem_of_getElem? (i := 165) rfl) rfl
theorem kw_886 : (Jvm.Cond.selects "PathTextsModel" ({ cls := "PathTextsModel", name := "cubic", desc := "(IIIIII)I" } : Jvm.MethodName) ({ cls := "PathTextsModel", name := "cubic", desc := "(IIIIII)I" } : Jvm.MethodName)) ∈ kw := kt_4 (List.mem_of_getElem? (i := 166) rfl) rfl
theorem kw_887 : (Jvm.Cond.code ({ cls := "PathTextsModel", name := "cubic", desc := "(IIIIII)I" } : Jvm.MethodName) prog_10_method_27_code (8 : Nat) (Option.some Jvm.ClassFile.FieldType.int)) ∈ kw := kt_4 (List.mem_of_getElem? (i := 167) rfl) rfl
theorem kw_888 : (Jvm.Cond.methodLink "PathTextsLaw" (86 : Nat) ({ cls := "PathTextsModel", name := "close", desc := "()I" } : Jvm.MethodName)) ∈ kw := kt_4 (List.mem_of_getElem? (i := 168) rfl) rfl
theorem kw_889 : (Jvm.Cond.instanceMethod ({ cls := "PathTextsModel", name := "close", desc := "()I" } : Jvm.MethodName)) ∈ kw := kt_4 (List.mem_of_getElem? (i := 169) rfl) rfl
theorem kw_890 : (Jvm.Cond.selects "PathTextsModel" ({ cls := "PathTextsModel", name := "close", desc := "()I" } : Jvm.MethodName) ({ cls := "PathTextsModel", name := "close", desc := "()I" } : Jvm.MethodName)) ∈ kw := kt_4 (List.mem_of_getElem? (i := 170) rfl) rfl
theorem kw_891 : (Jvm.Cond.code ({ cls := "PathTextsModel", name := "close", desc := "()I" } : Jvm.MethodName) prog_10_method_28_code (1 : Nat) (Option.some Jvm.ClassFile.FieldType.int)) ∈ kw := kt_4 (List.mem_of_getElem? (i := 171) rfl) rfl
theorem kw_892 : (Jvm.Cond.methodLink "PathTextsLaw" (90 : Nat) ({ cls := "PathTextsModel", name := "command", desc := "(I)I" } : Jvm.MethodName)) ∈ kw := kt_4 (List.mem_of_getElem? (i := 172) rfl) rfl
theorem kw_893 : (Jvm.Cond.instanceMethod ({ cls := "PathTextsModel", name := "command", desc := "(I)I" } : Jvm.MethodName)) ∈ kw := kt_4 (List.mem_of_getElem? (i := 173) rfl) rfl
theorem kw_894 : (Jvm.Cond.selects "PathTextsModel" ({ cls := "PathTextsModel", name := "command", desc := "(I)I" } : Jvm.MethodName) ({ cls := "PathTextsModel", name := "command", desc := "(I)I" } : Jvm.MethodName)) ∈ kw := kt_4 (List.mem_of_getElem? (i := 174) rfl) rfl
theorem kw_895 : (Jvm.Cond.code ({ cls := "PathTextsModel", name := "command", desc := "(I)I" } : Jvm.MethodName) prog_10_method_29_code (2 : Nat) (Option.some Jvm.ClassFile.FieldType.int)) ∈ kw := kt_4 (List.mem_of_getElem? (i := 175) rfl) rfl
theorem kw_896 : (Jvm.Cond.methodLink "PathTextsLaw" (93 : Nat) ({ cls := "PathTextsModel", name := "number", desc := "(II)I" } : Jvm.MethodName)) ∈ kw := kt_4 (List.mem_of_getElem? (i := 176) rfl) rfl
theorem kw_897 : (Jvm.Cond.instanceMethod ({ cls := "PathTextsModel", name := "number", desc := "(II)I" } : Jvm.MethodName)) ∈ kw := kt_4 (List.mem_of_getElem? (i := 177) rfl) rfl
theorem kw_898 : (Jvm.Cond.selects "PathTextsModel" ({ cls := "PathTextsModel", name := "number", desc := "(II)I" } : Jvm.MethodName) ({ cls := "PathTextsModel", name := "number", desc := "(II)I" } : Jvm.MethodName)) ∈ kw := kt_4 (List.mem_of_getElem? (i := 178) rfl) rfl
theorem kw_899 : (Jvm.Cond.code ({ cls := "PathTextsModel", name := "number", desc := "(II)I" } : Jvm.MethodName) prog_10_method_31_code (3 : Nat) (Option.some Jvm.ClassFile.FieldType.int)) ∈ kw := kt_4 (List.mem_of_getElem? (i := 179) rfl) rfl
theorem kw_903 : (Jvm.Cond.methodLink "PathTextsLaw" (97 : Nat) ({ cls := "PathTextsModel", name := "write", desc := "()I" } : Jvm.MethodName)) ∈ kw := kt_4 (List.mem_of_getElem? (i := 183) rfl) rfl
theorem kw_904 : (Jvm.Cond.instanceMethod ({ cls := "PathTextsModel", name := "write", desc := "()I" } : Jvm.MethodName)) ∈ kw := kt_4 (List.mem_of_getElem? (i := 184) rfl) rfl
theorem kw_905 : (Jvm.Cond.selects "PathTextsModel" ({ cls := "PathTextsModel", name := "write", desc := "()I" } : Jvm.MethodName) ({ cls := "PathTextsModel", name := "write", desc := "()I" } : Jvm.MethodName)) ∈ kw := kt_4 (List.mem_of_getElem? (i := 185) rfl) rfl
theorem kw_906 : (Jvm.Cond.code ({ cls := "PathTextsModel", name := "write", desc := "()I" } : Jvm.MethodName) prog_10_method_37_code (4 : Nat) (Option.some Jvm.ClassFile.FieldType.int)) ∈ kw := kt_4 (List.mem_of_getElem? (i := 186) rfl) rfl
theorem kw_928 : (Jvm.Cond.methodLink "PathTextsLaw" (100 : Nat) ({ cls := "PathTextsModel", name := "charAt", desc := "(I)I" } : Jvm.MethodName)) ∈ kw := kt_4 (List.mem_of_getElem? (i := 208) rfl) rfl
theorem kw_929 : (Jvm.Cond.instanceMethod ({ cls := "PathTextsModel", name := "charAt", desc := "(I)I" } : Jvm.MethodName)) ∈ kw := kt_4 (List.mem_of_getElem? (i := 209) rfl) rfl
theorem kw_930 : (Jvm.Cond.selects "PathTextsModel" ({ cls := "PathTextsModel", name := "charAt", desc := "(I)I" } : Jvm.MethodName) ({ cls := "PathTextsModel", name := "charAt", desc := "(I)I" } : Jvm.MethodName)) ∈ kw := kt_4 (List.mem_of_getElem? (i := 210) rfl) rfl
theorem kw_931 : (Jvm.Cond.code ({ cls := "PathTextsModel", name := "charAt", desc := "(I)I" } : Jvm.MethodName) prog_10_method_38_code (2 : Nat) (Option.some Jvm.ClassFile.FieldType.int)) ∈ kw := kt_4 (List.mem_of_getElem? (i := 211) rfl) rfl
theorem kw_932 : (Jvm.Cond.methodLink "PathTextsLaw" (104 : Nat) ({ cls := "PathTextsModel", name := "render", desc := "(III)I" } : Jvm.MethodName)) ∈ kw := kt_4 (List.mem_of_getElem? (i := 212) rfl) rfl
theorem kw_933 : (Jvm.Cond.instanceMethod ({ cls := "PathTextsModel", name := "render", desc := "(III)I" } : Jvm.MethodName)) ∈ kw := kt_4 (List.mem_of_getElem? (i := 213) rfl) rfl
theorem kw_934 : (Jvm.Cond.selects "PathTextsModel" ({ cls := "PathTextsModel", name := "render", desc := "(III)I" } : Jvm.MethodName) ({ cls := "PathTextsModel", name := "render", desc := "(III)I" } : Jvm.MethodName)) ∈ kw := kt_4 (List.mem_of_getElem? (i := 214) rfl) rfl
theorem kw_935 : (Jvm.Cond.code ({ cls := "PathTextsModel", name := "render", desc := "(III)I" } : Jvm.MethodName) prog_10_method_43_code (9 : Nat) (Option.some Jvm.ClassFile.FieldType.int)) ∈ kw := kt_4 (List.mem_of_getElem? (i := 215) rfl) rfl
theorem kw_954 : (Jvm.Cond.methodLink "PathTextsLaw" (107 : Nat) ({ cls := "PathTextsModel", name := "covered", desc := "(II)I" } : Jvm.MethodName)) ∈ kw := kt_4 (List.mem_of_getElem? (i := 234) rfl) rfl
theorem kw_955 : (Jvm.Cond.instanceMethod ({ cls := "PathTextsModel", name := "covered", desc := "(II)I" } : Jvm.MethodName)) ∈ kw := kt_4 (List.mem_of_getElem? (i := 235) rfl) rfl
theorem kw_956 : (Jvm.Cond.selects "PathTextsModel" ({ cls := "PathTextsModel", name := "covered", desc := "(II)I" } : Jvm.MethodName) ({ cls := "PathTextsModel", name := "covered", desc := "(II)I" } : Jvm.MethodName)) ∈ kw := kt_4 (List.mem_of_getElem? (i := 236) rfl) rfl
theorem kw_957 : (Jvm.Cond.code ({ cls := "PathTextsModel", name := "covered", desc := "(II)I" } : Jvm.MethodName) prog_10_method_44_code (3 : Nat) (Option.some Jvm.ClassFile.FieldType.int)) ∈ kw := kt_4 (List.mem_of_getElem? (i := 237) rfl) rfl
theorem kw_958 : (Jvm.Cond.methodLink "PathTextsLaw" (111 : Nat) ({ cls := "PathTextsModel", name := "bound", desc := "(I)I" } : Jvm.MethodName)) ∈ kw := kt_4 (List.mem_of_getElem? (i := 238) rfl) rfl
theorem kw_959 : (Jvm.Cond.instanceMethod ({ cls := "PathTextsModel", name := "bound", desc := "(I)I" } : Jvm.MethodName)) ∈ kw := kt_4 (List.mem_of_getElem? (i := 239) rfl) rfl
theorem kw_960 : (Jvm.Cond.selects "PathTextsModel" ({ cls := "PathTextsModel", name := "bound", desc := "(I)I" } : Jvm.MethodName) ({ cls := "PathTextsModel", name := "bound", desc := "(I)I" } : Jvm.MethodName)) ∈ kw := kt_5 (List.mem_of_getElem? (i := 0) rfl) rfl
theorem kw_961 : (Jvm.Cond.code ({ cls := "PathTextsModel", name := "bound", desc := "(I)I" } : Jvm.MethodName) prog_10_method_45_code (7 : Nat) (Option.some Jvm.ClassFile.FieldType.int)) ∈ kw := kt_5 (List.mem_of_getElem? (i := 1) rfl) rfl
theorem kw_962 : (Jvm.Cond.methodLink "PathTextsLaw" (115 : Nat) ({ cls := "PathTextsModel", name := "told", desc := "(I)I" } : Jvm.MethodName)) ∈ kw := kt_5 (List.mem_of_getElem? (i := 2) rfl) rfl
theorem kw_963 : (Jvm.Cond.instanceMethod ({ cls := "PathTextsModel", name := "told", desc := "(I)I" } : Jvm.MethodName)) ∈ kw := kt_5 (List.mem_of_getElem? (i := 3) rfl) rfl
theorem kw_964 : (Jvm.Cond.selects "PathTextsModel" ({ cls := "PathTextsModel", name := "told", desc := "(I)I" } : Jvm.MethodName) ({ cls := "PathTextsModel", name := "told", desc := "(I)I" } : Jvm.MethodName)) ∈ kw := kt_5 (List.mem_of_getElem? (i := 4) rfl) rfl
theorem kw_965 : (Jvm.Cond.code ({ cls := "PathTextsModel", name := "told", desc := "(I)I" } : Jvm.MethodName) prog_10_method_46_code (2 : Nat) (Option.some Jvm.ClassFile.FieldType.int)) ∈ kw := kt_5 (List.mem_of_getElem? (i := 5) rfl) rfl
theorem kw_966 : (Jvm.Cond.methodLink "PathTextsLaw" (119 : Nat) ({ cls := "PathTextsModel", name := "clear", desc := "()V" } : Jvm.MethodName)) ∈ kw := kt_5 (List.mem_of_getElem? (i := 6) rfl) rfl
theorem kw_967 : (Jvm.Cond.instanceMethod ({ cls := "PathTextsModel", name := "clear", desc := "()V" } : Jvm.MethodName)) ∈ kw := kt_5 (List.mem_of_getElem? (i := 7) rfl) rfl
theorem kw_968 : (Jvm.Cond.selects "PathTextsModel" ({ cls := "PathTextsModel", name := "clear", desc := "()V" } : Jvm.MethodName) ({ cls := "PathTextsModel", name := "clear", desc := "()V" } : Jvm.MethodName)) ∈ kw := kt_5 (List.mem_of_getElem? (i := 8) rfl) rfl
theorem kw_969 : (Jvm.Cond.code ({ cls := "PathTextsModel", name := "clear", desc := "()V" } : Jvm.MethodName) prog_10_method_47_code (1 : Nat) (Option.none : Option Jvm.ClassFile.FieldType)) ∈ kw := kt_5 (List.mem_of_getElem? (i := 9) rfl) rfl
theorem kw_970 : (Jvm.Cond.constantLong "PathTextsLaw" (57 : Nat) (4294967295 : Int64)) ∈ kw := kt_5 (List.mem_of_getElem? (i := 10) rfl) rfl
/-! A static call of a method that catches, and the law's own words. -/
section KLW
variable {p : Program} {l : Launch} {e : Env} {R : Room} {s : State} {m : MethodId} {args : Array Value} {below : List Frame} {meth : Method} {c : Code} {H : Heap} {locs : List Loc} {cells slots : Nat}
theorem kl_runSW {y : MethodName} {bytes cc : ByteArray} {maxL nL mc ms n index : Nat} {ret : Option FieldType} {hh : List (Nat × Nat × Nat × Nat)} {ws ws' : List Cond} {rm : Room} {Pc : Array Value → State → Prop} {Qc : Array Value → State → Outcome → State → Prop} {free : Addr → Prop} {Ts : List Cond} {own : String} {As rest : List Value} {g : JFrame}
    (S : CallFix p m c cc nL s args Ts own) (hM : Met l y ws rm Pc Qc mc ms free) (hw : ws = Cond.codeWith y bytes maxL ret hh :: ws') (ht : ∀ w ∈ Ts, w.before args s = true) (hT : GoodIn Ts (va_wsS own index y ws)) (hrc : rm.cells = mc) (hrs : rm.slots = ms)
    (hd : y.cls ≠ "java/lang/invoke/MethodHandle" ∧ y.cls ≠ "java/lang/invoke/VarHandle" ∧ (parseMethodDescriptor y.desc).map (fun d => d.parameters.length) = some n) (hR : rm.frames + 1 ≤ R.frames ∧ 8 + (maxL + 11) + rm.locals ≤ R.locals) (hp : PreS s H Pc As)
    (hg : g.method = m) (hn : As.length = n) (hsize : g.locals.size = nL) (hstack : g.stack = As.reverse ++ rest) (hW : 2 * g.monitorRoom + (rest.map fun v => v.category).sum ≤ 8) (hdg : decode cc g.pc = .ok (.invokestatic index, 3)) (hf : cells + mc ≤ R.cells ∧ slots + ms ≤ R.slots) :
    va_Run p l e R s m args below meth c H locs cells slots mc ms g rest (Qc As.toArray) (free) := by
  have ok : ∀ w ∈ va_wsS own index y ws, w.before args s = true := fun w h => ht w (hT w h).1
  have hG : GoodIn Ts ws := fun w h => hT w (by unfold va_wsS; exact List.mem_append_right _ h)
  have hc : Cond.codeWith y bytes maxL ret hh ∈ ws := by rw [hw]; exact List.mem_cons_self
  have hlink : (Cond.methodLink own index y).before args s = true := ok _ (by simp [va_wsS])
  have hstat : (Cond.static y).before args s = true := ok _ (by simp [va_wsS])
  have hini : (Cond.initialized y.cls).before args s = true := ok _ (by simp [va_wsS])
  have hcode : (Cond.codeWith y bytes maxL ret hh).before args s = true := ht _ (hG _ hc).1
  have hK : Back l R p e below s args y 3 8 (PreOf R mc ms Pc) (PostOf Qc mc ms free) := va_backW (hh := hh) (bytes := bytes) (maxL := maxL) (ret := ret) hM hp.1 hrc hrs hR.1 hR.2 (pay_in ht hG) hc (fun a' U hW => word_at hW (Or.inl (by first | rfl | simp [Cond.onTables, Cond.keeps, Cond.steady])) hini)
  obtain ⟨hx, hb, hml, ho, -⟩ := S
  intro T hT2 X
  obtain ⟨mk, methM, cM, hnamed, hmethM, -, -, -, -, -, -, hsigM⟩ := Cond.codeWith_spec hcode
  have hstatic : methM.isStatic = true := Cond.static_spec hnamed hmethM hstat
  obtain ⟨kP, hkP, -⟩ := className_of_methodNamed hnamed
  have hinitP : kP.init = .initialized := Cond.initialized_spec (findClass_of_methodNamed hnamed) hkP hini
  have hlen : As.length = methM.sig.parameters.length := by
    have h2 := hd.2.2
    rw [hsigM] at h2
    exact hn.trans (Option.some.inj h2).symm
  have hdg' : decode c.code g.pc = .ok (.invokestatic index, 3) := by rw [hb]; exact hdg
  obtain ⟨vm₁, X₁, hstep₁⟩ := X.invokestatic hx ho hlink hnamed hmethM hstatic hkP hinitP ⟨hd.1, hd.2.1⟩ (g := g) hg (argsL := As) (rest := rest) hlen hstack hdg'
  obtain ⟨v, B, X', hpost, hsteps⟩ := hK m meth c ⟨T.setVm vm₁, locs, cells, slots⟩ { g with stack := rest } (.invokestatic index) mk As.toArray X₁ hg (hsize.trans hml.symm) hdg' hW (X₁.named hnamed) ⟨hf.1, hf.2, hp.2 (T.setVm vm₁) hT2 X₁.warmed⟩
  obtain ⟨U', l2, c2, s2⟩ := B
  obtain ⟨g', mk', t, L, e1, e2, hq, h1, hL, h2, h3⟩ := hpost
  dsimp only [Pt.U, Pt.locs, Pt.cells, Pt.slots] at X' e1 e2 h1 h2 h3 hsteps
  subst h1; subst h2; subst h3
  exact ⟨v, (T.setVm vm₁).calling g' mk' As.toArray, t, U', L, hT2, X', hL, e1, e2, hq, fun target h => hstep₁ _ fun acts => by rw [doInvoke_state]; exact hsteps.trans h⟩
end KLW
theorem kl_in3 {a b c1 c2 c3 : Cond} (h1 : c1 ∈ kw) (h2 : c2 ∈ kw) (h3 : c3 ∈ kw) (h : b ∈ kw) : GoodIn (a :: kw) ([c1, c2, c3] ++ (b :: kw)) := kw_in3 h1 h2 h3 h
theorem kl_c0 {k : Nat} (h : k ≤ 601024) : k + 0 ≤ room_1.cells := h
theorem kl_c1 {k : Nat} (h : k + 1 ≤ 601024) : k + 1 ≤ room_1.cells := h
theorem kl_s0 {k : Nat} (h : k ≤ 7293034) : k + 0 ≤ room_1.slots := h
theorem kl_s6 {k : Nat} (h : k + 6 ≤ 7293034) : k + 6 ≤ room_1.slots := h
theorem kl_hts {args : Array Value} {s : State} {a : Cond} (ha : a ∈ kw) (h : ∀ w ∈ lw_tbl, w.before args s = true) : ∀ w ∈ a :: kw, w.before args s = true := fun w hw => by
  rcases List.mem_cons.mp hw with rfl | hw
  · exact h _ (kw_tbl ha)
  · exact h _ (kw_tbl hw)
abbrev w_law : List Cond := .initialized "PathTexts" :: kw
theorem d_lw_0 : decode code 0 = .ok (.new 8, 3) := by decide +kernel
theorem d_lw_3 : decode code 3 = .ok (.dup, 1) := by decide +kernel
theorem d_lw_4 : decode code 4 = .ok (.invokespecial 53, 3) := by decide +kernel
theorem d_lw_7 : decode code 7 = .ok (.astore_n 1, 1) := by decide +kernel
theorem d_lw_8 : decode code 8 = .ok (.new 54, 3) := by decide +kernel
theorem d_lw_11 : decode code 11 = .ok (.dup, 1) := by decide +kernel
theorem d_lw_12 : decode code 12 = .ok (.invokespecial 56, 3) := by decide +kernel
theorem d_lw_15 : decode code 15 = .ok (.astore_n 2, 1) := by decide +kernel
theorem d_lw_16 : decode code 16 = .ok (.iconst 1, 1) := by decide +kernel
theorem d_lw_17 : decode code 17 = .ok (.newarray .long, 2) := by decide +kernel
theorem d_lw_19 : decode code 19 = .ok (.astore_n 3, 1) := by decide +kernel
theorem d_lw_20 : decode code 20 = .ok (.iconst 0, 1) := by decide +kernel
theorem d_lw_21 : decode code 21 = .ok (.istore 4, 2) := by decide +kernel
theorem d_lw_23 : decode code 23 = .ok (.iload 4, 2) := by decide +kernel
theorem d_lw_25 : decode code 25 = .ok (.aload_n 0, 1) := by decide +kernel
theorem d_lw_26 : decode code 26 = .ok (.arraylength, 1) := by decide +kernel
theorem d_lw_27 : decode code 27 = .ok (.bipush 7, 2) := by decide +kernel
theorem d_lw_29 : decode code 29 = .ok (.isub, 1) := by decide +kernel
theorem d_lw_30 : decode code 30 = .ok (.if_icmp .gt 893, 3) := by decide +kernel
theorem d_lw_33 : decode code 33 = .ok (.aload_n 0, 1) := by decide +kernel
theorem d_lw_34 : decode code 34 = .ok (.iload 4, 2) := by decide +kernel
theorem d_lw_36 : decode code 36 = .ok (.iaload, 1) := by decide +kernel
theorem d_lw_37 : decode code 37 = .ok (.bipush 15, 2) := by decide +kernel
theorem d_lw_39 : decode code 39 = .ok (.iand, 1) := by decide +kernel
theorem d_lw_40 : decode code 40 = .ok (.tableswitch 877 0 14 #[76, 164, 177, 245, 313, 431, 475, 531, 599, 612, 668, 748, 816, 841, 866], 76) := by decide +kernel
theorem d_lw_116 : decode code 116 = .ok (.aload_n 1, 1) := by decide +kernel
theorem d_lw_117 : decode code 117 = .ok (.aload_n 0, 1) := by decide +kernel
theorem d_lw_118 : decode code 118 = .ok (.iload 4, 2) := by decide +kernel
theorem d_lw_120 : decode code 120 = .ok (.iconst 1, 1) := by decide +kernel
theorem d_lw_121 : decode code 121 = .ok (.iadd, 1) := by decide +kernel
theorem d_lw_122 : decode code 122 = .ok (.iaload, 1) := by decide +kernel
theorem d_lw_123 : decode code 123 = .ok (.i2l, 1) := by decide +kernel
theorem d_lw_124 : decode code 124 = .ok (.bipush 32, 2) := by decide +kernel
theorem d_lw_126 : decode code 126 = .ok (.lshl, 1) := by decide +kernel
theorem d_lw_127 : decode code 127 = .ok (.aload_n 0, 1) := by decide +kernel
theorem d_lw_128 : decode code 128 = .ok (.iload 4, 2) := by decide +kernel
theorem d_lw_130 : decode code 130 = .ok (.iconst 2, 1) := by decide +kernel
theorem d_lw_131 : decode code 131 = .ok (.iadd, 1) := by decide +kernel
theorem d_lw_132 : decode code 132 = .ok (.iaload, 1) := by decide +kernel
theorem d_lw_133 : decode code 133 = .ok (.i2l, 1) := by decide +kernel
theorem d_lw_134 : decode code 134 = .ok (.ldc2_w 57, 3) := by decide +kernel
theorem d_lw_137 : decode code 137 = .ok (.land, 1) := by decide +kernel
theorem d_lw_138 : decode code 138 = .ok (.lor, 1) := by decide +kernel
theorem d_lw_139 : decode code 139 = .ok (.aload_n 3, 1) := by decide +kernel
theorem d_lw_140 : decode code 140 = .ok (.invokestatic 59, 3) := by decide +kernel
theorem d_lw_143 : decode code 143 = .ok (.istore 5, 2) := by decide +kernel
theorem d_lw_145 : decode code 145 = .ok (.aload_n 2, 1) := by decide +kernel
theorem d_lw_146 : decode code 146 = .ok (.aload_n 0, 1) := by decide +kernel
theorem d_lw_147 : decode code 147 = .ok (.iload 4, 2) := by decide +kernel
theorem d_lw_149 : decode code 149 = .ok (.iconst 1, 1) := by decide +kernel
theorem d_lw_150 : decode code 150 = .ok (.iadd, 1) := by decide +kernel
theorem d_lw_151 : decode code 151 = .ok (.iaload, 1) := by decide +kernel
theorem d_lw_152 : decode code 152 = .ok (.i2l, 1) := by decide +kernel
theorem d_lw_153 : decode code 153 = .ok (.bipush 32, 2) := by decide +kernel
theorem d_lw_155 : decode code 155 = .ok (.lshl, 1) := by decide +kernel
theorem d_lw_156 : decode code 156 = .ok (.aload_n 0, 1) := by decide +kernel
theorem d_lw_157 : decode code 157 = .ok (.iload 4, 2) := by decide +kernel
theorem d_lw_159 : decode code 159 = .ok (.iconst 2, 1) := by decide +kernel
theorem d_lw_160 : decode code 160 = .ok (.iadd, 1) := by decide +kernel
theorem d_lw_161 : decode code 161 = .ok (.iaload, 1) := by decide +kernel
theorem d_lw_162 : decode code 162 = .ok (.i2l, 1) := by decide +kernel
theorem d_lw_163 : decode code 163 = .ok (.ldc2_w 57, 3) := by decide +kernel
theorem d_lw_166 : decode code 166 = .ok (.land, 1) := by decide +kernel
theorem d_lw_167 : decode code 167 = .ok (.lor, 1) := by decide +kernel
theorem d_lw_168 : decode code 168 = .ok (.invokevirtual 64, 3) := by decide +kernel
theorem d_lw_171 : decode code 171 = .ok (.istore 6, 2) := by decide +kernel
theorem d_lw_173 : decode code 173 = .ok (.aload_n 2, 1) := by decide +kernel
theorem d_lw_174 : decode code 174 = .ok (.invokevirtual 65, 3) := by decide +kernel
theorem d_lw_177 : decode code 177 = .ok (.iload 5, 2) := by decide +kernel
theorem d_lw_179 : decode code 179 = .ok (.if_icmp .eq 5, 3) := by decide +kernel
theorem d_lw_182 : decode code 182 = .ok (.iconst 0, 1) := by decide +kernel
theorem d_lw_183 : decode code 183 = .ok (.ireturn, 1) := by decide +kernel
theorem d_lw_184 : decode code 184 = .ok (.iload 5, 2) := by decide +kernel
theorem d_lw_186 : decode code 186 = .ok (.ifCond .ne 15, 3) := by decide +kernel
theorem d_lw_189 : decode code 189 = .ok (.aload_n 3, 1) := by decide +kernel
theorem d_lw_190 : decode code 190 = .ok (.iconst 0, 1) := by decide +kernel
theorem d_lw_191 : decode code 191 = .ok (.laload, 1) := by decide +kernel
theorem d_lw_192 : decode code 192 = .ok (.iload 6, 2) := by decide +kernel
theorem d_lw_194 : decode code 194 = .ok (.i2l, 1) := by decide +kernel
theorem d_lw_195 : decode code 195 = .ok (.lcmp, 1) := by decide +kernel
theorem d_lw_196 : decode code 196 = .ok (.ifCond .eq 5, 3) := by decide +kernel
theorem d_lw_199 : decode code 199 = .ok (.iconst 0, 1) := by decide +kernel
theorem d_lw_200 : decode code 200 = .ok (.ireturn, 1) := by decide +kernel
theorem d_lw_201 : decode code 201 = .ok (.goto 716, 3) := by decide +kernel
theorem d_lw_204 : decode code 204 = .ok (.aload_n 1, 1) := by decide +kernel
theorem d_lw_205 : decode code 205 = .ok (.invokevirtual 68, 3) := by decide +kernel
theorem d_lw_208 : decode code 208 = .ok (.aload_n 2, 1) := by decide +kernel
theorem d_lw_209 : decode code 209 = .ok (.invokevirtual 71, 3) := by decide +kernel
theorem d_lw_212 : decode code 212 = .ok (.if_icmp .eq 705, 3) := by decide +kernel
theorem d_lw_215 : decode code 215 = .ok (.iconst 0, 1) := by decide +kernel
theorem d_lw_216 : decode code 216 = .ok (.ireturn, 1) := by decide +kernel
theorem d_lw_217 : decode code 217 = .ok (.aload_n 1, 1) := by decide +kernel
theorem d_lw_218 : decode code 218 = .ok (.aload_n 0, 1) := by decide +kernel
theorem d_lw_219 : decode code 219 = .ok (.iload 4, 2) := by decide +kernel
theorem d_lw_221 : decode code 221 = .ok (.iconst 1, 1) := by decide +kernel
theorem d_lw_222 : decode code 222 = .ok (.iadd, 1) := by decide +kernel
theorem d_lw_223 : decode code 223 = .ok (.iaload, 1) := by decide +kernel
theorem d_lw_224 : decode code 224 = .ok (.aload_n 0, 1) := by decide +kernel
theorem d_lw_225 : decode code 225 = .ok (.iload 4, 2) := by decide +kernel
theorem d_lw_227 : decode code 227 = .ok (.iconst 2, 1) := by decide +kernel
theorem d_lw_228 : decode code 228 = .ok (.iadd, 1) := by decide +kernel
theorem d_lw_229 : decode code 229 = .ok (.iaload, 1) := by decide +kernel
theorem d_lw_230 : decode code 230 = .ok (.aload_n 3, 1) := by decide +kernel
theorem d_lw_231 : decode code 231 = .ok (.invokestatic 72, 3) := by decide +kernel
theorem d_lw_234 : decode code 234 = .ok (.istore 5, 2) := by decide +kernel
theorem d_lw_236 : decode code 236 = .ok (.aload_n 2, 1) := by decide +kernel
theorem d_lw_237 : decode code 237 = .ok (.aload_n 0, 1) := by decide +kernel
theorem d_lw_238 : decode code 238 = .ok (.iload 4, 2) := by decide +kernel
theorem d_lw_240 : decode code 240 = .ok (.iconst 1, 1) := by decide +kernel
theorem d_lw_241 : decode code 241 = .ok (.iadd, 1) := by decide +kernel
theorem d_lw_242 : decode code 242 = .ok (.iaload, 1) := by decide +kernel
theorem d_lw_243 : decode code 243 = .ok (.aload_n 0, 1) := by decide +kernel
theorem d_lw_244 : decode code 244 = .ok (.iload 4, 2) := by decide +kernel
theorem d_lw_246 : decode code 246 = .ok (.iconst 2, 1) := by decide +kernel
theorem d_lw_247 : decode code 247 = .ok (.iadd, 1) := by decide +kernel
theorem d_lw_248 : decode code 248 = .ok (.iaload, 1) := by decide +kernel
theorem d_lw_249 : decode code 249 = .ok (.invokevirtual 75, 3) := by decide +kernel
theorem d_lw_252 : decode code 252 = .ok (.istore 6, 2) := by decide +kernel
theorem d_lw_254 : decode code 254 = .ok (.aload_n 2, 1) := by decide +kernel
theorem d_lw_255 : decode code 255 = .ok (.invokevirtual 65, 3) := by decide +kernel
theorem d_lw_258 : decode code 258 = .ok (.iload 5, 2) := by decide +kernel
theorem d_lw_260 : decode code 260 = .ok (.if_icmp .eq 5, 3) := by decide +kernel
theorem d_lw_263 : decode code 263 = .ok (.iconst 0, 1) := by decide +kernel
theorem d_lw_264 : decode code 264 = .ok (.ireturn, 1) := by decide +kernel
theorem d_lw_265 : decode code 265 = .ok (.iload 5, 2) := by decide +kernel
theorem d_lw_267 : decode code 267 = .ok (.ifCond .ne 15, 3) := by decide +kernel
theorem d_lw_270 : decode code 270 = .ok (.aload_n 3, 1) := by decide +kernel
theorem d_lw_271 : decode code 271 = .ok (.iconst 0, 1) := by decide +kernel
theorem d_lw_272 : decode code 272 = .ok (.laload, 1) := by decide +kernel
theorem d_lw_273 : decode code 273 = .ok (.iload 6, 2) := by decide +kernel
theorem d_lw_275 : decode code 275 = .ok (.i2l, 1) := by decide +kernel
theorem d_lw_276 : decode code 276 = .ok (.lcmp, 1) := by decide +kernel
theorem d_lw_277 : decode code 277 = .ok (.ifCond .eq 5, 3) := by decide +kernel
theorem d_lw_280 : decode code 280 = .ok (.iconst 0, 1) := by decide +kernel
theorem d_lw_281 : decode code 281 = .ok (.ireturn, 1) := by decide +kernel
theorem d_lw_282 : decode code 282 = .ok (.goto 635, 3) := by decide +kernel
theorem d_lw_285 : decode code 285 = .ok (.aload_n 1, 1) := by decide +kernel
theorem d_lw_286 : decode code 286 = .ok (.aload_n 0, 1) := by decide +kernel
theorem d_lw_287 : decode code 287 = .ok (.iload 4, 2) := by decide +kernel
theorem d_lw_289 : decode code 289 = .ok (.iconst 1, 1) := by decide +kernel
theorem d_lw_290 : decode code 290 = .ok (.iadd, 1) := by decide +kernel
theorem d_lw_291 : decode code 291 = .ok (.iaload, 1) := by decide +kernel
theorem d_lw_292 : decode code 292 = .ok (.aload_n 0, 1) := by decide +kernel
theorem d_lw_293 : decode code 293 = .ok (.iload 4, 2) := by decide +kernel
theorem d_lw_295 : decode code 295 = .ok (.iconst 2, 1) := by decide +kernel
theorem d_lw_296 : decode code 296 = .ok (.iadd, 1) := by decide +kernel
theorem d_lw_297 : decode code 297 = .ok (.iaload, 1) := by decide +kernel
theorem d_lw_298 : decode code 298 = .ok (.aload_n 3, 1) := by decide +kernel
theorem d_lw_299 : decode code 299 = .ok (.invokestatic 76, 3) := by decide +kernel
theorem d_lw_302 : decode code 302 = .ok (.istore 5, 2) := by decide +kernel
theorem d_lw_304 : decode code 304 = .ok (.aload_n 2, 1) := by decide +kernel
theorem d_lw_305 : decode code 305 = .ok (.aload_n 0, 1) := by decide +kernel
theorem d_lw_306 : decode code 306 = .ok (.iload 4, 2) := by decide +kernel
theorem d_lw_308 : decode code 308 = .ok (.iconst 1, 1) := by decide +kernel
theorem d_lw_309 : decode code 309 = .ok (.iadd, 1) := by decide +kernel
theorem d_lw_310 : decode code 310 = .ok (.iaload, 1) := by decide +kernel
theorem d_lw_311 : decode code 311 = .ok (.aload_n 0, 1) := by decide +kernel
theorem d_lw_312 : decode code 312 = .ok (.iload 4, 2) := by decide +kernel
theorem d_lw_314 : decode code 314 = .ok (.iconst 2, 1) := by decide +kernel
theorem d_lw_315 : decode code 315 = .ok (.iadd, 1) := by decide +kernel
theorem d_lw_316 : decode code 316 = .ok (.iaload, 1) := by decide +kernel
theorem d_lw_317 : decode code 317 = .ok (.invokevirtual 78, 3) := by decide +kernel
theorem d_lw_320 : decode code 320 = .ok (.istore 6, 2) := by decide +kernel
theorem d_lw_322 : decode code 322 = .ok (.aload_n 2, 1) := by decide +kernel
theorem d_lw_323 : decode code 323 = .ok (.invokevirtual 65, 3) := by decide +kernel
theorem d_lw_326 : decode code 326 = .ok (.iload 5, 2) := by decide +kernel
theorem d_lw_328 : decode code 328 = .ok (.if_icmp .eq 5, 3) := by decide +kernel
theorem d_lw_331 : decode code 331 = .ok (.iconst 0, 1) := by decide +kernel
theorem d_lw_332 : decode code 332 = .ok (.ireturn, 1) := by decide +kernel
theorem d_lw_333 : decode code 333 = .ok (.iload 5, 2) := by decide +kernel
theorem d_lw_335 : decode code 335 = .ok (.ifCond .ne 15, 3) := by decide +kernel
theorem d_lw_338 : decode code 338 = .ok (.aload_n 3, 1) := by decide +kernel
theorem d_lw_339 : decode code 339 = .ok (.iconst 0, 1) := by decide +kernel
theorem d_lw_340 : decode code 340 = .ok (.laload, 1) := by decide +kernel
theorem d_lw_341 : decode code 341 = .ok (.iload 6, 2) := by decide +kernel
theorem d_lw_343 : decode code 343 = .ok (.i2l, 1) := by decide +kernel
theorem d_lw_344 : decode code 344 = .ok (.lcmp, 1) := by decide +kernel
theorem d_lw_345 : decode code 345 = .ok (.ifCond .eq 5, 3) := by decide +kernel
theorem d_lw_348 : decode code 348 = .ok (.iconst 0, 1) := by decide +kernel
theorem d_lw_349 : decode code 349 = .ok (.ireturn, 1) := by decide +kernel
theorem d_lw_350 : decode code 350 = .ok (.goto 567, 3) := by decide +kernel
theorem d_lw_353 : decode code 353 = .ok (.aload_n 1, 1) := by decide +kernel
theorem d_lw_354 : decode code 354 = .ok (.aload_n 0, 1) := by decide +kernel
theorem d_lw_355 : decode code 355 = .ok (.iload 4, 2) := by decide +kernel
theorem d_lw_357 : decode code 357 = .ok (.iconst 1, 1) := by decide +kernel
theorem d_lw_358 : decode code 358 = .ok (.iadd, 1) := by decide +kernel
theorem d_lw_359 : decode code 359 = .ok (.iaload, 1) := by decide +kernel
theorem d_lw_360 : decode code 360 = .ok (.aload_n 0, 1) := by decide +kernel
theorem d_lw_361 : decode code 361 = .ok (.iload 4, 2) := by decide +kernel
theorem d_lw_363 : decode code 363 = .ok (.iconst 2, 1) := by decide +kernel
theorem d_lw_364 : decode code 364 = .ok (.iadd, 1) := by decide +kernel
theorem d_lw_365 : decode code 365 = .ok (.iaload, 1) := by decide +kernel
theorem d_lw_366 : decode code 366 = .ok (.aload_n 0, 1) := by decide +kernel
theorem d_lw_367 : decode code 367 = .ok (.iload 4, 2) := by decide +kernel
theorem d_lw_369 : decode code 369 = .ok (.iconst 3, 1) := by decide +kernel
theorem d_lw_370 : decode code 370 = .ok (.iadd, 1) := by decide +kernel
theorem d_lw_371 : decode code 371 = .ok (.iaload, 1) := by decide +kernel
theorem d_lw_372 : decode code 372 = .ok (.aload_n 0, 1) := by decide +kernel
theorem d_lw_373 : decode code 373 = .ok (.iload 4, 2) := by decide +kernel
theorem d_lw_375 : decode code 375 = .ok (.iconst 4, 1) := by decide +kernel
theorem d_lw_376 : decode code 376 = .ok (.iadd, 1) := by decide +kernel
theorem d_lw_377 : decode code 377 = .ok (.iaload, 1) := by decide +kernel
theorem d_lw_378 : decode code 378 = .ok (.aload_n 0, 1) := by decide +kernel
theorem d_lw_379 : decode code 379 = .ok (.iload 4, 2) := by decide +kernel
theorem d_lw_381 : decode code 381 = .ok (.iconst 5, 1) := by decide +kernel
theorem d_lw_382 : decode code 382 = .ok (.iadd, 1) := by decide +kernel
theorem d_lw_383 : decode code 383 = .ok (.iaload, 1) := by decide +kernel
theorem d_lw_384 : decode code 384 = .ok (.aload_n 0, 1) := by decide +kernel
theorem d_lw_385 : decode code 385 = .ok (.iload 4, 2) := by decide +kernel
theorem d_lw_387 : decode code 387 = .ok (.bipush 6, 2) := by decide +kernel
theorem d_lw_389 : decode code 389 = .ok (.iadd, 1) := by decide +kernel
theorem d_lw_390 : decode code 390 = .ok (.iaload, 1) := by decide +kernel
theorem d_lw_391 : decode code 391 = .ok (.aload_n 3, 1) := by decide +kernel
theorem d_lw_392 : decode code 392 = .ok (.invokestatic 79, 3) := by decide +kernel
theorem d_lw_395 : decode code 395 = .ok (.istore 5, 2) := by decide +kernel
theorem d_lw_397 : decode code 397 = .ok (.aload_n 2, 1) := by decide +kernel
theorem d_lw_398 : decode code 398 = .ok (.aload_n 0, 1) := by decide +kernel
theorem d_lw_399 : decode code 399 = .ok (.iload 4, 2) := by decide +kernel
theorem d_lw_401 : decode code 401 = .ok (.iconst 1, 1) := by decide +kernel
theorem d_lw_402 : decode code 402 = .ok (.iadd, 1) := by decide +kernel
theorem d_lw_403 : decode code 403 = .ok (.iaload, 1) := by decide +kernel
theorem d_lw_404 : decode code 404 = .ok (.aload_n 0, 1) := by decide +kernel
theorem d_lw_405 : decode code 405 = .ok (.iload 4, 2) := by decide +kernel
theorem d_lw_407 : decode code 407 = .ok (.iconst 2, 1) := by decide +kernel
theorem d_lw_408 : decode code 408 = .ok (.iadd, 1) := by decide +kernel
theorem d_lw_409 : decode code 409 = .ok (.iaload, 1) := by decide +kernel
theorem d_lw_410 : decode code 410 = .ok (.aload_n 0, 1) := by decide +kernel
theorem d_lw_411 : decode code 411 = .ok (.iload 4, 2) := by decide +kernel
theorem d_lw_413 : decode code 413 = .ok (.iconst 3, 1) := by decide +kernel
theorem d_lw_414 : decode code 414 = .ok (.iadd, 1) := by decide +kernel
theorem d_lw_415 : decode code 415 = .ok (.iaload, 1) := by decide +kernel
theorem d_lw_416 : decode code 416 = .ok (.aload_n 0, 1) := by decide +kernel
theorem d_lw_417 : decode code 417 = .ok (.iload 4, 2) := by decide +kernel
theorem d_lw_419 : decode code 419 = .ok (.iconst 4, 1) := by decide +kernel
theorem d_lw_420 : decode code 420 = .ok (.iadd, 1) := by decide +kernel
theorem d_lw_421 : decode code 421 = .ok (.iaload, 1) := by decide +kernel
theorem d_lw_422 : decode code 422 = .ok (.aload_n 0, 1) := by decide +kernel
theorem d_lw_423 : decode code 423 = .ok (.iload 4, 2) := by decide +kernel
theorem d_lw_425 : decode code 425 = .ok (.iconst 5, 1) := by decide +kernel
theorem d_lw_426 : decode code 426 = .ok (.iadd, 1) := by decide +kernel
theorem d_lw_427 : decode code 427 = .ok (.iaload, 1) := by decide +kernel
theorem d_lw_428 : decode code 428 = .ok (.aload_n 0, 1) := by decide +kernel
theorem d_lw_429 : decode code 429 = .ok (.iload 4, 2) := by decide +kernel
theorem d_lw_431 : decode code 431 = .ok (.bipush 6, 2) := by decide +kernel
theorem d_lw_433 : decode code 433 = .ok (.iadd, 1) := by decide +kernel
theorem d_lw_434 : decode code 434 = .ok (.iaload, 1) := by decide +kernel
theorem d_lw_435 : decode code 435 = .ok (.invokevirtual 82, 3) := by decide +kernel
theorem d_lw_438 : decode code 438 = .ok (.istore 6, 2) := by decide +kernel
theorem d_lw_440 : decode code 440 = .ok (.aload_n 2, 1) := by decide +kernel
theorem d_lw_441 : decode code 441 = .ok (.invokevirtual 65, 3) := by decide +kernel
theorem d_lw_444 : decode code 444 = .ok (.iload 5, 2) := by decide +kernel
theorem d_lw_446 : decode code 446 = .ok (.if_icmp .eq 5, 3) := by decide +kernel
theorem d_lw_449 : decode code 449 = .ok (.iconst 0, 1) := by decide +kernel
theorem d_lw_450 : decode code 450 = .ok (.ireturn, 1) := by decide +kernel
theorem d_lw_451 : decode code 451 = .ok (.iload 5, 2) := by decide +kernel
theorem d_lw_453 : decode code 453 = .ok (.ifCond .ne 15, 3) := by decide +kernel
theorem d_lw_456 : decode code 456 = .ok (.aload_n 3, 1) := by decide +kernel
theorem d_lw_457 : decode code 457 = .ok (.iconst 0, 1) := by decide +kernel
theorem d_lw_458 : decode code 458 = .ok (.laload, 1) := by decide +kernel
theorem d_lw_459 : decode code 459 = .ok (.iload 6, 2) := by decide +kernel
theorem d_lw_461 : decode code 461 = .ok (.i2l, 1) := by decide +kernel
theorem d_lw_462 : decode code 462 = .ok (.lcmp, 1) := by decide +kernel
theorem d_lw_463 : decode code 463 = .ok (.ifCond .eq 5, 3) := by decide +kernel
theorem d_lw_466 : decode code 466 = .ok (.iconst 0, 1) := by decide +kernel
theorem d_lw_467 : decode code 467 = .ok (.ireturn, 1) := by decide +kernel
theorem d_lw_468 : decode code 468 = .ok (.goto 449, 3) := by decide +kernel
theorem d_lw_471 : decode code 471 = .ok (.aload_n 1, 1) := by decide +kernel
theorem d_lw_472 : decode code 472 = .ok (.aload_n 3, 1) := by decide +kernel
theorem d_lw_473 : decode code 473 = .ok (.invokestatic 83, 3) := by decide +kernel
theorem d_lw_476 : decode code 476 = .ok (.istore 5, 2) := by decide +kernel
theorem d_lw_478 : decode code 478 = .ok (.aload_n 2, 1) := by decide +kernel
theorem d_lw_479 : decode code 479 = .ok (.invokevirtual 86, 3) := by decide +kernel
theorem d_lw_482 : decode code 482 = .ok (.istore 6, 2) := by decide +kernel
theorem d_lw_484 : decode code 484 = .ok (.aload_n 2, 1) := by decide +kernel
theorem d_lw_485 : decode code 485 = .ok (.invokevirtual 65, 3) := by decide +kernel
theorem d_lw_488 : decode code 488 = .ok (.iload 5, 2) := by decide +kernel
theorem d_lw_490 : decode code 490 = .ok (.if_icmp .eq 5, 3) := by decide +kernel
theorem d_lw_493 : decode code 493 = .ok (.iconst 0, 1) := by decide +kernel
theorem d_lw_494 : decode code 494 = .ok (.ireturn, 1) := by decide +kernel
theorem d_lw_495 : decode code 495 = .ok (.iload 5, 2) := by decide +kernel
theorem d_lw_497 : decode code 497 = .ok (.ifCond .ne 15, 3) := by decide +kernel
theorem d_lw_500 : decode code 500 = .ok (.aload_n 3, 1) := by decide +kernel
theorem d_lw_501 : decode code 501 = .ok (.iconst 0, 1) := by decide +kernel
theorem d_lw_502 : decode code 502 = .ok (.laload, 1) := by decide +kernel
theorem d_lw_503 : decode code 503 = .ok (.iload 6, 2) := by decide +kernel
theorem d_lw_505 : decode code 505 = .ok (.i2l, 1) := by decide +kernel
theorem d_lw_506 : decode code 506 = .ok (.lcmp, 1) := by decide +kernel
theorem d_lw_507 : decode code 507 = .ok (.ifCond .eq 5, 3) := by decide +kernel
theorem d_lw_510 : decode code 510 = .ok (.iconst 0, 1) := by decide +kernel
theorem d_lw_511 : decode code 511 = .ok (.ireturn, 1) := by decide +kernel
theorem d_lw_512 : decode code 512 = .ok (.goto 405, 3) := by decide +kernel
theorem d_lw_515 : decode code 515 = .ok (.aload_n 1, 1) := by decide +kernel
theorem d_lw_516 : decode code 516 = .ok (.aload_n 0, 1) := by decide +kernel
theorem d_lw_517 : decode code 517 = .ok (.iload 4, 2) := by decide +kernel
theorem d_lw_519 : decode code 519 = .ok (.iconst 1, 1) := by decide +kernel
theorem d_lw_520 : decode code 520 = .ok (.iadd, 1) := by decide +kernel
theorem d_lw_521 : decode code 521 = .ok (.iaload, 1) := by decide +kernel
theorem d_lw_522 : decode code 522 = .ok (.aload_n 3, 1) := by decide +kernel
theorem d_lw_523 : decode code 523 = .ok (.invokestatic 87, 3) := by decide +kernel
theorem d_lw_526 : decode code 526 = .ok (.istore 5, 2) := by decide +kernel
theorem d_lw_528 : decode code 528 = .ok (.aload_n 2, 1) := by decide +kernel
theorem d_lw_529 : decode code 529 = .ok (.aload_n 0, 1) := by decide +kernel
theorem d_lw_530 : decode code 530 = .ok (.iload 4, 2) := by decide +kernel
theorem d_lw_532 : decode code 532 = .ok (.iconst 1, 1) := by decide +kernel
theorem d_lw_533 : decode code 533 = .ok (.iadd, 1) := by decide +kernel
theorem d_lw_534 : decode code 534 = .ok (.iaload, 1) := by decide +kernel
theorem d_lw_535 : decode code 535 = .ok (.invokevirtual 90, 3) := by decide +kernel
theorem d_lw_538 : decode code 538 = .ok (.istore 6, 2) := by decide +kernel
theorem d_lw_540 : decode code 540 = .ok (.aload_n 2, 1) := by decide +kernel
theorem d_lw_541 : decode code 541 = .ok (.invokevirtual 65, 3) := by decide +kernel
theorem d_lw_544 : decode code 544 = .ok (.iload 5, 2) := by decide +kernel
theorem d_lw_546 : decode code 546 = .ok (.if_icmp .eq 5, 3) := by decide +kernel
theorem d_lw_549 : decode code 549 = .ok (.iconst 0, 1) := by decide +kernel
theorem d_lw_550 : decode code 550 = .ok (.ireturn, 1) := by decide +kernel
theorem d_lw_551 : decode code 551 = .ok (.iload 5, 2) := by decide +kernel
theorem d_lw_553 : decode code 553 = .ok (.ifCond .ne 15, 3) := by decide +kernel
theorem d_lw_556 : decode code 556 = .ok (.aload_n 3, 1) := by decide +kernel
theorem d_lw_557 : decode code 557 = .ok (.iconst 0, 1) := by decide +kernel
theorem d_lw_558 : decode code 558 = .ok (.laload, 1) := by decide +kernel
theorem d_lw_559 : decode code 559 = .ok (.iload 6, 2) := by decide +kernel
theorem d_lw_561 : decode code 561 = .ok (.i2l, 1) := by decide +kernel
theorem d_lw_562 : decode code 562 = .ok (.lcmp, 1) := by decide +kernel
theorem d_lw_563 : decode code 563 = .ok (.ifCond .eq 5, 3) := by decide +kernel
theorem d_lw_566 : decode code 566 = .ok (.iconst 0, 1) := by decide +kernel
theorem d_lw_567 : decode code 567 = .ok (.ireturn, 1) := by decide +kernel
theorem d_lw_568 : decode code 568 = .ok (.goto 349, 3) := by decide +kernel
theorem d_lw_571 : decode code 571 = .ok (.aload_n 1, 1) := by decide +kernel
theorem d_lw_572 : decode code 572 = .ok (.aload_n 0, 1) := by decide +kernel
theorem d_lw_573 : decode code 573 = .ok (.iload 4, 2) := by decide +kernel
theorem d_lw_575 : decode code 575 = .ok (.iconst 1, 1) := by decide +kernel
theorem d_lw_576 : decode code 576 = .ok (.iadd, 1) := by decide +kernel
theorem d_lw_577 : decode code 577 = .ok (.iaload, 1) := by decide +kernel
theorem d_lw_578 : decode code 578 = .ok (.aload_n 0, 1) := by decide +kernel
theorem d_lw_579 : decode code 579 = .ok (.iload 4, 2) := by decide +kernel
theorem d_lw_581 : decode code 581 = .ok (.iconst 2, 1) := by decide +kernel
theorem d_lw_582 : decode code 582 = .ok (.iadd, 1) := by decide +kernel
theorem d_lw_583 : decode code 583 = .ok (.iaload, 1) := by decide +kernel
theorem d_lw_584 : decode code 584 = .ok (.aload_n 3, 1) := by decide +kernel
theorem d_lw_585 : decode code 585 = .ok (.invokestatic 91, 3) := by decide +kernel
theorem d_lw_588 : decode code 588 = .ok (.istore 5, 2) := by decide +kernel
theorem d_lw_590 : decode code 590 = .ok (.aload_n 2, 1) := by decide +kernel
theorem d_lw_591 : decode code 591 = .ok (.aload_n 0, 1) := by decide +kernel
theorem d_lw_592 : decode code 592 = .ok (.iload 4, 2) := by decide +kernel
theorem d_lw_594 : decode code 594 = .ok (.iconst 1, 1) := by decide +kernel
theorem d_lw_595 : decode code 595 = .ok (.iadd, 1) := by decide +kernel
theorem d_lw_596 : decode code 596 = .ok (.iaload, 1) := by decide +kernel
theorem d_lw_597 : decode code 597 = .ok (.aload_n 0, 1) := by decide +kernel
theorem d_lw_598 : decode code 598 = .ok (.iload 4, 2) := by decide +kernel
theorem d_lw_600 : decode code 600 = .ok (.iconst 2, 1) := by decide +kernel
theorem d_lw_601 : decode code 601 = .ok (.iadd, 1) := by decide +kernel
theorem d_lw_602 : decode code 602 = .ok (.iaload, 1) := by decide +kernel
theorem d_lw_603 : decode code 603 = .ok (.invokevirtual 93, 3) := by decide +kernel
theorem d_lw_606 : decode code 606 = .ok (.istore 6, 2) := by decide +kernel
theorem d_lw_608 : decode code 608 = .ok (.aload_n 2, 1) := by decide +kernel
theorem d_lw_609 : decode code 609 = .ok (.invokevirtual 65, 3) := by decide +kernel
theorem d_lw_612 : decode code 612 = .ok (.iload 5, 2) := by decide +kernel
theorem d_lw_614 : decode code 614 = .ok (.if_icmp .eq 5, 3) := by decide +kernel
theorem d_lw_617 : decode code 617 = .ok (.iconst 0, 1) := by decide +kernel
theorem d_lw_618 : decode code 618 = .ok (.ireturn, 1) := by decide +kernel
theorem d_lw_619 : decode code 619 = .ok (.iload 5, 2) := by decide +kernel
theorem d_lw_621 : decode code 621 = .ok (.ifCond .ne 15, 3) := by decide +kernel
theorem d_lw_624 : decode code 624 = .ok (.aload_n 3, 1) := by decide +kernel
theorem d_lw_625 : decode code 625 = .ok (.iconst 0, 1) := by decide +kernel
theorem d_lw_626 : decode code 626 = .ok (.laload, 1) := by decide +kernel
theorem d_lw_627 : decode code 627 = .ok (.iload 6, 2) := by decide +kernel
theorem d_lw_629 : decode code 629 = .ok (.i2l, 1) := by decide +kernel
theorem d_lw_630 : decode code 630 = .ok (.lcmp, 1) := by decide +kernel
theorem d_lw_631 : decode code 631 = .ok (.ifCond .eq 5, 3) := by decide +kernel
theorem d_lw_634 : decode code 634 = .ok (.iconst 0, 1) := by decide +kernel
theorem d_lw_635 : decode code 635 = .ok (.ireturn, 1) := by decide +kernel
theorem d_lw_636 : decode code 636 = .ok (.goto 281, 3) := by decide +kernel
theorem d_lw_639 : decode code 639 = .ok (.aload_n 1, 1) := by decide +kernel
theorem d_lw_640 : decode code 640 = .ok (.invokevirtual 94, 3) := by decide +kernel
theorem d_lw_643 : decode code 643 = .ok (.aload_n 2, 1) := by decide +kernel
theorem d_lw_644 : decode code 644 = .ok (.invokevirtual 97, 3) := by decide +kernel
theorem d_lw_647 : decode code 647 = .ok (.if_icmp .eq 270, 3) := by decide +kernel
theorem d_lw_650 : decode code 650 = .ok (.iconst 0, 1) := by decide +kernel
theorem d_lw_651 : decode code 651 = .ok (.ireturn, 1) := by decide +kernel
theorem d_lw_652 : decode code 652 = .ok (.aload_n 1, 1) := by decide +kernel
theorem d_lw_653 : decode code 653 = .ok (.aload_n 0, 1) := by decide +kernel
theorem d_lw_654 : decode code 654 = .ok (.iload 4, 2) := by decide +kernel
theorem d_lw_656 : decode code 656 = .ok (.iconst 1, 1) := by decide +kernel
theorem d_lw_657 : decode code 657 = .ok (.iadd, 1) := by decide +kernel
theorem d_lw_658 : decode code 658 = .ok (.iaload, 1) := by decide +kernel
theorem d_lw_659 : decode code 659 = .ok (.aload_n 3, 1) := by decide +kernel
theorem d_lw_660 : decode code 660 = .ok (.invokestatic 98, 3) := by decide +kernel
theorem d_lw_663 : decode code 663 = .ok (.istore 5, 2) := by decide +kernel
theorem d_lw_665 : decode code 665 = .ok (.aload_n 2, 1) := by decide +kernel
theorem d_lw_666 : decode code 666 = .ok (.aload_n 0, 1) := by decide +kernel
theorem d_lw_667 : decode code 667 = .ok (.iload 4, 2) := by decide +kernel
theorem d_lw_669 : decode code 669 = .ok (.iconst 1, 1) := by decide +kernel
theorem d_lw_670 : decode code 670 = .ok (.iadd, 1) := by decide +kernel
theorem d_lw_671 : decode code 671 = .ok (.iaload, 1) := by decide +kernel
theorem d_lw_672 : decode code 672 = .ok (.invokevirtual 100, 3) := by decide +kernel
theorem d_lw_675 : decode code 675 = .ok (.istore 6, 2) := by decide +kernel
theorem d_lw_677 : decode code 677 = .ok (.aload_n 2, 1) := by decide +kernel
theorem d_lw_678 : decode code 678 = .ok (.invokevirtual 65, 3) := by decide +kernel
theorem d_lw_681 : decode code 681 = .ok (.iload 5, 2) := by decide +kernel
theorem d_lw_683 : decode code 683 = .ok (.if_icmp .eq 5, 3) := by decide +kernel
theorem d_lw_686 : decode code 686 = .ok (.iconst 0, 1) := by decide +kernel
theorem d_lw_687 : decode code 687 = .ok (.ireturn, 1) := by decide +kernel
theorem d_lw_688 : decode code 688 = .ok (.iload 5, 2) := by decide +kernel
theorem d_lw_690 : decode code 690 = .ok (.ifCond .ne 15, 3) := by decide +kernel
theorem d_lw_693 : decode code 693 = .ok (.aload_n 3, 1) := by decide +kernel
theorem d_lw_694 : decode code 694 = .ok (.iconst 0, 1) := by decide +kernel
theorem d_lw_695 : decode code 695 = .ok (.laload, 1) := by decide +kernel
theorem d_lw_696 : decode code 696 = .ok (.iload 6, 2) := by decide +kernel
theorem d_lw_698 : decode code 698 = .ok (.i2l, 1) := by decide +kernel
theorem d_lw_699 : decode code 699 = .ok (.lcmp, 1) := by decide +kernel
theorem d_lw_700 : decode code 700 = .ok (.ifCond .eq 5, 3) := by decide +kernel
theorem d_lw_703 : decode code 703 = .ok (.iconst 0, 1) := by decide +kernel
theorem d_lw_704 : decode code 704 = .ok (.ireturn, 1) := by decide +kernel
theorem d_lw_705 : decode code 705 = .ok (.goto 212, 3) := by decide +kernel
theorem d_lw_708 : decode code 708 = .ok (.aload_n 1, 1) := by decide +kernel
theorem d_lw_709 : decode code 709 = .ok (.aload_n 0, 1) := by decide +kernel
theorem d_lw_710 : decode code 710 = .ok (.iload 4, 2) := by decide +kernel
theorem d_lw_712 : decode code 712 = .ok (.iconst 1, 1) := by decide +kernel
theorem d_lw_713 : decode code 713 = .ok (.iadd, 1) := by decide +kernel
theorem d_lw_714 : decode code 714 = .ok (.iaload, 1) := by decide +kernel
theorem d_lw_715 : decode code 715 = .ok (.aload_n 0, 1) := by decide +kernel
theorem d_lw_716 : decode code 716 = .ok (.iload 4, 2) := by decide +kernel
theorem d_lw_718 : decode code 718 = .ok (.iconst 2, 1) := by decide +kernel
theorem d_lw_719 : decode code 719 = .ok (.iadd, 1) := by decide +kernel
theorem d_lw_720 : decode code 720 = .ok (.iaload, 1) := by decide +kernel
theorem d_lw_721 : decode code 721 = .ok (.aload_n 0, 1) := by decide +kernel
theorem d_lw_722 : decode code 722 = .ok (.iload 4, 2) := by decide +kernel
theorem d_lw_724 : decode code 724 = .ok (.iconst 3, 1) := by decide +kernel
theorem d_lw_725 : decode code 725 = .ok (.iadd, 1) := by decide +kernel
theorem d_lw_726 : decode code 726 = .ok (.iaload, 1) := by decide +kernel
theorem d_lw_727 : decode code 727 = .ok (.aload_n 3, 1) := by decide +kernel
theorem d_lw_728 : decode code 728 = .ok (.invokestatic 101, 3) := by decide +kernel
theorem d_lw_731 : decode code 731 = .ok (.istore 5, 2) := by decide +kernel
theorem d_lw_733 : decode code 733 = .ok (.aload_n 2, 1) := by decide +kernel
theorem d_lw_734 : decode code 734 = .ok (.aload_n 0, 1) := by decide +kernel
theorem d_lw_735 : decode code 735 = .ok (.iload 4, 2) := by decide +kernel
theorem d_lw_737 : decode code 737 = .ok (.iconst 1, 1) := by decide +kernel
theorem d_lw_738 : decode code 738 = .ok (.iadd, 1) := by decide +kernel
theorem d_lw_739 : decode code 739 = .ok (.iaload, 1) := by decide +kernel
theorem d_lw_740 : decode code 740 = .ok (.aload_n 0, 1) := by decide +kernel
theorem d_lw_741 : decode code 741 = .ok (.iload 4, 2) := by decide +kernel
theorem d_lw_743 : decode code 743 = .ok (.iconst 2, 1) := by decide +kernel
theorem d_lw_744 : decode code 744 = .ok (.iadd, 1) := by decide +kernel
theorem d_lw_745 : decode code 745 = .ok (.iaload, 1) := by decide +kernel
theorem d_lw_746 : decode code 746 = .ok (.aload_n 0, 1) := by decide +kernel
theorem d_lw_747 : decode code 747 = .ok (.iload 4, 2) := by decide +kernel
theorem d_lw_749 : decode code 749 = .ok (.iconst 3, 1) := by decide +kernel
theorem d_lw_750 : decode code 750 = .ok (.iadd, 1) := by decide +kernel
theorem d_lw_751 : decode code 751 = .ok (.iaload, 1) := by decide +kernel
theorem d_lw_752 : decode code 752 = .ok (.invokevirtual 104, 3) := by decide +kernel
theorem d_lw_755 : decode code 755 = .ok (.istore 6, 2) := by decide +kernel
theorem d_lw_757 : decode code 757 = .ok (.aload_n 2, 1) := by decide +kernel
theorem d_lw_758 : decode code 758 = .ok (.invokevirtual 65, 3) := by decide +kernel
theorem d_lw_761 : decode code 761 = .ok (.iload 5, 2) := by decide +kernel
theorem d_lw_763 : decode code 763 = .ok (.if_icmp .eq 5, 3) := by decide +kernel
theorem d_lw_766 : decode code 766 = .ok (.iconst 0, 1) := by decide +kernel
theorem d_lw_767 : decode code 767 = .ok (.ireturn, 1) := by decide +kernel
theorem d_lw_768 : decode code 768 = .ok (.iload 5, 2) := by decide +kernel
theorem d_lw_770 : decode code 770 = .ok (.ifCond .ne 15, 3) := by decide +kernel
theorem d_lw_773 : decode code 773 = .ok (.aload_n 3, 1) := by decide +kernel
theorem d_lw_774 : decode code 774 = .ok (.iconst 0, 1) := by decide +kernel
theorem d_lw_775 : decode code 775 = .ok (.laload, 1) := by decide +kernel
theorem d_lw_776 : decode code 776 = .ok (.iload 6, 2) := by decide +kernel
theorem d_lw_778 : decode code 778 = .ok (.i2l, 1) := by decide +kernel
theorem d_lw_779 : decode code 779 = .ok (.lcmp, 1) := by decide +kernel
theorem d_lw_780 : decode code 780 = .ok (.ifCond .eq 5, 3) := by decide +kernel
theorem d_lw_783 : decode code 783 = .ok (.iconst 0, 1) := by decide +kernel
theorem d_lw_784 : decode code 784 = .ok (.ireturn, 1) := by decide +kernel
theorem d_lw_785 : decode code 785 = .ok (.goto 132, 3) := by decide +kernel
theorem d_lw_788 : decode code 788 = .ok (.aload_n 1, 1) := by decide +kernel
theorem d_lw_789 : decode code 789 = .ok (.aload_n 0, 1) := by decide +kernel
theorem d_lw_790 : decode code 790 = .ok (.iload 4, 2) := by decide +kernel
theorem d_lw_792 : decode code 792 = .ok (.iconst 1, 1) := by decide +kernel
theorem d_lw_793 : decode code 793 = .ok (.iadd, 1) := by decide +kernel
theorem d_lw_794 : decode code 794 = .ok (.iaload, 1) := by decide +kernel
theorem d_lw_795 : decode code 795 = .ok (.aload_n 0, 1) := by decide +kernel
theorem d_lw_796 : decode code 796 = .ok (.iload 4, 2) := by decide +kernel
theorem d_lw_798 : decode code 798 = .ok (.iconst 2, 1) := by decide +kernel
theorem d_lw_799 : decode code 799 = .ok (.iadd, 1) := by decide +kernel
theorem d_lw_800 : decode code 800 = .ok (.iaload, 1) := by decide +kernel
theorem d_lw_801 : decode code 801 = .ok (.aload_n 3, 1) := by decide +kernel
theorem d_lw_802 : decode code 802 = .ok (.invokestatic 105, 3) := by decide +kernel
theorem d_lw_805 : decode code 805 = .ok (.istore 5, 2) := by decide +kernel
theorem d_lw_807 : decode code 807 = .ok (.aload_n 2, 1) := by decide +kernel
theorem d_lw_808 : decode code 808 = .ok (.aload_n 0, 1) := by decide +kernel
theorem d_lw_809 : decode code 809 = .ok (.iload 4, 2) := by decide +kernel
theorem d_lw_811 : decode code 811 = .ok (.iconst 1, 1) := by decide +kernel
theorem d_lw_812 : decode code 812 = .ok (.iadd, 1) := by decide +kernel
theorem d_lw_813 : decode code 813 = .ok (.iaload, 1) := by decide +kernel
theorem d_lw_814 : decode code 814 = .ok (.aload_n 0, 1) := by decide +kernel
theorem d_lw_815 : decode code 815 = .ok (.iload 4, 2) := by decide +kernel
theorem d_lw_817 : decode code 817 = .ok (.iconst 2, 1) := by decide +kernel
theorem d_lw_818 : decode code 818 = .ok (.iadd, 1) := by decide +kernel
theorem d_lw_819 : decode code 819 = .ok (.iaload, 1) := by decide +kernel
theorem d_lw_820 : decode code 820 = .ok (.invokevirtual 107, 3) := by decide +kernel
theorem d_lw_823 : decode code 823 = .ok (.istore 6, 2) := by decide +kernel
theorem d_lw_825 : decode code 825 = .ok (.aload_n 2, 1) := by decide +kernel
theorem d_lw_826 : decode code 826 = .ok (.invokevirtual 65, 3) := by decide +kernel
theorem d_lw_829 : decode code 829 = .ok (.iload 5, 2) := by decide +kernel
theorem d_lw_831 : decode code 831 = .ok (.if_icmp .eq 5, 3) := by decide +kernel
theorem d_lw_834 : decode code 834 = .ok (.iconst 0, 1) := by decide +kernel
theorem d_lw_835 : decode code 835 = .ok (.ireturn, 1) := by decide +kernel
theorem d_lw_836 : decode code 836 = .ok (.iload 5, 2) := by decide +kernel
theorem d_lw_838 : decode code 838 = .ok (.ifCond .ne 15, 3) := by decide +kernel
theorem d_lw_841 : decode code 841 = .ok (.aload_n 3, 1) := by decide +kernel
theorem d_lw_842 : decode code 842 = .ok (.iconst 0, 1) := by decide +kernel
theorem d_lw_843 : decode code 843 = .ok (.laload, 1) := by decide +kernel
theorem d_lw_844 : decode code 844 = .ok (.iload 6, 2) := by decide +kernel
theorem d_lw_846 : decode code 846 = .ok (.i2l, 1) := by decide +kernel
theorem d_lw_847 : decode code 847 = .ok (.lcmp, 1) := by decide +kernel
theorem d_lw_848 : decode code 848 = .ok (.ifCond .eq 5, 3) := by decide +kernel
theorem d_lw_851 : decode code 851 = .ok (.iconst 0, 1) := by decide +kernel
theorem d_lw_852 : decode code 852 = .ok (.ireturn, 1) := by decide +kernel
theorem d_lw_853 : decode code 853 = .ok (.goto 64, 3) := by decide +kernel
theorem d_lw_856 : decode code 856 = .ok (.aload_n 1, 1) := by decide +kernel
theorem d_lw_857 : decode code 857 = .ok (.aload_n 0, 1) := by decide +kernel
theorem d_lw_858 : decode code 858 = .ok (.iload 4, 2) := by decide +kernel
theorem d_lw_860 : decode code 860 = .ok (.iconst 1, 1) := by decide +kernel
theorem d_lw_861 : decode code 861 = .ok (.iadd, 1) := by decide +kernel
theorem d_lw_862 : decode code 862 = .ok (.iaload, 1) := by decide +kernel
theorem d_lw_863 : decode code 863 = .ok (.invokevirtual 108, 3) := by decide +kernel
theorem d_lw_866 : decode code 866 = .ok (.aload_n 2, 1) := by decide +kernel
theorem d_lw_867 : decode code 867 = .ok (.aload_n 0, 1) := by decide +kernel
theorem d_lw_868 : decode code 868 = .ok (.iload 4, 2) := by decide +kernel
theorem d_lw_870 : decode code 870 = .ok (.iconst 1, 1) := by decide +kernel
theorem d_lw_871 : decode code 871 = .ok (.iadd, 1) := by decide +kernel
theorem d_lw_872 : decode code 872 = .ok (.iaload, 1) := by decide +kernel
theorem d_lw_873 : decode code 873 = .ok (.invokevirtual 111, 3) := by decide +kernel
theorem d_lw_876 : decode code 876 = .ok (.if_icmp .eq 41, 3) := by decide +kernel
theorem d_lw_879 : decode code 879 = .ok (.iconst 0, 1) := by decide +kernel
theorem d_lw_880 : decode code 880 = .ok (.ireturn, 1) := by decide +kernel
theorem d_lw_881 : decode code 881 = .ok (.aload_n 1, 1) := by decide +kernel
theorem d_lw_882 : decode code 882 = .ok (.aload_n 0, 1) := by decide +kernel
theorem d_lw_883 : decode code 883 = .ok (.iload 4, 2) := by decide +kernel
theorem d_lw_885 : decode code 885 = .ok (.iconst 1, 1) := by decide +kernel
theorem d_lw_886 : decode code 886 = .ok (.iadd, 1) := by decide +kernel
theorem d_lw_887 : decode code 887 = .ok (.iaload, 1) := by decide +kernel
theorem d_lw_888 : decode code 888 = .ok (.invokevirtual 112, 3) := by decide +kernel
theorem d_lw_891 : decode code 891 = .ok (.aload_n 2, 1) := by decide +kernel
theorem d_lw_892 : decode code 892 = .ok (.aload_n 0, 1) := by decide +kernel
theorem d_lw_893 : decode code 893 = .ok (.iload 4, 2) := by decide +kernel
theorem d_lw_895 : decode code 895 = .ok (.iconst 1, 1) := by decide +kernel
theorem d_lw_896 : decode code 896 = .ok (.iadd, 1) := by decide +kernel
theorem d_lw_897 : decode code 897 = .ok (.iaload, 1) := by decide +kernel
theorem d_lw_898 : decode code 898 = .ok (.invokevirtual 115, 3) := by decide +kernel
theorem d_lw_901 : decode code 901 = .ok (.if_icmp .eq 16, 3) := by decide +kernel
theorem d_lw_904 : decode code 904 = .ok (.iconst 0, 1) := by decide +kernel
theorem d_lw_905 : decode code 905 = .ok (.ireturn, 1) := by decide +kernel
theorem d_lw_906 : decode code 906 = .ok (.aload_n 1, 1) := by decide +kernel
theorem d_lw_907 : decode code 907 = .ok (.invokevirtual 116, 3) := by decide +kernel
theorem d_lw_910 : decode code 910 = .ok (.aload_n 2, 1) := by decide +kernel
theorem d_lw_911 : decode code 911 = .ok (.invokevirtual 119, 3) := by decide +kernel
theorem d_lw_914 : decode code 914 = .ok (.goto 3, 3) := by decide +kernel
theorem d_lw_917 : decode code 917 = .ok (.iinc 4 7, 3) := by decide +kernel
theorem d_lw_920 : decode code 920 = .ok (.goto (-897), 3) := by decide +kernel
theorem d_lw_923 : decode code 923 = .ok (.iconst 1, 1) := by decide +kernel
theorem d_lw_924 : decode code 924 = .ok (.ireturn, 1) := by decide +kernel
def lw_b116 (N : Nat) (sL : Nat) (sX : Nat → Int32) (k23 : Int32 → Int32 → Int32 → Int32 → Int32 → Int32 → Int64 → Int64 → Int64 → Int64 → Int64 → (Nat → Int32) → (Nat → Int32) → (Nat → Int32) → (Nat → Int32) → (Nat → Int32) → (Nat → Int64) → Int32 → Int64 → Int64 → Int64 → Int64 → (Nat → Int64) → (Nat → Int32) → (Nat → Int64) → (Nat → Int64) → (Nat → Int64) → (Nat → Int32) → (Nat → Int32) → Int32 → Int32 → Int64 → Int64 → Int64 → Int32 → Int32 → Int32 → Int32 → Int32 → Int64 → (Nat → Int32) → (Nat → Int32) → (Nat → Int32) → (Nat → Int32) → (Nat → Int32) → (Nat → Int32) → (Nat → Int32) → (Nat → Int32) → (Nat → Int64) → (Nat → Int32) → (Nat → Int64) → (Nat → Int32) → (Nat → Int32) → (Nat → Int64) → Option (Int32)) (x4 : Int32) (v_X_text_length : Int32) (v_X_written_length : Int32) (v_X_drawing_count : Int32) (v_X_cover_width : Int32) (v_X_cover_height : Int32) (v_X_cover_top : Int64) (v_X_cover_x : Int64) (v_X_cover_y : Int64) (v_X_cover_startX : Int64) (v_X_cover_startY : Int64) (c_X_drawing_kinds : (Nat → Int32)) (c_X_drawing_numbers : (Nat → Int32)) (c_X_cover_squares : (Nat → Int32)) (c_X_cover_changes : (Nat → Int32)) (c_X_written_characters : (Nat → Int32)) (c_X_given : (Nat → Int64)) (v_X_reader_wrong : Int32) (v_X_reader_pen_startX : Int64) (v_X_reader_pen_startY : Int64) (v_X_reader_pen_controlX : Int64) (v_X_reader_pen_controlY : Int64) (c_X_reader_pen_matrices_rows : (Nat → Int64)) (c_X_text_characters : (Nat → Int32)) (c_X_reader_numbers : (Nat → Int64)) (c_X_reader_pen_points : (Nat → Int64)) (c_X_reader_pen_drawn : (Nat → Int64)) (c_X_spare_numbers : (Nat → Int32)) (c_X_spare_kinds : (Nat → Int32)) (v_Y_size : Int32) (v_Y_commands : Int32) (v_Y_value : Int64) (v_Y_turnX : Int64) (v_Y_turnY : Int64) (v_Y_written : Int32) (v_Y_edges : Int32) (v_Y_wide : Int32) (v_Y_high : Int32) (v_Y_behind : Int32) (v_Y_whole : Int64) (c_Y_kinds : (Nat → Int32)) (c_Y_fromX : (Nat → Int32)) (c_Y_fromY : (Nat → Int32)) (c_Y_toX : (Nat → Int32)) (c_Y_toY : (Nat → Int32)) (c_Y_numbers : (Nat → Int32)) (c_Y_points : (Nat → Int32)) (c_Y_signs : (Nat → Int32)) (c_Y_matrix : (Nat → Int64)) (c_Y_text : (Nat → Int32)) (c_Y_given : (Nat → Int64)) (c_Y_drawnNumbers : (Nat → Int32)) (c_Y_drawnKinds : (Nat → Int32)) (c_out : (Nat → Int64)) : Option (Int32) :=
  kg (ki (x4 + (1 : Int32)) sL) (
  kg (ki (x4 + (2 : Int32)) sL) (
  kb4 (lPLaw_text N (((Int32.toInt64 (sX ((x4 + (1 : Int32))).toNatClampNeg)) <<< (Int32.toInt64 (32 : Int32) &&& 63)) ||| ((Int32.toInt64 (sX ((x4 + (2 : Int32))).toNatClampNeg)) &&& (4294967295 : Int64))) v_X_text_length c_X_text_characters c_out) fun r140 v_X_text_length_140 c_X_text_characters_140 c_out_140 =>
  kg (ki (x4 + (1 : Int32)) sL) (
  kg (ki (x4 + (2 : Int32)) sL) (
  kb4 (m_text N (((Int32.toInt64 (sX ((x4 + (1 : Int32))).toNatClampNeg)) <<< (Int32.toInt64 (32 : Int32) &&& 63)) ||| ((Int32.toInt64 (sX ((x4 + (2 : Int32))).toNatClampNeg)) &&& (4294967295 : Int64))) v_Y_size c_Y_text) fun r168 v_Y_fault_168 v_Y_size_168 c_Y_text_168 =>
  kb1 (m_thrown v_Y_fault_168) fun r174 =>
  if r174 = r140 then
    if r140 = (0 : Int32) then
        if (c_out_140 ((0 : Int32)).toNatClampNeg) = (Int32.toInt64 r168) then
            k23 (x4 + (7 : Int32)) v_X_text_length_140 v_X_written_length v_X_drawing_count v_X_cover_width v_X_cover_height v_X_cover_top v_X_cover_x v_X_cover_y v_X_cover_startX v_X_cover_startY c_X_drawing_kinds c_X_drawing_numbers c_X_cover_squares c_X_cover_changes c_X_written_characters c_X_given v_X_reader_wrong v_X_reader_pen_startX v_X_reader_pen_startY v_X_reader_pen_controlX v_X_reader_pen_controlY c_X_reader_pen_matrices_rows c_X_text_characters_140 c_X_reader_numbers c_X_reader_pen_points c_X_reader_pen_drawn c_X_spare_numbers c_X_spare_kinds v_Y_size_168 v_Y_commands v_Y_value v_Y_turnX v_Y_turnY v_Y_written v_Y_edges v_Y_wide v_Y_high v_Y_behind v_Y_whole c_Y_kinds c_Y_fromX c_Y_fromY c_Y_toX c_Y_toY c_Y_numbers c_Y_points c_Y_signs c_Y_matrix c_Y_text_168 c_Y_given c_Y_drawnNumbers c_Y_drawnKinds c_out_140
          else
            some (0 : Int32)
      else
        k23 (x4 + (7 : Int32)) v_X_text_length_140 v_X_written_length v_X_drawing_count v_X_cover_width v_X_cover_height v_X_cover_top v_X_cover_x v_X_cover_y v_X_cover_startX v_X_cover_startY c_X_drawing_kinds c_X_drawing_numbers c_X_cover_squares c_X_cover_changes c_X_written_characters c_X_given v_X_reader_wrong v_X_reader_pen_startX v_X_reader_pen_startY v_X_reader_pen_controlX v_X_reader_pen_controlY c_X_reader_pen_matrices_rows c_X_text_characters_140 c_X_reader_numbers c_X_reader_pen_points c_X_reader_pen_drawn c_X_spare_numbers c_X_spare_kinds v_Y_size_168 v_Y_commands v_Y_value v_Y_turnX v_Y_turnY v_Y_written v_Y_edges v_Y_wide v_Y_high v_Y_behind v_Y_whole c_Y_kinds c_Y_fromX c_Y_fromY c_Y_toX c_Y_toY c_Y_numbers c_Y_points c_Y_signs c_Y_matrix c_Y_text_168 c_Y_given c_Y_drawnNumbers c_Y_drawnKinds c_out_140
  else
    some (0 : Int32)))))
def lw_b204 (N : Nat) (sL : Nat) (sX : Nat → Int32) (k23 : Int32 → Int32 → Int32 → Int32 → Int32 → Int32 → Int64 → Int64 → Int64 → Int64 → Int64 → (Nat → Int32) → (Nat → Int32) → (Nat → Int32) → (Nat → Int32) → (Nat → Int32) → (Nat → Int64) → Int32 → Int64 → Int64 → Int64 → Int64 → (Nat → Int64) → (Nat → Int32) → (Nat → Int64) → (Nat → Int64) → (Nat → Int64) → (Nat → Int32) → (Nat → Int32) → Int32 → Int32 → Int64 → Int64 → Int64 → Int32 → Int32 → Int32 → Int32 → Int32 → Int64 → (Nat → Int32) → (Nat → Int32) → (Nat → Int32) → (Nat → Int32) → (Nat → Int32) → (Nat → Int32) → (Nat → Int32) → (Nat → Int32) → (Nat → Int64) → (Nat → Int32) → (Nat → Int64) → (Nat → Int32) → (Nat → Int32) → (Nat → Int64) → Option (Int32)) (x4 : Int32) (v_X_text_length : Int32) (v_X_written_length : Int32) (v_X_drawing_count : Int32) (v_X_cover_width : Int32) (v_X_cover_height : Int32) (v_X_cover_top : Int64) (v_X_cover_x : Int64) (v_X_cover_y : Int64) (v_X_cover_startX : Int64) (v_X_cover_startY : Int64) (c_X_drawing_kinds : (Nat → Int32)) (c_X_drawing_numbers : (Nat → Int32)) (c_X_cover_squares : (Nat → Int32)) (c_X_cover_changes : (Nat → Int32)) (c_X_written_characters : (Nat → Int32)) (c_X_given : (Nat → Int64)) (v_X_reader_wrong : Int32) (v_X_reader_pen_startX : Int64) (v_X_reader_pen_startY : Int64) (v_X_reader_pen_controlX : Int64) (v_X_reader_pen_controlY : Int64) (c_X_reader_pen_matrices_rows : (Nat → Int64)) (c_X_text_characters : (Nat → Int32)) (c_X_reader_numbers : (Nat → Int64)) (c_X_reader_pen_points : (Nat → Int64)) (c_X_reader_pen_drawn : (Nat → Int64)) (c_X_spare_numbers : (Nat → Int32)) (c_X_spare_kinds : (Nat → Int32)) (v_Y_size : Int32) (v_Y_commands : Int32) (v_Y_value : Int64) (v_Y_turnX : Int64) (v_Y_turnY : Int64) (v_Y_written : Int32) (v_Y_edges : Int32) (v_Y_wide : Int32) (v_Y_high : Int32) (v_Y_behind : Int32) (v_Y_whole : Int64) (c_Y_kinds : (Nat → Int32)) (c_Y_fromX : (Nat → Int32)) (c_Y_fromY : (Nat → Int32)) (c_Y_toX : (Nat → Int32)) (c_Y_toY : (Nat → Int32)) (c_Y_numbers : (Nat → Int32)) (c_Y_points : (Nat → Int32)) (c_Y_signs : (Nat → Int32)) (c_Y_matrix : (Nat → Int64)) (c_Y_text : (Nat → Int32)) (c_Y_given : (Nat → Int64)) (c_Y_drawnNumbers : (Nat → Int32)) (c_Y_drawnKinds : (Nat → Int32)) (c_out : (Nat → Int64)) : Option (Int32) :=
  kb23 (xP_read N v_X_reader_wrong v_X_reader_pen_startX v_X_reader_pen_startY v_X_reader_pen_controlX v_X_reader_pen_controlY c_X_reader_pen_matrices_rows v_X_text_length c_X_text_characters c_X_reader_numbers c_X_reader_pen_points c_X_reader_pen_drawn c_X_spare_numbers c_X_spare_kinds v_X_drawing_count c_X_drawing_kinds c_X_drawing_numbers) fun r205 v_X_reader_at_205 v_X_reader_wrong_205 v_X_reader_moveIsDue_205 v_X_reader_pen_x_205 v_X_reader_pen_y_205 v_X_reader_pen_startX_205 v_X_reader_pen_startY_205 v_X_reader_pen_controlX_205 v_X_reader_pen_controlY_205 v_X_reader_pen_controlFor_205 v_X_reader_pen_matrices_depth_205 c_X_reader_pen_matrices_rows_205 v_X_text_length_205 c_X_reader_numbers_205 c_X_reader_pen_points_205 c_X_reader_pen_drawn_205 v_X_spare_count_205 c_X_spare_numbers_205 c_X_spare_kinds_205 v_X_drawing_count_205 c_X_drawing_kinds_205 c_X_drawing_numbers_205 =>
  kb25 (m_read N v_Y_size v_Y_commands v_Y_value v_Y_turnX v_Y_turnY v_Y_behind v_Y_whole c_Y_matrix c_Y_text c_Y_given c_Y_drawnNumbers c_Y_drawnKinds c_Y_kinds c_Y_numbers) fun r209 v_Y_fault_209 v_Y_size_209 v_Y_commands_209 v_Y_drawn_209 v_Y_depth_209 v_Y_at_209 v_Y_value_209 v_Y_wrong_209 v_Y_wantsMove_209 v_Y_x_209 v_Y_y_209 v_Y_startX_209 v_Y_startY_209 v_Y_before_209 v_Y_turnX_209 v_Y_turnY_209 v_Y_behind_209 v_Y_whole_209 c_Y_matrix_209 c_Y_given_209 c_Y_drawnNumbers_209 c_Y_drawnKinds_209 c_Y_kinds_209 c_Y_numbers_209 =>
  if r205 = r209 then
    k23 (x4 + (7 : Int32)) v_X_text_length_205 v_X_written_length v_X_drawing_count_205 v_X_cover_width v_X_cover_height v_X_cover_top v_X_cover_x v_X_cover_y v_X_cover_startX v_X_cover_startY c_X_drawing_kinds_205 c_X_drawing_numbers_205 c_X_cover_squares c_X_cover_changes c_X_written_characters c_X_given v_X_reader_wrong_205 v_X_reader_pen_startX_205 v_X_reader_pen_startY_205 v_X_reader_pen_controlX_205 v_X_reader_pen_controlY_205 c_X_reader_pen_matrices_rows_205 c_X_text_characters c_X_reader_numbers_205 c_X_reader_pen_points_205 c_X_reader_pen_drawn_205 c_X_spare_numbers_205 c_X_spare_kinds_205 v_Y_size_209 v_Y_commands_209 v_Y_value_209 v_Y_turnX_209 v_Y_turnY_209 v_Y_written v_Y_edges v_Y_wide v_Y_high v_Y_behind_209 v_Y_whole_209 c_Y_kinds_209 c_Y_fromX c_Y_fromY c_Y_toX c_Y_toY c_Y_numbers_209 c_Y_points c_Y_signs c_Y_matrix_209 c_Y_text c_Y_given_209 c_Y_drawnNumbers_209 c_Y_drawnKinds_209 c_out
  else
    some (0 : Int32)
def lw_b217 (N : Nat) (sL : Nat) (sX : Nat → Int32) (k23 : Int32 → Int32 → Int32 → Int32 → Int32 → Int32 → Int64 → Int64 → Int64 → Int64 → Int64 → (Nat → Int32) → (Nat → Int32) → (Nat → Int32) → (Nat → Int32) → (Nat → Int32) → (Nat → Int64) → Int32 → Int64 → Int64 → Int64 → Int64 → (Nat → Int64) → (Nat → Int32) → (Nat → Int64) → (Nat → Int64) → (Nat → Int64) → (Nat → Int32) → (Nat → Int32) → Int32 → Int32 → Int64 → Int64 → Int64 → Int32 → Int32 → Int32 → Int32 → Int32 → Int64 → (Nat → Int32) → (Nat → Int32) → (Nat → Int32) → (Nat → Int32) → (Nat → Int32) → (Nat → Int32) → (Nat → Int32) → (Nat → Int32) → (Nat → Int64) → (Nat → Int32) → (Nat → Int64) → (Nat → Int32) → (Nat → Int32) → (Nat → Int64) → Option (Int32)) (x4 : Int32) (v_X_text_length : Int32) (v_X_written_length : Int32) (v_X_drawing_count : Int32) (v_X_cover_width : Int32) (v_X_cover_height : Int32) (v_X_cover_top : Int64) (v_X_cover_x : Int64) (v_X_cover_y : Int64) (v_X_cover_startX : Int64) (v_X_cover_startY : Int64) (c_X_drawing_kinds : (Nat → Int32)) (c_X_drawing_numbers : (Nat → Int32)) (c_X_cover_squares : (Nat → Int32)) (c_X_cover_changes : (Nat → Int32)) (c_X_written_characters : (Nat → Int32)) (c_X_given : (Nat → Int64)) (v_X_reader_wrong : Int32) (v_X_reader_pen_startX : Int64) (v_X_reader_pen_startY : Int64) (v_X_reader_pen_controlX : Int64) (v_X_reader_pen_controlY : Int64) (c_X_reader_pen_matrices_rows : (Nat → Int64)) (c_X_text_characters : (Nat → Int32)) (c_X_reader_numbers : (Nat → Int64)) (c_X_reader_pen_points : (Nat → Int64)) (c_X_reader_pen_drawn : (Nat → Int64)) (c_X_spare_numbers : (Nat → Int32)) (c_X_spare_kinds : (Nat → Int32)) (v_Y_size : Int32) (v_Y_commands : Int32) (v_Y_value : Int64) (v_Y_turnX : Int64) (v_Y_turnY : Int64) (v_Y_written : Int32) (v_Y_edges : Int32) (v_Y_wide : Int32) (v_Y_high : Int32) (v_Y_behind : Int32) (v_Y_whole : Int64) (c_Y_kinds : (Nat → Int32)) (c_Y_fromX : (Nat → Int32)) (c_Y_fromY : (Nat → Int32)) (c_Y_toX : (Nat → Int32)) (c_Y_toY : (Nat → Int32)) (c_Y_numbers : (Nat → Int32)) (c_Y_points : (Nat → Int32)) (c_Y_signs : (Nat → Int32)) (c_Y_matrix : (Nat → Int64)) (c_Y_text : (Nat → Int32)) (c_Y_given : (Nat → Int64)) (c_Y_drawnNumbers : (Nat → Int32)) (c_Y_drawnKinds : (Nat → Int32)) (c_out : (Nat → Int64)) : Option (Int32) :=
  kg (ki (x4 + (1 : Int32)) sL) (
  kg (ki (x4 + (2 : Int32)) sL) (
  kb6 (lPLaw_move N (sX ((x4 + (1 : Int32))).toNatClampNeg) (sX ((x4 + (2 : Int32))).toNatClampNeg) c_X_given v_X_drawing_count c_X_drawing_numbers c_X_drawing_kinds c_out) fun r231 c_X_given_231 v_X_drawing_count_231 c_X_drawing_numbers_231 c_X_drawing_kinds_231 c_out_231 =>
  kg (ki (x4 + (1 : Int32)) sL) (
  kg (ki (x4 + (2 : Int32)) sL) (
  kb5 (m_move (sX ((x4 + (1 : Int32))).toNatClampNeg) (sX ((x4 + (2 : Int32))).toNatClampNeg) v_Y_commands c_Y_numbers c_Y_kinds) fun r249 v_Y_fault_249 v_Y_commands_249 c_Y_numbers_249 c_Y_kinds_249 =>
  kb1 (m_thrown v_Y_fault_249) fun r255 =>
  if r255 = r231 then
    if r231 = (0 : Int32) then
        if (c_out_231 ((0 : Int32)).toNatClampNeg) = (Int32.toInt64 r249) then
            k23 (x4 + (7 : Int32)) v_X_text_length v_X_written_length v_X_drawing_count_231 v_X_cover_width v_X_cover_height v_X_cover_top v_X_cover_x v_X_cover_y v_X_cover_startX v_X_cover_startY c_X_drawing_kinds_231 c_X_drawing_numbers_231 c_X_cover_squares c_X_cover_changes c_X_written_characters c_X_given_231 v_X_reader_wrong v_X_reader_pen_startX v_X_reader_pen_startY v_X_reader_pen_controlX v_X_reader_pen_controlY c_X_reader_pen_matrices_rows c_X_text_characters c_X_reader_numbers c_X_reader_pen_points c_X_reader_pen_drawn c_X_spare_numbers c_X_spare_kinds v_Y_size v_Y_commands_249 v_Y_value v_Y_turnX v_Y_turnY v_Y_written v_Y_edges v_Y_wide v_Y_high v_Y_behind v_Y_whole c_Y_kinds_249 c_Y_fromX c_Y_fromY c_Y_toX c_Y_toY c_Y_numbers_249 c_Y_points c_Y_signs c_Y_matrix c_Y_text c_Y_given c_Y_drawnNumbers c_Y_drawnKinds c_out_231
          else
            some (0 : Int32)
      else
        k23 (x4 + (7 : Int32)) v_X_text_length v_X_written_length v_X_drawing_count_231 v_X_cover_width v_X_cover_height v_X_cover_top v_X_cover_x v_X_cover_y v_X_cover_startX v_X_cover_startY c_X_drawing_kinds_231 c_X_drawing_numbers_231 c_X_cover_squares c_X_cover_changes c_X_written_characters c_X_given_231 v_X_reader_wrong v_X_reader_pen_startX v_X_reader_pen_startY v_X_reader_pen_controlX v_X_reader_pen_controlY c_X_reader_pen_matrices_rows c_X_text_characters c_X_reader_numbers c_X_reader_pen_points c_X_reader_pen_drawn c_X_spare_numbers c_X_spare_kinds v_Y_size v_Y_commands_249 v_Y_value v_Y_turnX v_Y_turnY v_Y_written v_Y_edges v_Y_wide v_Y_high v_Y_behind v_Y_whole c_Y_kinds_249 c_Y_fromX c_Y_fromY c_Y_toX c_Y_toY c_Y_numbers_249 c_Y_points c_Y_signs c_Y_matrix c_Y_text c_Y_given c_Y_drawnNumbers c_Y_drawnKinds c_out_231
  else
    some (0 : Int32)))))
def lw_b285 (N : Nat) (sL : Nat) (sX : Nat → Int32) (k23 : Int32 → Int32 → Int32 → Int32 → Int32 → Int32 → Int64 → Int64 → Int64 → Int64 → Int64 → (Nat → Int32) → (Nat → Int32) → (Nat → Int32) → (Nat → Int32) → (Nat → Int32) → (Nat → Int64) → Int32 → Int64 → Int64 → Int64 → Int64 → (Nat → Int64) → (Nat → Int32) → (Nat → Int64) → (Nat → Int64) → (Nat → Int64) → (Nat → Int32) → (Nat → Int32) → Int32 → Int32 → Int64 → Int64 → Int64 → Int32 → Int32 → Int32 → Int32 → Int32 → Int64 → (Nat → Int32) → (Nat → Int32) → (Nat → Int32) → (Nat → Int32) → (Nat → Int32) → (Nat → Int32) → (Nat → Int32) → (Nat → Int32) → (Nat → Int64) → (Nat → Int32) → (Nat → Int64) → (Nat → Int32) → (Nat → Int32) → (Nat → Int64) → Option (Int32)) (x4 : Int32) (v_X_text_length : Int32) (v_X_written_length : Int32) (v_X_drawing_count : Int32) (v_X_cover_width : Int32) (v_X_cover_height : Int32) (v_X_cover_top : Int64) (v_X_cover_x : Int64) (v_X_cover_y : Int64) (v_X_cover_startX : Int64) (v_X_cover_startY : Int64) (c_X_drawing_kinds : (Nat → Int32)) (c_X_drawing_numbers : (Nat → Int32)) (c_X_cover_squares : (Nat → Int32)) (c_X_cover_changes : (Nat → Int32)) (c_X_written_characters : (Nat → Int32)) (c_X_given : (Nat → Int64)) (v_X_reader_wrong : Int32) (v_X_reader_pen_startX : Int64) (v_X_reader_pen_startY : Int64) (v_X_reader_pen_controlX : Int64) (v_X_reader_pen_controlY : Int64) (c_X_reader_pen_matrices_rows : (Nat → Int64)) (c_X_text_characters : (Nat → Int32)) (c_X_reader_numbers : (Nat → Int64)) (c_X_reader_pen_points : (Nat → Int64)) (c_X_reader_pen_drawn : (Nat → Int64)) (c_X_spare_numbers : (Nat → Int32)) (c_X_spare_kinds : (Nat → Int32)) (v_Y_size : Int32) (v_Y_commands : Int32) (v_Y_value : Int64) (v_Y_turnX : Int64) (v_Y_turnY : Int64) (v_Y_written : Int32) (v_Y_edges : Int32) (v_Y_wide : Int32) (v_Y_high : Int32) (v_Y_behind : Int32) (v_Y_whole : Int64) (c_Y_kinds : (Nat → Int32)) (c_Y_fromX : (Nat → Int32)) (c_Y_fromY : (Nat → Int32)) (c_Y_toX : (Nat → Int32)) (c_Y_toY : (Nat → Int32)) (c_Y_numbers : (Nat → Int32)) (c_Y_points : (Nat → Int32)) (c_Y_signs : (Nat → Int32)) (c_Y_matrix : (Nat → Int64)) (c_Y_text : (Nat → Int32)) (c_Y_given : (Nat → Int64)) (c_Y_drawnNumbers : (Nat → Int32)) (c_Y_drawnKinds : (Nat → Int32)) (c_out : (Nat → Int64)) : Option (Int32) :=
  kg (ki (x4 + (1 : Int32)) sL) (
  kg (ki (x4 + (2 : Int32)) sL) (
  kb6 (lPLaw_line N (sX ((x4 + (1 : Int32))).toNatClampNeg) (sX ((x4 + (2 : Int32))).toNatClampNeg) c_X_given v_X_drawing_count c_X_drawing_numbers c_X_drawing_kinds c_out) fun r299 c_X_given_299 v_X_drawing_count_299 c_X_drawing_numbers_299 c_X_drawing_kinds_299 c_out_299 =>
  kg (ki (x4 + (1 : Int32)) sL) (
  kg (ki (x4 + (2 : Int32)) sL) (
  kb5 (m_line N (sX ((x4 + (1 : Int32))).toNatClampNeg) (sX ((x4 + (2 : Int32))).toNatClampNeg) v_Y_commands c_Y_kinds c_Y_numbers) fun r317 v_Y_fault_317 v_Y_commands_317 c_Y_kinds_317 c_Y_numbers_317 =>
  kb1 (m_thrown v_Y_fault_317) fun r323 =>
  if r323 = r299 then
    if r299 = (0 : Int32) then
        if (c_out_299 ((0 : Int32)).toNatClampNeg) = (Int32.toInt64 r317) then
            k23 (x4 + (7 : Int32)) v_X_text_length v_X_written_length v_X_drawing_count_299 v_X_cover_width v_X_cover_height v_X_cover_top v_X_cover_x v_X_cover_y v_X_cover_startX v_X_cover_startY c_X_drawing_kinds_299 c_X_drawing_numbers_299 c_X_cover_squares c_X_cover_changes c_X_written_characters c_X_given_299 v_X_reader_wrong v_X_reader_pen_startX v_X_reader_pen_startY v_X_reader_pen_controlX v_X_reader_pen_controlY c_X_reader_pen_matrices_rows c_X_text_characters c_X_reader_numbers c_X_reader_pen_points c_X_reader_pen_drawn c_X_spare_numbers c_X_spare_kinds v_Y_size v_Y_commands_317 v_Y_value v_Y_turnX v_Y_turnY v_Y_written v_Y_edges v_Y_wide v_Y_high v_Y_behind v_Y_whole c_Y_kinds_317 c_Y_fromX c_Y_fromY c_Y_toX c_Y_toY c_Y_numbers_317 c_Y_points c_Y_signs c_Y_matrix c_Y_text c_Y_given c_Y_drawnNumbers c_Y_drawnKinds c_out_299
          else
            some (0 : Int32)
      else
        k23 (x4 + (7 : Int32)) v_X_text_length v_X_written_length v_X_drawing_count_299 v_X_cover_width v_X_cover_height v_X_cover_top v_X_cover_x v_X_cover_y v_X_cover_startX v_X_cover_startY c_X_drawing_kinds_299 c_X_drawing_numbers_299 c_X_cover_squares c_X_cover_changes c_X_written_characters c_X_given_299 v_X_reader_wrong v_X_reader_pen_startX v_X_reader_pen_startY v_X_reader_pen_controlX v_X_reader_pen_controlY c_X_reader_pen_matrices_rows c_X_text_characters c_X_reader_numbers c_X_reader_pen_points c_X_reader_pen_drawn c_X_spare_numbers c_X_spare_kinds v_Y_size v_Y_commands_317 v_Y_value v_Y_turnX v_Y_turnY v_Y_written v_Y_edges v_Y_wide v_Y_high v_Y_behind v_Y_whole c_Y_kinds_317 c_Y_fromX c_Y_fromY c_Y_toX c_Y_toY c_Y_numbers_317 c_Y_points c_Y_signs c_Y_matrix c_Y_text c_Y_given c_Y_drawnNumbers c_Y_drawnKinds c_out_299
  else
    some (0 : Int32)))))
def lw_b353 (N : Nat) (sL : Nat) (sX : Nat → Int32) (k23 : Int32 → Int32 → Int32 → Int32 → Int32 → Int32 → Int64 → Int64 → Int64 → Int64 → Int64 → (Nat → Int32) → (Nat → Int32) → (Nat → Int32) → (Nat → Int32) → (Nat → Int32) → (Nat → Int64) → Int32 → Int64 → Int64 → Int64 → Int64 → (Nat → Int64) → (Nat → Int32) → (Nat → Int64) → (Nat → Int64) → (Nat → Int64) → (Nat → Int32) → (Nat → Int32) → Int32 → Int32 → Int64 → Int64 → Int64 → Int32 → Int32 → Int32 → Int32 → Int32 → Int64 → (Nat → Int32) → (Nat → Int32) → (Nat → Int32) → (Nat → Int32) → (Nat → Int32) → (Nat → Int32) → (Nat → Int32) → (Nat → Int32) → (Nat → Int64) → (Nat → Int32) → (Nat → Int64) → (Nat → Int32) → (Nat → Int32) → (Nat → Int64) → Option (Int32)) (x4 : Int32) (v_X_text_length : Int32) (v_X_written_length : Int32) (v_X_drawing_count : Int32) (v_X_cover_width : Int32) (v_X_cover_height : Int32) (v_X_cover_top : Int64) (v_X_cover_x : Int64) (v_X_cover_y : Int64) (v_X_cover_startX : Int64) (v_X_cover_startY : Int64) (c_X_drawing_kinds : (Nat → Int32)) (c_X_drawing_numbers : (Nat → Int32)) (c_X_cover_squares : (Nat → Int32)) (c_X_cover_changes : (Nat → Int32)) (c_X_written_characters : (Nat → Int32)) (c_X_given : (Nat → Int64)) (v_X_reader_wrong : Int32) (v_X_reader_pen_startX : Int64) (v_X_reader_pen_startY : Int64) (v_X_reader_pen_controlX : Int64) (v_X_reader_pen_controlY : Int64) (c_X_reader_pen_matrices_rows : (Nat → Int64)) (c_X_text_characters : (Nat → Int32)) (c_X_reader_numbers : (Nat → Int64)) (c_X_reader_pen_points : (Nat → Int64)) (c_X_reader_pen_drawn : (Nat → Int64)) (c_X_spare_numbers : (Nat → Int32)) (c_X_spare_kinds : (Nat → Int32)) (v_Y_size : Int32) (v_Y_commands : Int32) (v_Y_value : Int64) (v_Y_turnX : Int64) (v_Y_turnY : Int64) (v_Y_written : Int32) (v_Y_edges : Int32) (v_Y_wide : Int32) (v_Y_high : Int32) (v_Y_behind : Int32) (v_Y_whole : Int64) (c_Y_kinds : (Nat → Int32)) (c_Y_fromX : (Nat → Int32)) (c_Y_fromY : (Nat → Int32)) (c_Y_toX : (Nat → Int32)) (c_Y_toY : (Nat → Int32)) (c_Y_numbers : (Nat → Int32)) (c_Y_points : (Nat → Int32)) (c_Y_signs : (Nat → Int32)) (c_Y_matrix : (Nat → Int64)) (c_Y_text : (Nat → Int32)) (c_Y_given : (Nat → Int64)) (c_Y_drawnNumbers : (Nat → Int32)) (c_Y_drawnKinds : (Nat → Int32)) (c_out : (Nat → Int64)) : Option (Int32) :=
  kg (ki (x4 + (1 : Int32)) sL) (
  kg (ki (x4 + (2 : Int32)) sL) (
  kg (ki (x4 + (3 : Int32)) sL) (
  kg (ki (x4 + (4 : Int32)) sL) (
  kg (ki (x4 + (5 : Int32)) sL) (
  kg (ki (x4 + (6 : Int32)) sL) (
  kb6 (lPLaw_cubic N (sX ((x4 + (1 : Int32))).toNatClampNeg) (sX ((x4 + (2 : Int32))).toNatClampNeg) (sX ((x4 + (3 : Int32))).toNatClampNeg) (sX ((x4 + (4 : Int32))).toNatClampNeg) (sX ((x4 + (5 : Int32))).toNatClampNeg) (sX ((x4 + (6 : Int32))).toNatClampNeg) c_X_given v_X_drawing_count c_X_drawing_numbers c_X_drawing_kinds c_out) fun r392 c_X_given_392 v_X_drawing_count_392 c_X_drawing_numbers_392 c_X_drawing_kinds_392 c_out_392 =>
  kg (ki (x4 + (1 : Int32)) sL) (
  kg (ki (x4 + (2 : Int32)) sL) (
  kg (ki (x4 + (3 : Int32)) sL) (
  kg (ki (x4 + (4 : Int32)) sL) (
  kg (ki (x4 + (5 : Int32)) sL) (
  kg (ki (x4 + (6 : Int32)) sL) (
  kb5 (m_cubic N (sX ((x4 + (1 : Int32))).toNatClampNeg) (sX ((x4 + (2 : Int32))).toNatClampNeg) (sX ((x4 + (3 : Int32))).toNatClampNeg) (sX ((x4 + (4 : Int32))).toNatClampNeg) (sX ((x4 + (5 : Int32))).toNatClampNeg) (sX ((x4 + (6 : Int32))).toNatClampNeg) v_Y_commands c_Y_numbers c_Y_kinds) fun r435 v_Y_fault_435 v_Y_commands_435 c_Y_numbers_435 c_Y_kinds_435 =>
  kb1 (m_thrown v_Y_fault_435) fun r441 =>
  if r441 = r392 then
    if r392 = (0 : Int32) then
        if (c_out_392 ((0 : Int32)).toNatClampNeg) = (Int32.toInt64 r435) then
            k23 (x4 + (7 : Int32)) v_X_text_length v_X_written_length v_X_drawing_count_392 v_X_cover_width v_X_cover_height v_X_cover_top v_X_cover_x v_X_cover_y v_X_cover_startX v_X_cover_startY c_X_drawing_kinds_392 c_X_drawing_numbers_392 c_X_cover_squares c_X_cover_changes c_X_written_characters c_X_given_392 v_X_reader_wrong v_X_reader_pen_startX v_X_reader_pen_startY v_X_reader_pen_controlX v_X_reader_pen_controlY c_X_reader_pen_matrices_rows c_X_text_characters c_X_reader_numbers c_X_reader_pen_points c_X_reader_pen_drawn c_X_spare_numbers c_X_spare_kinds v_Y_size v_Y_commands_435 v_Y_value v_Y_turnX v_Y_turnY v_Y_written v_Y_edges v_Y_wide v_Y_high v_Y_behind v_Y_whole c_Y_kinds_435 c_Y_fromX c_Y_fromY c_Y_toX c_Y_toY c_Y_numbers_435 c_Y_points c_Y_signs c_Y_matrix c_Y_text c_Y_given c_Y_drawnNumbers c_Y_drawnKinds c_out_392
          else
            some (0 : Int32)
      else
        k23 (x4 + (7 : Int32)) v_X_text_length v_X_written_length v_X_drawing_count_392 v_X_cover_width v_X_cover_height v_X_cover_top v_X_cover_x v_X_cover_y v_X_cover_startX v_X_cover_startY c_X_drawing_kinds_392 c_X_drawing_numbers_392 c_X_cover_squares c_X_cover_changes c_X_written_characters c_X_given_392 v_X_reader_wrong v_X_reader_pen_startX v_X_reader_pen_startY v_X_reader_pen_controlX v_X_reader_pen_controlY c_X_reader_pen_matrices_rows c_X_text_characters c_X_reader_numbers c_X_reader_pen_points c_X_reader_pen_drawn c_X_spare_numbers c_X_spare_kinds v_Y_size v_Y_commands_435 v_Y_value v_Y_turnX v_Y_turnY v_Y_written v_Y_edges v_Y_wide v_Y_high v_Y_behind v_Y_whole c_Y_kinds_435 c_Y_fromX c_Y_fromY c_Y_toX c_Y_toY c_Y_numbers_435 c_Y_points c_Y_signs c_Y_matrix c_Y_text c_Y_given c_Y_drawnNumbers c_Y_drawnKinds c_out_392
  else
    some (0 : Int32)))))))))))))
def lw_b471 (N : Nat) (sL : Nat) (sX : Nat → Int32) (k23 : Int32 → Int32 → Int32 → Int32 → Int32 → Int32 → Int64 → Int64 → Int64 → Int64 → Int64 → (Nat → Int32) → (Nat → Int32) → (Nat → Int32) → (Nat → Int32) → (Nat → Int32) → (Nat → Int64) → Int32 → Int64 → Int64 → Int64 → Int64 → (Nat → Int64) → (Nat → Int32) → (Nat → Int64) → (Nat → Int64) → (Nat → Int64) → (Nat → Int32) → (Nat → Int32) → Int32 → Int32 → Int64 → Int64 → Int64 → Int32 → Int32 → Int32 → Int32 → Int32 → Int64 → (Nat → Int32) → (Nat → Int32) → (Nat → Int32) → (Nat → Int32) → (Nat → Int32) → (Nat → Int32) → (Nat → Int32) → (Nat → Int32) → (Nat → Int64) → (Nat → Int32) → (Nat → Int64) → (Nat → Int32) → (Nat → Int32) → (Nat → Int64) → Option (Int32)) (x4 : Int32) (v_X_text_length : Int32) (v_X_written_length : Int32) (v_X_drawing_count : Int32) (v_X_cover_width : Int32) (v_X_cover_height : Int32) (v_X_cover_top : Int64) (v_X_cover_x : Int64) (v_X_cover_y : Int64) (v_X_cover_startX : Int64) (v_X_cover_startY : Int64) (c_X_drawing_kinds : (Nat → Int32)) (c_X_drawing_numbers : (Nat → Int32)) (c_X_cover_squares : (Nat → Int32)) (c_X_cover_changes : (Nat → Int32)) (c_X_written_characters : (Nat → Int32)) (c_X_given : (Nat → Int64)) (v_X_reader_wrong : Int32) (v_X_reader_pen_startX : Int64) (v_X_reader_pen_startY : Int64) (v_X_reader_pen_controlX : Int64) (v_X_reader_pen_controlY : Int64) (c_X_reader_pen_matrices_rows : (Nat → Int64)) (c_X_text_characters : (Nat → Int32)) (c_X_reader_numbers : (Nat → Int64)) (c_X_reader_pen_points : (Nat → Int64)) (c_X_reader_pen_drawn : (Nat → Int64)) (c_X_spare_numbers : (Nat → Int32)) (c_X_spare_kinds : (Nat → Int32)) (v_Y_size : Int32) (v_Y_commands : Int32) (v_Y_value : Int64) (v_Y_turnX : Int64) (v_Y_turnY : Int64) (v_Y_written : Int32) (v_Y_edges : Int32) (v_Y_wide : Int32) (v_Y_high : Int32) (v_Y_behind : Int32) (v_Y_whole : Int64) (c_Y_kinds : (Nat → Int32)) (c_Y_fromX : (Nat → Int32)) (c_Y_fromY : (Nat → Int32)) (c_Y_toX : (Nat → Int32)) (c_Y_toY : (Nat → Int32)) (c_Y_numbers : (Nat → Int32)) (c_Y_points : (Nat → Int32)) (c_Y_signs : (Nat → Int32)) (c_Y_matrix : (Nat → Int64)) (c_Y_text : (Nat → Int32)) (c_Y_given : (Nat → Int64)) (c_Y_drawnNumbers : (Nat → Int32)) (c_Y_drawnKinds : (Nat → Int32)) (c_out : (Nat → Int64)) : Option (Int32) :=
  kb5 (lPLaw_close N c_X_given v_X_drawing_count c_X_drawing_numbers c_X_drawing_kinds c_out) fun r473 v_X_drawing_count_473 c_X_drawing_numbers_473 c_X_drawing_kinds_473 c_out_473 =>
  kb4 (m_close N v_Y_commands c_Y_kinds) fun r479 v_Y_fault_479 v_Y_commands_479 c_Y_kinds_479 =>
  kb1 (m_thrown v_Y_fault_479) fun r485 =>
  if r485 = r473 then
    if r473 = (0 : Int32) then
        if (c_out_473 ((0 : Int32)).toNatClampNeg) = (Int32.toInt64 r479) then
            k23 (x4 + (7 : Int32)) v_X_text_length v_X_written_length v_X_drawing_count_473 v_X_cover_width v_X_cover_height v_X_cover_top v_X_cover_x v_X_cover_y v_X_cover_startX v_X_cover_startY c_X_drawing_kinds_473 c_X_drawing_numbers_473 c_X_cover_squares c_X_cover_changes c_X_written_characters c_X_given v_X_reader_wrong v_X_reader_pen_startX v_X_reader_pen_startY v_X_reader_pen_controlX v_X_reader_pen_controlY c_X_reader_pen_matrices_rows c_X_text_characters c_X_reader_numbers c_X_reader_pen_points c_X_reader_pen_drawn c_X_spare_numbers c_X_spare_kinds v_Y_size v_Y_commands_479 v_Y_value v_Y_turnX v_Y_turnY v_Y_written v_Y_edges v_Y_wide v_Y_high v_Y_behind v_Y_whole c_Y_kinds_479 c_Y_fromX c_Y_fromY c_Y_toX c_Y_toY c_Y_numbers c_Y_points c_Y_signs c_Y_matrix c_Y_text c_Y_given c_Y_drawnNumbers c_Y_drawnKinds c_out_473
          else
            some (0 : Int32)
      else
        k23 (x4 + (7 : Int32)) v_X_text_length v_X_written_length v_X_drawing_count_473 v_X_cover_width v_X_cover_height v_X_cover_top v_X_cover_x v_X_cover_y v_X_cover_startX v_X_cover_startY c_X_drawing_kinds_473 c_X_drawing_numbers_473 c_X_cover_squares c_X_cover_changes c_X_written_characters c_X_given v_X_reader_wrong v_X_reader_pen_startX v_X_reader_pen_startY v_X_reader_pen_controlX v_X_reader_pen_controlY c_X_reader_pen_matrices_rows c_X_text_characters c_X_reader_numbers c_X_reader_pen_points c_X_reader_pen_drawn c_X_spare_numbers c_X_spare_kinds v_Y_size v_Y_commands_479 v_Y_value v_Y_turnX v_Y_turnY v_Y_written v_Y_edges v_Y_wide v_Y_high v_Y_behind v_Y_whole c_Y_kinds_479 c_Y_fromX c_Y_fromY c_Y_toX c_Y_toY c_Y_numbers c_Y_points c_Y_signs c_Y_matrix c_Y_text c_Y_given c_Y_drawnNumbers c_Y_drawnKinds c_out_473
  else
    some (0 : Int32)
def lw_b515 (N : Nat) (sL : Nat) (sX : Nat → Int32) (k23 : Int32 → Int32 → Int32 → Int32 → Int32 → Int32 → Int64 → Int64 → Int64 → Int64 → Int64 → (Nat → Int32) → (Nat → Int32) → (Nat → Int32) → (Nat → Int32) → (Nat → Int32) → (Nat → Int64) → Int32 → Int64 → Int64 → Int64 → Int64 → (Nat → Int64) → (Nat → Int32) → (Nat → Int64) → (Nat → Int64) → (Nat → Int64) → (Nat → Int32) → (Nat → Int32) → Int32 → Int32 → Int64 → Int64 → Int64 → Int32 → Int32 → Int32 → Int32 → Int32 → Int64 → (Nat → Int32) → (Nat → Int32) → (Nat → Int32) → (Nat → Int32) → (Nat → Int32) → (Nat → Int32) → (Nat → Int32) → (Nat → Int32) → (Nat → Int64) → (Nat → Int32) → (Nat → Int64) → (Nat → Int32) → (Nat → Int32) → (Nat → Int64) → Option (Int32)) (x4 : Int32) (v_X_text_length : Int32) (v_X_written_length : Int32) (v_X_drawing_count : Int32) (v_X_cover_width : Int32) (v_X_cover_height : Int32) (v_X_cover_top : Int64) (v_X_cover_x : Int64) (v_X_cover_y : Int64) (v_X_cover_startX : Int64) (v_X_cover_startY : Int64) (c_X_drawing_kinds : (Nat → Int32)) (c_X_drawing_numbers : (Nat → Int32)) (c_X_cover_squares : (Nat → Int32)) (c_X_cover_changes : (Nat → Int32)) (c_X_written_characters : (Nat → Int32)) (c_X_given : (Nat → Int64)) (v_X_reader_wrong : Int32) (v_X_reader_pen_startX : Int64) (v_X_reader_pen_startY : Int64) (v_X_reader_pen_controlX : Int64) (v_X_reader_pen_controlY : Int64) (c_X_reader_pen_matrices_rows : (Nat → Int64)) (c_X_text_characters : (Nat → Int32)) (c_X_reader_numbers : (Nat → Int64)) (c_X_reader_pen_points : (Nat → Int64)) (c_X_reader_pen_drawn : (Nat → Int64)) (c_X_spare_numbers : (Nat → Int32)) (c_X_spare_kinds : (Nat → Int32)) (v_Y_size : Int32) (v_Y_commands : Int32) (v_Y_value : Int64) (v_Y_turnX : Int64) (v_Y_turnY : Int64) (v_Y_written : Int32) (v_Y_edges : Int32) (v_Y_wide : Int32) (v_Y_high : Int32) (v_Y_behind : Int32) (v_Y_whole : Int64) (c_Y_kinds : (Nat → Int32)) (c_Y_fromX : (Nat → Int32)) (c_Y_fromY : (Nat → Int32)) (c_Y_toX : (Nat → Int32)) (c_Y_toY : (Nat → Int32)) (c_Y_numbers : (Nat → Int32)) (c_Y_points : (Nat → Int32)) (c_Y_signs : (Nat → Int32)) (c_Y_matrix : (Nat → Int64)) (c_Y_text : (Nat → Int32)) (c_Y_given : (Nat → Int64)) (c_Y_drawnNumbers : (Nat → Int32)) (c_Y_drawnKinds : (Nat → Int32)) (c_out : (Nat → Int64)) : Option (Int32) :=
  kg (ki (x4 + (1 : Int32)) sL) (
  kb2 (lPLaw_command (sX ((x4 + (1 : Int32))).toNatClampNeg) v_X_drawing_count c_X_drawing_kinds c_out) fun r523 c_out_523 =>
  kg (ki (x4 + (1 : Int32)) sL) (
  kb2 (m_command1 (sX ((x4 + (1 : Int32))).toNatClampNeg) v_Y_commands c_Y_kinds) fun r535 v_Y_fault_535 =>
  kb1 (m_thrown v_Y_fault_535) fun r541 =>
  if r541 = r523 then
    if r523 = (0 : Int32) then
        if (c_out_523 ((0 : Int32)).toNatClampNeg) = (Int32.toInt64 r535) then
            k23 (x4 + (7 : Int32)) v_X_text_length v_X_written_length v_X_drawing_count v_X_cover_width v_X_cover_height v_X_cover_top v_X_cover_x v_X_cover_y v_X_cover_startX v_X_cover_startY c_X_drawing_kinds c_X_drawing_numbers c_X_cover_squares c_X_cover_changes c_X_written_characters c_X_given v_X_reader_wrong v_X_reader_pen_startX v_X_reader_pen_startY v_X_reader_pen_controlX v_X_reader_pen_controlY c_X_reader_pen_matrices_rows c_X_text_characters c_X_reader_numbers c_X_reader_pen_points c_X_reader_pen_drawn c_X_spare_numbers c_X_spare_kinds v_Y_size v_Y_commands v_Y_value v_Y_turnX v_Y_turnY v_Y_written v_Y_edges v_Y_wide v_Y_high v_Y_behind v_Y_whole c_Y_kinds c_Y_fromX c_Y_fromY c_Y_toX c_Y_toY c_Y_numbers c_Y_points c_Y_signs c_Y_matrix c_Y_text c_Y_given c_Y_drawnNumbers c_Y_drawnKinds c_out_523
          else
            some (0 : Int32)
      else
        k23 (x4 + (7 : Int32)) v_X_text_length v_X_written_length v_X_drawing_count v_X_cover_width v_X_cover_height v_X_cover_top v_X_cover_x v_X_cover_y v_X_cover_startX v_X_cover_startY c_X_drawing_kinds c_X_drawing_numbers c_X_cover_squares c_X_cover_changes c_X_written_characters c_X_given v_X_reader_wrong v_X_reader_pen_startX v_X_reader_pen_startY v_X_reader_pen_controlX v_X_reader_pen_controlY c_X_reader_pen_matrices_rows c_X_text_characters c_X_reader_numbers c_X_reader_pen_points c_X_reader_pen_drawn c_X_spare_numbers c_X_spare_kinds v_Y_size v_Y_commands v_Y_value v_Y_turnX v_Y_turnY v_Y_written v_Y_edges v_Y_wide v_Y_high v_Y_behind v_Y_whole c_Y_kinds c_Y_fromX c_Y_fromY c_Y_toX c_Y_toY c_Y_numbers c_Y_points c_Y_signs c_Y_matrix c_Y_text c_Y_given c_Y_drawnNumbers c_Y_drawnKinds c_out_523
  else
    some (0 : Int32)))
def lw_b571 (N : Nat) (sL : Nat) (sX : Nat → Int32) (k23 : Int32 → Int32 → Int32 → Int32 → Int32 → Int32 → Int64 → Int64 → Int64 → Int64 → Int64 → (Nat → Int32) → (Nat → Int32) → (Nat → Int32) → (Nat → Int32) → (Nat → Int32) → (Nat → Int64) → Int32 → Int64 → Int64 → Int64 → Int64 → (Nat → Int64) → (Nat → Int32) → (Nat → Int64) → (Nat → Int64) → (Nat → Int64) → (Nat → Int32) → (Nat → Int32) → Int32 → Int32 → Int64 → Int64 → Int64 → Int32 → Int32 → Int32 → Int32 → Int32 → Int64 → (Nat → Int32) → (Nat → Int32) → (Nat → Int32) → (Nat → Int32) → (Nat → Int32) → (Nat → Int32) → (Nat → Int32) → (Nat → Int32) → (Nat → Int64) → (Nat → Int32) → (Nat → Int64) → (Nat → Int32) → (Nat → Int32) → (Nat → Int64) → Option (Int32)) (x4 : Int32) (v_X_text_length : Int32) (v_X_written_length : Int32) (v_X_drawing_count : Int32) (v_X_cover_width : Int32) (v_X_cover_height : Int32) (v_X_cover_top : Int64) (v_X_cover_x : Int64) (v_X_cover_y : Int64) (v_X_cover_startX : Int64) (v_X_cover_startY : Int64) (c_X_drawing_kinds : (Nat → Int32)) (c_X_drawing_numbers : (Nat → Int32)) (c_X_cover_squares : (Nat → Int32)) (c_X_cover_changes : (Nat → Int32)) (c_X_written_characters : (Nat → Int32)) (c_X_given : (Nat → Int64)) (v_X_reader_wrong : Int32) (v_X_reader_pen_startX : Int64) (v_X_reader_pen_startY : Int64) (v_X_reader_pen_controlX : Int64) (v_X_reader_pen_controlY : Int64) (c_X_reader_pen_matrices_rows : (Nat → Int64)) (c_X_text_characters : (Nat → Int32)) (c_X_reader_numbers : (Nat → Int64)) (c_X_reader_pen_points : (Nat → Int64)) (c_X_reader_pen_drawn : (Nat → Int64)) (c_X_spare_numbers : (Nat → Int32)) (c_X_spare_kinds : (Nat → Int32)) (v_Y_size : Int32) (v_Y_commands : Int32) (v_Y_value : Int64) (v_Y_turnX : Int64) (v_Y_turnY : Int64) (v_Y_written : Int32) (v_Y_edges : Int32) (v_Y_wide : Int32) (v_Y_high : Int32) (v_Y_behind : Int32) (v_Y_whole : Int64) (c_Y_kinds : (Nat → Int32)) (c_Y_fromX : (Nat → Int32)) (c_Y_fromY : (Nat → Int32)) (c_Y_toX : (Nat → Int32)) (c_Y_toY : (Nat → Int32)) (c_Y_numbers : (Nat → Int32)) (c_Y_points : (Nat → Int32)) (c_Y_signs : (Nat → Int32)) (c_Y_matrix : (Nat → Int64)) (c_Y_text : (Nat → Int32)) (c_Y_given : (Nat → Int64)) (c_Y_drawnNumbers : (Nat → Int32)) (c_Y_drawnKinds : (Nat → Int32)) (c_out : (Nat → Int64)) : Option (Int32) :=
  kg (ki (x4 + (1 : Int32)) sL) (
  kg (ki (x4 + (2 : Int32)) sL) (
  kb2 (lPLaw_number (sX ((x4 + (1 : Int32))).toNatClampNeg) (sX ((x4 + (2 : Int32))).toNatClampNeg) v_X_drawing_count c_X_drawing_kinds c_X_drawing_numbers c_out) fun r585 c_out_585 =>
  kg (ki (x4 + (1 : Int32)) sL) (
  kg (ki (x4 + (2 : Int32)) sL) (
  kb2 (m_number (sX ((x4 + (1 : Int32))).toNatClampNeg) (sX ((x4 + (2 : Int32))).toNatClampNeg) v_Y_commands c_Y_kinds c_Y_numbers) fun r603 v_Y_fault_603 =>
  kb1 (m_thrown v_Y_fault_603) fun r609 =>
  if r609 = r585 then
    if r585 = (0 : Int32) then
        if (c_out_585 ((0 : Int32)).toNatClampNeg) = (Int32.toInt64 r603) then
            k23 (x4 + (7 : Int32)) v_X_text_length v_X_written_length v_X_drawing_count v_X_cover_width v_X_cover_height v_X_cover_top v_X_cover_x v_X_cover_y v_X_cover_startX v_X_cover_startY c_X_drawing_kinds c_X_drawing_numbers c_X_cover_squares c_X_cover_changes c_X_written_characters c_X_given v_X_reader_wrong v_X_reader_pen_startX v_X_reader_pen_startY v_X_reader_pen_controlX v_X_reader_pen_controlY c_X_reader_pen_matrices_rows c_X_text_characters c_X_reader_numbers c_X_reader_pen_points c_X_reader_pen_drawn c_X_spare_numbers c_X_spare_kinds v_Y_size v_Y_commands v_Y_value v_Y_turnX v_Y_turnY v_Y_written v_Y_edges v_Y_wide v_Y_high v_Y_behind v_Y_whole c_Y_kinds c_Y_fromX c_Y_fromY c_Y_toX c_Y_toY c_Y_numbers c_Y_points c_Y_signs c_Y_matrix c_Y_text c_Y_given c_Y_drawnNumbers c_Y_drawnKinds c_out_585
          else
            some (0 : Int32)
      else
        k23 (x4 + (7 : Int32)) v_X_text_length v_X_written_length v_X_drawing_count v_X_cover_width v_X_cover_height v_X_cover_top v_X_cover_x v_X_cover_y v_X_cover_startX v_X_cover_startY c_X_drawing_kinds c_X_drawing_numbers c_X_cover_squares c_X_cover_changes c_X_written_characters c_X_given v_X_reader_wrong v_X_reader_pen_startX v_X_reader_pen_startY v_X_reader_pen_controlX v_X_reader_pen_controlY c_X_reader_pen_matrices_rows c_X_text_characters c_X_reader_numbers c_X_reader_pen_points c_X_reader_pen_drawn c_X_spare_numbers c_X_spare_kinds v_Y_size v_Y_commands v_Y_value v_Y_turnX v_Y_turnY v_Y_written v_Y_edges v_Y_wide v_Y_high v_Y_behind v_Y_whole c_Y_kinds c_Y_fromX c_Y_fromY c_Y_toX c_Y_toY c_Y_numbers c_Y_points c_Y_signs c_Y_matrix c_Y_text c_Y_given c_Y_drawnNumbers c_Y_drawnKinds c_out_585
  else
    some (0 : Int32)))))
def lw_b639 (N : Nat) (sL : Nat) (sX : Nat → Int32) (k23 : Int32 → Int32 → Int32 → Int32 → Int32 → Int32 → Int64 → Int64 → Int64 → Int64 → Int64 → (Nat → Int32) → (Nat → Int32) → (Nat → Int32) → (Nat → Int32) → (Nat → Int32) → (Nat → Int64) → Int32 → Int64 → Int64 → Int64 → Int64 → (Nat → Int64) → (Nat → Int32) → (Nat → Int64) → (Nat → Int64) → (Nat → Int64) → (Nat → Int32) → (Nat → Int32) → Int32 → Int32 → Int64 → Int64 → Int64 → Int32 → Int32 → Int32 → Int32 → Int32 → Int64 → (Nat → Int32) → (Nat → Int32) → (Nat → Int32) → (Nat → Int32) → (Nat → Int32) → (Nat → Int32) → (Nat → Int32) → (Nat → Int32) → (Nat → Int64) → (Nat → Int32) → (Nat → Int64) → (Nat → Int32) → (Nat → Int32) → (Nat → Int64) → Option (Int32)) (x4 : Int32) (v_X_text_length : Int32) (v_X_drawing_count : Int32) (v_X_cover_width : Int32) (v_X_cover_height : Int32) (v_X_cover_top : Int64) (v_X_cover_x : Int64) (v_X_cover_y : Int64) (v_X_cover_startX : Int64) (v_X_cover_startY : Int64) (c_X_drawing_kinds : (Nat → Int32)) (c_X_drawing_numbers : (Nat → Int32)) (c_X_cover_squares : (Nat → Int32)) (c_X_cover_changes : (Nat → Int32)) (c_X_written_characters : (Nat → Int32)) (c_X_given : (Nat → Int64)) (v_X_reader_wrong : Int32) (v_X_reader_pen_startX : Int64) (v_X_reader_pen_startY : Int64) (v_X_reader_pen_controlX : Int64) (v_X_reader_pen_controlY : Int64) (c_X_reader_pen_matrices_rows : (Nat → Int64)) (c_X_text_characters : (Nat → Int32)) (c_X_reader_numbers : (Nat → Int64)) (c_X_reader_pen_points : (Nat → Int64)) (c_X_reader_pen_drawn : (Nat → Int64)) (c_X_spare_numbers : (Nat → Int32)) (c_X_spare_kinds : (Nat → Int32)) (v_Y_size : Int32) (v_Y_commands : Int32) (v_Y_value : Int64) (v_Y_turnX : Int64) (v_Y_turnY : Int64) (v_Y_edges : Int32) (v_Y_wide : Int32) (v_Y_high : Int32) (v_Y_behind : Int32) (v_Y_whole : Int64) (c_Y_kinds : (Nat → Int32)) (c_Y_fromX : (Nat → Int32)) (c_Y_fromY : (Nat → Int32)) (c_Y_toX : (Nat → Int32)) (c_Y_toY : (Nat → Int32)) (c_Y_numbers : (Nat → Int32)) (c_Y_points : (Nat → Int32)) (c_Y_signs : (Nat → Int32)) (c_Y_matrix : (Nat → Int64)) (c_Y_text : (Nat → Int32)) (c_Y_given : (Nat → Int64)) (c_Y_drawnNumbers : (Nat → Int32)) (c_Y_drawnKinds : (Nat → Int32)) (c_out : (Nat → Int64)) : Option (Int32) :=
  kb3 (xP_write N v_X_drawing_count c_X_drawing_kinds c_X_drawing_numbers c_X_written_characters) fun r640 v_X_written_length_640 c_X_written_characters_640 =>
  kb6 (m_write N v_Y_commands v_Y_behind v_Y_whole c_Y_kinds c_Y_signs c_Y_numbers) fun r644 v_Y_fault_644 v_Y_written_644 v_Y_behind_644 v_Y_whole_644 c_Y_signs_644 =>
  if r640 = r644 then
    k23 (x4 + (7 : Int32)) v_X_text_length v_X_written_length_640 v_X_drawing_count v_X_cover_width v_X_cover_height v_X_cover_top v_X_cover_x v_X_cover_y v_X_cover_startX v_X_cover_startY c_X_drawing_kinds c_X_drawing_numbers c_X_cover_squares c_X_cover_changes c_X_written_characters_640 c_X_given v_X_reader_wrong v_X_reader_pen_startX v_X_reader_pen_startY v_X_reader_pen_controlX v_X_reader_pen_controlY c_X_reader_pen_matrices_rows c_X_text_characters c_X_reader_numbers c_X_reader_pen_points c_X_reader_pen_drawn c_X_spare_numbers c_X_spare_kinds v_Y_size v_Y_commands v_Y_value v_Y_turnX v_Y_turnY v_Y_written_644 v_Y_edges v_Y_wide v_Y_high v_Y_behind_644 v_Y_whole_644 c_Y_kinds c_Y_fromX c_Y_fromY c_Y_toX c_Y_toY c_Y_numbers c_Y_points c_Y_signs_644 c_Y_matrix c_Y_text c_Y_given c_Y_drawnNumbers c_Y_drawnKinds c_out
  else
    some (0 : Int32)
def lw_b652 (N : Nat) (sL : Nat) (sX : Nat → Int32) (k23 : Int32 → Int32 → Int32 → Int32 → Int32 → Int32 → Int64 → Int64 → Int64 → Int64 → Int64 → (Nat → Int32) → (Nat → Int32) → (Nat → Int32) → (Nat → Int32) → (Nat → Int32) → (Nat → Int64) → Int32 → Int64 → Int64 → Int64 → Int64 → (Nat → Int64) → (Nat → Int32) → (Nat → Int64) → (Nat → Int64) → (Nat → Int64) → (Nat → Int32) → (Nat → Int32) → Int32 → Int32 → Int64 → Int64 → Int64 → Int32 → Int32 → Int32 → Int32 → Int32 → Int64 → (Nat → Int32) → (Nat → Int32) → (Nat → Int32) → (Nat → Int32) → (Nat → Int32) → (Nat → Int32) → (Nat → Int32) → (Nat → Int32) → (Nat → Int64) → (Nat → Int32) → (Nat → Int64) → (Nat → Int32) → (Nat → Int32) → (Nat → Int64) → Option (Int32)) (x4 : Int32) (v_X_text_length : Int32) (v_X_written_length : Int32) (v_X_drawing_count : Int32) (v_X_cover_width : Int32) (v_X_cover_height : Int32) (v_X_cover_top : Int64) (v_X_cover_x : Int64) (v_X_cover_y : Int64) (v_X_cover_startX : Int64) (v_X_cover_startY : Int64) (c_X_drawing_kinds : (Nat → Int32)) (c_X_drawing_numbers : (Nat → Int32)) (c_X_cover_squares : (Nat → Int32)) (c_X_cover_changes : (Nat → Int32)) (c_X_written_characters : (Nat → Int32)) (c_X_given : (Nat → Int64)) (v_X_reader_wrong : Int32) (v_X_reader_pen_startX : Int64) (v_X_reader_pen_startY : Int64) (v_X_reader_pen_controlX : Int64) (v_X_reader_pen_controlY : Int64) (c_X_reader_pen_matrices_rows : (Nat → Int64)) (c_X_text_characters : (Nat → Int32)) (c_X_reader_numbers : (Nat → Int64)) (c_X_reader_pen_points : (Nat → Int64)) (c_X_reader_pen_drawn : (Nat → Int64)) (c_X_spare_numbers : (Nat → Int32)) (c_X_spare_kinds : (Nat → Int32)) (v_Y_size : Int32) (v_Y_commands : Int32) (v_Y_value : Int64) (v_Y_turnX : Int64) (v_Y_turnY : Int64) (v_Y_written : Int32) (v_Y_edges : Int32) (v_Y_wide : Int32) (v_Y_high : Int32) (v_Y_behind : Int32) (v_Y_whole : Int64) (c_Y_kinds : (Nat → Int32)) (c_Y_fromX : (Nat → Int32)) (c_Y_fromY : (Nat → Int32)) (c_Y_toX : (Nat → Int32)) (c_Y_toY : (Nat → Int32)) (c_Y_numbers : (Nat → Int32)) (c_Y_points : (Nat → Int32)) (c_Y_signs : (Nat → Int32)) (c_Y_matrix : (Nat → Int64)) (c_Y_text : (Nat → Int32)) (c_Y_given : (Nat → Int64)) (c_Y_drawnNumbers : (Nat → Int32)) (c_Y_drawnKinds : (Nat → Int32)) (c_out : (Nat → Int64)) : Option (Int32) :=
  kg (ki (x4 + (1 : Int32)) sL) (
  kb2 (lPLaw_charAt (sX ((x4 + (1 : Int32))).toNatClampNeg) v_X_written_length c_X_written_characters c_out) fun r660 c_out_660 =>
  kg (ki (x4 + (1 : Int32)) sL) (
  kb2 (m_charAt (sX ((x4 + (1 : Int32))).toNatClampNeg) v_Y_written c_Y_signs) fun r672 v_Y_fault_672 =>
  kb1 (m_thrown v_Y_fault_672) fun r678 =>
  if r678 = r660 then
    if r660 = (0 : Int32) then
        if (c_out_660 ((0 : Int32)).toNatClampNeg) = (Int32.toInt64 r672) then
            k23 (x4 + (7 : Int32)) v_X_text_length v_X_written_length v_X_drawing_count v_X_cover_width v_X_cover_height v_X_cover_top v_X_cover_x v_X_cover_y v_X_cover_startX v_X_cover_startY c_X_drawing_kinds c_X_drawing_numbers c_X_cover_squares c_X_cover_changes c_X_written_characters c_X_given v_X_reader_wrong v_X_reader_pen_startX v_X_reader_pen_startY v_X_reader_pen_controlX v_X_reader_pen_controlY c_X_reader_pen_matrices_rows c_X_text_characters c_X_reader_numbers c_X_reader_pen_points c_X_reader_pen_drawn c_X_spare_numbers c_X_spare_kinds v_Y_size v_Y_commands v_Y_value v_Y_turnX v_Y_turnY v_Y_written v_Y_edges v_Y_wide v_Y_high v_Y_behind v_Y_whole c_Y_kinds c_Y_fromX c_Y_fromY c_Y_toX c_Y_toY c_Y_numbers c_Y_points c_Y_signs c_Y_matrix c_Y_text c_Y_given c_Y_drawnNumbers c_Y_drawnKinds c_out_660
          else
            some (0 : Int32)
      else
        k23 (x4 + (7 : Int32)) v_X_text_length v_X_written_length v_X_drawing_count v_X_cover_width v_X_cover_height v_X_cover_top v_X_cover_x v_X_cover_y v_X_cover_startX v_X_cover_startY c_X_drawing_kinds c_X_drawing_numbers c_X_cover_squares c_X_cover_changes c_X_written_characters c_X_given v_X_reader_wrong v_X_reader_pen_startX v_X_reader_pen_startY v_X_reader_pen_controlX v_X_reader_pen_controlY c_X_reader_pen_matrices_rows c_X_text_characters c_X_reader_numbers c_X_reader_pen_points c_X_reader_pen_drawn c_X_spare_numbers c_X_spare_kinds v_Y_size v_Y_commands v_Y_value v_Y_turnX v_Y_turnY v_Y_written v_Y_edges v_Y_wide v_Y_high v_Y_behind v_Y_whole c_Y_kinds c_Y_fromX c_Y_fromY c_Y_toX c_Y_toY c_Y_numbers c_Y_points c_Y_signs c_Y_matrix c_Y_text c_Y_given c_Y_drawnNumbers c_Y_drawnKinds c_out_660
  else
    some (0 : Int32)))
def lw_b708 (N : Nat) (sL : Nat) (sX : Nat → Int32) (k23 : Int32 → Int32 → Int32 → Int32 → Int32 → Int32 → Int64 → Int64 → Int64 → Int64 → Int64 → (Nat → Int32) → (Nat → Int32) → (Nat → Int32) → (Nat → Int32) → (Nat → Int32) → (Nat → Int64) → Int32 → Int64 → Int64 → Int64 → Int64 → (Nat → Int64) → (Nat → Int32) → (Nat → Int64) → (Nat → Int64) → (Nat → Int64) → (Nat → Int32) → (Nat → Int32) → Int32 → Int32 → Int64 → Int64 → Int64 → Int32 → Int32 → Int32 → Int32 → Int32 → Int64 → (Nat → Int32) → (Nat → Int32) → (Nat → Int32) → (Nat → Int32) → (Nat → Int32) → (Nat → Int32) → (Nat → Int32) → (Nat → Int32) → (Nat → Int64) → (Nat → Int32) → (Nat → Int64) → (Nat → Int32) → (Nat → Int32) → (Nat → Int64) → Option (Int32)) (x4 : Int32) (v_X_text_length : Int32) (v_X_written_length : Int32) (v_X_drawing_count : Int32) (v_X_cover_width : Int32) (v_X_cover_height : Int32) (v_X_cover_top : Int64) (v_X_cover_x : Int64) (v_X_cover_y : Int64) (v_X_cover_startX : Int64) (v_X_cover_startY : Int64) (c_X_drawing_kinds : (Nat → Int32)) (c_X_drawing_numbers : (Nat → Int32)) (c_X_cover_squares : (Nat → Int32)) (c_X_cover_changes : (Nat → Int32)) (c_X_written_characters : (Nat → Int32)) (c_X_given : (Nat → Int64)) (v_X_reader_wrong : Int32) (v_X_reader_pen_startX : Int64) (v_X_reader_pen_startY : Int64) (v_X_reader_pen_controlX : Int64) (v_X_reader_pen_controlY : Int64) (c_X_reader_pen_matrices_rows : (Nat → Int64)) (c_X_text_characters : (Nat → Int32)) (c_X_reader_numbers : (Nat → Int64)) (c_X_reader_pen_points : (Nat → Int64)) (c_X_reader_pen_drawn : (Nat → Int64)) (c_X_spare_numbers : (Nat → Int32)) (c_X_spare_kinds : (Nat → Int32)) (v_Y_size : Int32) (v_Y_commands : Int32) (v_Y_value : Int64) (v_Y_turnX : Int64) (v_Y_turnY : Int64) (v_Y_written : Int32) (v_Y_edges : Int32) (v_Y_wide : Int32) (v_Y_high : Int32) (v_Y_behind : Int32) (v_Y_whole : Int64) (c_Y_kinds : (Nat → Int32)) (c_Y_fromX : (Nat → Int32)) (c_Y_fromY : (Nat → Int32)) (c_Y_toX : (Nat → Int32)) (c_Y_toY : (Nat → Int32)) (c_Y_numbers : (Nat → Int32)) (c_Y_points : (Nat → Int32)) (c_Y_signs : (Nat → Int32)) (c_Y_matrix : (Nat → Int64)) (c_Y_text : (Nat → Int32)) (c_Y_given : (Nat → Int64)) (c_Y_drawnNumbers : (Nat → Int32)) (c_Y_drawnKinds : (Nat → Int32)) (c_out : (Nat → Int64)) : Option (Int32) :=
  kg (ki (x4 + (1 : Int32)) sL) (
  kg (ki (x4 + (2 : Int32)) sL) (
  kg (ki (x4 + (3 : Int32)) sL) (
  kb11 (lPLaw_render N (sX ((x4 + (1 : Int32))).toNatClampNeg) (sX ((x4 + (2 : Int32))).toNatClampNeg) (sX ((x4 + (3 : Int32))).toNatClampNeg) v_X_cover_width v_X_cover_height v_X_cover_top v_X_cover_x v_X_cover_y v_X_cover_startX v_X_cover_startY c_X_cover_squares c_X_cover_changes v_X_drawing_count c_X_drawing_kinds c_X_drawing_numbers c_out) fun r728 v_X_cover_width_728 v_X_cover_height_728 v_X_cover_top_728 v_X_cover_x_728 v_X_cover_y_728 v_X_cover_startX_728 v_X_cover_startY_728 c_X_cover_squares_728 c_X_cover_changes_728 c_out_728 =>
  kg (ki (x4 + (1 : Int32)) sL) (
  kg (ki (x4 + (2 : Int32)) sL) (
  kg (ki (x4 + (3 : Int32)) sL) (
  kb10 (m_render N (sX ((x4 + (1 : Int32))).toNatClampNeg) (sX ((x4 + (2 : Int32))).toNatClampNeg) (sX ((x4 + (3 : Int32))).toNatClampNeg) v_Y_commands v_Y_edges v_Y_wide v_Y_high c_Y_kinds c_Y_fromX c_Y_fromY c_Y_toX c_Y_toY c_Y_numbers c_Y_points) fun r752 v_Y_fault_752 v_Y_edges_752 v_Y_wide_752 v_Y_high_752 c_Y_fromX_752 c_Y_fromY_752 c_Y_toX_752 c_Y_toY_752 c_Y_points_752 =>
  kb1 (m_thrown v_Y_fault_752) fun r758 =>
  if r758 = r728 then
    if r728 = (0 : Int32) then
        if (c_out_728 ((0 : Int32)).toNatClampNeg) = (Int32.toInt64 r752) then
            k23 (x4 + (7 : Int32)) v_X_text_length v_X_written_length v_X_drawing_count v_X_cover_width_728 v_X_cover_height_728 v_X_cover_top_728 v_X_cover_x_728 v_X_cover_y_728 v_X_cover_startX_728 v_X_cover_startY_728 c_X_drawing_kinds c_X_drawing_numbers c_X_cover_squares_728 c_X_cover_changes_728 c_X_written_characters c_X_given v_X_reader_wrong v_X_reader_pen_startX v_X_reader_pen_startY v_X_reader_pen_controlX v_X_reader_pen_controlY c_X_reader_pen_matrices_rows c_X_text_characters c_X_reader_numbers c_X_reader_pen_points c_X_reader_pen_drawn c_X_spare_numbers c_X_spare_kinds v_Y_size v_Y_commands v_Y_value v_Y_turnX v_Y_turnY v_Y_written v_Y_edges_752 v_Y_wide_752 v_Y_high_752 v_Y_behind v_Y_whole c_Y_kinds c_Y_fromX_752 c_Y_fromY_752 c_Y_toX_752 c_Y_toY_752 c_Y_numbers c_Y_points_752 c_Y_signs c_Y_matrix c_Y_text c_Y_given c_Y_drawnNumbers c_Y_drawnKinds c_out_728
          else
            some (0 : Int32)
      else
        k23 (x4 + (7 : Int32)) v_X_text_length v_X_written_length v_X_drawing_count v_X_cover_width_728 v_X_cover_height_728 v_X_cover_top_728 v_X_cover_x_728 v_X_cover_y_728 v_X_cover_startX_728 v_X_cover_startY_728 c_X_drawing_kinds c_X_drawing_numbers c_X_cover_squares_728 c_X_cover_changes_728 c_X_written_characters c_X_given v_X_reader_wrong v_X_reader_pen_startX v_X_reader_pen_startY v_X_reader_pen_controlX v_X_reader_pen_controlY c_X_reader_pen_matrices_rows c_X_text_characters c_X_reader_numbers c_X_reader_pen_points c_X_reader_pen_drawn c_X_spare_numbers c_X_spare_kinds v_Y_size v_Y_commands v_Y_value v_Y_turnX v_Y_turnY v_Y_written v_Y_edges_752 v_Y_wide_752 v_Y_high_752 v_Y_behind v_Y_whole c_Y_kinds c_Y_fromX_752 c_Y_fromY_752 c_Y_toX_752 c_Y_toY_752 c_Y_numbers c_Y_points_752 c_Y_signs c_Y_matrix c_Y_text c_Y_given c_Y_drawnNumbers c_Y_drawnKinds c_out_728
  else
    some (0 : Int32)))))))
def lw_b788 (N : Nat) (sL : Nat) (sX : Nat → Int32) (k23 : Int32 → Int32 → Int32 → Int32 → Int32 → Int32 → Int64 → Int64 → Int64 → Int64 → Int64 → (Nat → Int32) → (Nat → Int32) → (Nat → Int32) → (Nat → Int32) → (Nat → Int32) → (Nat → Int64) → Int32 → Int64 → Int64 → Int64 → Int64 → (Nat → Int64) → (Nat → Int32) → (Nat → Int64) → (Nat → Int64) → (Nat → Int64) → (Nat → Int32) → (Nat → Int32) → Int32 → Int32 → Int64 → Int64 → Int64 → Int32 → Int32 → Int32 → Int32 → Int32 → Int64 → (Nat → Int32) → (Nat → Int32) → (Nat → Int32) → (Nat → Int32) → (Nat → Int32) → (Nat → Int32) → (Nat → Int32) → (Nat → Int32) → (Nat → Int64) → (Nat → Int32) → (Nat → Int64) → (Nat → Int32) → (Nat → Int32) → (Nat → Int64) → Option (Int32)) (x4 : Int32) (v_X_text_length : Int32) (v_X_written_length : Int32) (v_X_drawing_count : Int32) (v_X_cover_width : Int32) (v_X_cover_height : Int32) (v_X_cover_top : Int64) (v_X_cover_x : Int64) (v_X_cover_y : Int64) (v_X_cover_startX : Int64) (v_X_cover_startY : Int64) (c_X_drawing_kinds : (Nat → Int32)) (c_X_drawing_numbers : (Nat → Int32)) (c_X_cover_squares : (Nat → Int32)) (c_X_cover_changes : (Nat → Int32)) (c_X_written_characters : (Nat → Int32)) (c_X_given : (Nat → Int64)) (v_X_reader_wrong : Int32) (v_X_reader_pen_startX : Int64) (v_X_reader_pen_startY : Int64) (v_X_reader_pen_controlX : Int64) (v_X_reader_pen_controlY : Int64) (c_X_reader_pen_matrices_rows : (Nat → Int64)) (c_X_text_characters : (Nat → Int32)) (c_X_reader_numbers : (Nat → Int64)) (c_X_reader_pen_points : (Nat → Int64)) (c_X_reader_pen_drawn : (Nat → Int64)) (c_X_spare_numbers : (Nat → Int32)) (c_X_spare_kinds : (Nat → Int32)) (v_Y_size : Int32) (v_Y_commands : Int32) (v_Y_value : Int64) (v_Y_turnX : Int64) (v_Y_turnY : Int64) (v_Y_written : Int32) (v_Y_edges : Int32) (v_Y_wide : Int32) (v_Y_high : Int32) (v_Y_behind : Int32) (v_Y_whole : Int64) (c_Y_kinds : (Nat → Int32)) (c_Y_fromX : (Nat → Int32)) (c_Y_fromY : (Nat → Int32)) (c_Y_toX : (Nat → Int32)) (c_Y_toY : (Nat → Int32)) (c_Y_numbers : (Nat → Int32)) (c_Y_points : (Nat → Int32)) (c_Y_signs : (Nat → Int32)) (c_Y_matrix : (Nat → Int64)) (c_Y_text : (Nat → Int32)) (c_Y_given : (Nat → Int64)) (c_Y_drawnNumbers : (Nat → Int32)) (c_Y_drawnKinds : (Nat → Int32)) (c_out : (Nat → Int64)) : Option (Int32) :=
  kg (ki (x4 + (1 : Int32)) sL) (
  kg (ki (x4 + (2 : Int32)) sL) (
  kb2 (lPLaw_covered (sX ((x4 + (1 : Int32))).toNatClampNeg) (sX ((x4 + (2 : Int32))).toNatClampNeg) v_X_cover_width v_X_cover_height c_X_cover_squares c_out) fun r802 c_out_802 =>
  kg (ki (x4 + (1 : Int32)) sL) (
  kg (ki (x4 + (2 : Int32)) sL) (
  kb2 (m_covered (sX ((x4 + (1 : Int32))).toNatClampNeg) (sX ((x4 + (2 : Int32))).toNatClampNeg) v_Y_wide v_Y_high c_Y_points) fun r820 v_Y_fault_820 =>
  kb1 (m_thrown v_Y_fault_820) fun r826 =>
  if r826 = r802 then
    if r802 = (0 : Int32) then
        if (c_out_802 ((0 : Int32)).toNatClampNeg) = (Int32.toInt64 r820) then
            k23 (x4 + (7 : Int32)) v_X_text_length v_X_written_length v_X_drawing_count v_X_cover_width v_X_cover_height v_X_cover_top v_X_cover_x v_X_cover_y v_X_cover_startX v_X_cover_startY c_X_drawing_kinds c_X_drawing_numbers c_X_cover_squares c_X_cover_changes c_X_written_characters c_X_given v_X_reader_wrong v_X_reader_pen_startX v_X_reader_pen_startY v_X_reader_pen_controlX v_X_reader_pen_controlY c_X_reader_pen_matrices_rows c_X_text_characters c_X_reader_numbers c_X_reader_pen_points c_X_reader_pen_drawn c_X_spare_numbers c_X_spare_kinds v_Y_size v_Y_commands v_Y_value v_Y_turnX v_Y_turnY v_Y_written v_Y_edges v_Y_wide v_Y_high v_Y_behind v_Y_whole c_Y_kinds c_Y_fromX c_Y_fromY c_Y_toX c_Y_toY c_Y_numbers c_Y_points c_Y_signs c_Y_matrix c_Y_text c_Y_given c_Y_drawnNumbers c_Y_drawnKinds c_out_802
          else
            some (0 : Int32)
      else
        k23 (x4 + (7 : Int32)) v_X_text_length v_X_written_length v_X_drawing_count v_X_cover_width v_X_cover_height v_X_cover_top v_X_cover_x v_X_cover_y v_X_cover_startX v_X_cover_startY c_X_drawing_kinds c_X_drawing_numbers c_X_cover_squares c_X_cover_changes c_X_written_characters c_X_given v_X_reader_wrong v_X_reader_pen_startX v_X_reader_pen_startY v_X_reader_pen_controlX v_X_reader_pen_controlY c_X_reader_pen_matrices_rows c_X_text_characters c_X_reader_numbers c_X_reader_pen_points c_X_reader_pen_drawn c_X_spare_numbers c_X_spare_kinds v_Y_size v_Y_commands v_Y_value v_Y_turnX v_Y_turnY v_Y_written v_Y_edges v_Y_wide v_Y_high v_Y_behind v_Y_whole c_Y_kinds c_Y_fromX c_Y_fromY c_Y_toX c_Y_toY c_Y_numbers c_Y_points c_Y_signs c_Y_matrix c_Y_text c_Y_given c_Y_drawnNumbers c_Y_drawnKinds c_out_802
  else
    some (0 : Int32)))))
def lw_b856 (N : Nat) (sL : Nat) (sX : Nat → Int32) (k23 : Int32 → Int32 → Int32 → Int32 → Int32 → Int32 → Int64 → Int64 → Int64 → Int64 → Int64 → (Nat → Int32) → (Nat → Int32) → (Nat → Int32) → (Nat → Int32) → (Nat → Int32) → (Nat → Int64) → Int32 → Int64 → Int64 → Int64 → Int64 → (Nat → Int64) → (Nat → Int32) → (Nat → Int64) → (Nat → Int64) → (Nat → Int64) → (Nat → Int32) → (Nat → Int32) → Int32 → Int32 → Int64 → Int64 → Int64 → Int32 → Int32 → Int32 → Int32 → Int32 → Int64 → (Nat → Int32) → (Nat → Int32) → (Nat → Int32) → (Nat → Int32) → (Nat → Int32) → (Nat → Int32) → (Nat → Int32) → (Nat → Int32) → (Nat → Int64) → (Nat → Int32) → (Nat → Int64) → (Nat → Int32) → (Nat → Int32) → (Nat → Int64) → Option (Int32)) (x4 : Int32) (v_X_text_length : Int32) (v_X_written_length : Int32) (v_X_drawing_count : Int32) (v_X_cover_width : Int32) (v_X_cover_height : Int32) (v_X_cover_top : Int64) (v_X_cover_x : Int64) (v_X_cover_y : Int64) (v_X_cover_startX : Int64) (v_X_cover_startY : Int64) (c_X_drawing_kinds : (Nat → Int32)) (c_X_drawing_numbers : (Nat → Int32)) (c_X_cover_squares : (Nat → Int32)) (c_X_cover_changes : (Nat → Int32)) (c_X_written_characters : (Nat → Int32)) (c_X_given : (Nat → Int64)) (v_X_reader_wrong : Int32) (v_X_reader_pen_startX : Int64) (v_X_reader_pen_startY : Int64) (v_X_reader_pen_controlX : Int64) (v_X_reader_pen_controlY : Int64) (c_X_reader_pen_matrices_rows : (Nat → Int64)) (c_X_text_characters : (Nat → Int32)) (c_X_reader_numbers : (Nat → Int64)) (c_X_reader_pen_points : (Nat → Int64)) (c_X_reader_pen_drawn : (Nat → Int64)) (c_X_spare_numbers : (Nat → Int32)) (c_X_spare_kinds : (Nat → Int32)) (v_Y_size : Int32) (v_Y_commands : Int32) (v_Y_value : Int64) (v_Y_turnX : Int64) (v_Y_turnY : Int64) (v_Y_written : Int32) (v_Y_edges : Int32) (v_Y_wide : Int32) (v_Y_high : Int32) (v_Y_behind : Int32) (v_Y_whole : Int64) (c_Y_kinds : (Nat → Int32)) (c_Y_fromX : (Nat → Int32)) (c_Y_fromY : (Nat → Int32)) (c_Y_toX : (Nat → Int32)) (c_Y_toY : (Nat → Int32)) (c_Y_numbers : (Nat → Int32)) (c_Y_points : (Nat → Int32)) (c_Y_signs : (Nat → Int32)) (c_Y_matrix : (Nat → Int64)) (c_Y_text : (Nat → Int32)) (c_Y_given : (Nat → Int64)) (c_Y_drawnNumbers : (Nat → Int32)) (c_Y_drawnKinds : (Nat → Int32)) (c_out : (Nat → Int64)) : Option (Int32) :=
  kg (ki (x4 + (1 : Int32)) sL) (
  kb1 (xP_bound N (sX ((x4 + (1 : Int32))).toNatClampNeg) v_X_drawing_count c_X_drawing_kinds c_X_drawing_numbers) fun r863 =>
  kg (ki (x4 + (1 : Int32)) sL) (
  kb2 (m_bound N (sX ((x4 + (1 : Int32))).toNatClampNeg) v_Y_commands c_Y_kinds c_Y_numbers) fun r873 v_Y_fault_873 =>
  if r863 = r873 then
    k23 (x4 + (7 : Int32)) v_X_text_length v_X_written_length v_X_drawing_count v_X_cover_width v_X_cover_height v_X_cover_top v_X_cover_x v_X_cover_y v_X_cover_startX v_X_cover_startY c_X_drawing_kinds c_X_drawing_numbers c_X_cover_squares c_X_cover_changes c_X_written_characters c_X_given v_X_reader_wrong v_X_reader_pen_startX v_X_reader_pen_startY v_X_reader_pen_controlX v_X_reader_pen_controlY c_X_reader_pen_matrices_rows c_X_text_characters c_X_reader_numbers c_X_reader_pen_points c_X_reader_pen_drawn c_X_spare_numbers c_X_spare_kinds v_Y_size v_Y_commands v_Y_value v_Y_turnX v_Y_turnY v_Y_written v_Y_edges v_Y_wide v_Y_high v_Y_behind v_Y_whole c_Y_kinds c_Y_fromX c_Y_fromY c_Y_toX c_Y_toY c_Y_numbers c_Y_points c_Y_signs c_Y_matrix c_Y_text c_Y_given c_Y_drawnNumbers c_Y_drawnKinds c_out
  else
    some (0 : Int32)))
def lw_b881 (N : Nat) (sL : Nat) (sX : Nat → Int32) (k23 : Int32 → Int32 → Int32 → Int32 → Int32 → Int32 → Int64 → Int64 → Int64 → Int64 → Int64 → (Nat → Int32) → (Nat → Int32) → (Nat → Int32) → (Nat → Int32) → (Nat → Int32) → (Nat → Int64) → Int32 → Int64 → Int64 → Int64 → Int64 → (Nat → Int64) → (Nat → Int32) → (Nat → Int64) → (Nat → Int64) → (Nat → Int64) → (Nat → Int32) → (Nat → Int32) → Int32 → Int32 → Int64 → Int64 → Int64 → Int32 → Int32 → Int32 → Int32 → Int32 → Int64 → (Nat → Int32) → (Nat → Int32) → (Nat → Int32) → (Nat → Int32) → (Nat → Int32) → (Nat → Int32) → (Nat → Int32) → (Nat → Int32) → (Nat → Int64) → (Nat → Int32) → (Nat → Int64) → (Nat → Int32) → (Nat → Int32) → (Nat → Int64) → Option (Int32)) (x4 : Int32) (v_X_text_length : Int32) (v_X_written_length : Int32) (v_X_drawing_count : Int32) (v_X_cover_width : Int32) (v_X_cover_height : Int32) (v_X_cover_top : Int64) (v_X_cover_x : Int64) (v_X_cover_y : Int64) (v_X_cover_startX : Int64) (v_X_cover_startY : Int64) (c_X_drawing_kinds : (Nat → Int32)) (c_X_drawing_numbers : (Nat → Int32)) (c_X_cover_squares : (Nat → Int32)) (c_X_cover_changes : (Nat → Int32)) (c_X_written_characters : (Nat → Int32)) (c_X_given : (Nat → Int64)) (v_X_reader_wrong : Int32) (v_X_reader_pen_startX : Int64) (v_X_reader_pen_startY : Int64) (v_X_reader_pen_controlX : Int64) (v_X_reader_pen_controlY : Int64) (c_X_reader_pen_matrices_rows : (Nat → Int64)) (c_X_text_characters : (Nat → Int32)) (c_X_reader_numbers : (Nat → Int64)) (c_X_reader_pen_points : (Nat → Int64)) (c_X_reader_pen_drawn : (Nat → Int64)) (c_X_spare_numbers : (Nat → Int32)) (c_X_spare_kinds : (Nat → Int32)) (v_Y_size : Int32) (v_Y_commands : Int32) (v_Y_value : Int64) (v_Y_turnX : Int64) (v_Y_turnY : Int64) (v_Y_written : Int32) (v_Y_edges : Int32) (v_Y_wide : Int32) (v_Y_high : Int32) (v_Y_behind : Int32) (v_Y_whole : Int64) (c_Y_kinds : (Nat → Int32)) (c_Y_fromX : (Nat → Int32)) (c_Y_fromY : (Nat → Int32)) (c_Y_toX : (Nat → Int32)) (c_Y_toY : (Nat → Int32)) (c_Y_numbers : (Nat → Int32)) (c_Y_points : (Nat → Int32)) (c_Y_signs : (Nat → Int32)) (c_Y_matrix : (Nat → Int64)) (c_Y_text : (Nat → Int32)) (c_Y_given : (Nat → Int64)) (c_Y_drawnNumbers : (Nat → Int32)) (c_Y_drawnKinds : (Nat → Int32)) (c_out : (Nat → Int64)) : Option (Int32) :=
  kg (ki (x4 + (1 : Int32)) sL) (
  kb1 (xP_told N (sX ((x4 + (1 : Int32))).toNatClampNeg) v_X_drawing_count c_X_drawing_kinds v_X_written_length v_X_text_length) fun r888 =>
  kg (ki (x4 + (1 : Int32)) sL) (
  kb7 (m_told N (sX ((x4 + (1 : Int32))).toNatClampNeg) v_Y_size v_Y_commands v_Y_written v_Y_edges c_Y_kinds c_Y_fromX c_Y_fromY c_Y_toX c_Y_toY c_Y_numbers) fun r898 v_Y_fault_898 v_Y_edges_898 c_Y_fromX_898 c_Y_fromY_898 c_Y_toX_898 c_Y_toY_898 =>
  if r888 = r898 then
    k23 (x4 + (7 : Int32)) v_X_text_length v_X_written_length v_X_drawing_count v_X_cover_width v_X_cover_height v_X_cover_top v_X_cover_x v_X_cover_y v_X_cover_startX v_X_cover_startY c_X_drawing_kinds c_X_drawing_numbers c_X_cover_squares c_X_cover_changes c_X_written_characters c_X_given v_X_reader_wrong v_X_reader_pen_startX v_X_reader_pen_startY v_X_reader_pen_controlX v_X_reader_pen_controlY c_X_reader_pen_matrices_rows c_X_text_characters c_X_reader_numbers c_X_reader_pen_points c_X_reader_pen_drawn c_X_spare_numbers c_X_spare_kinds v_Y_size v_Y_commands v_Y_value v_Y_turnX v_Y_turnY v_Y_written v_Y_edges_898 v_Y_wide v_Y_high v_Y_behind v_Y_whole c_Y_kinds c_Y_fromX_898 c_Y_fromY_898 c_Y_toX_898 c_Y_toY_898 c_Y_numbers c_Y_points c_Y_signs c_Y_matrix c_Y_text c_Y_given c_Y_drawnNumbers c_Y_drawnKinds c_out
  else
    some (0 : Int32)))
def lw_b906 (N : Nat) (sL : Nat) (sX : Nat → Int32) (k23 : Int32 → Int32 → Int32 → Int32 → Int32 → Int32 → Int64 → Int64 → Int64 → Int64 → Int64 → (Nat → Int32) → (Nat → Int32) → (Nat → Int32) → (Nat → Int32) → (Nat → Int32) → (Nat → Int64) → Int32 → Int64 → Int64 → Int64 → Int64 → (Nat → Int64) → (Nat → Int32) → (Nat → Int64) → (Nat → Int64) → (Nat → Int64) → (Nat → Int32) → (Nat → Int32) → Int32 → Int32 → Int64 → Int64 → Int64 → Int32 → Int32 → Int32 → Int32 → Int32 → Int64 → (Nat → Int32) → (Nat → Int32) → (Nat → Int32) → (Nat → Int32) → (Nat → Int32) → (Nat → Int32) → (Nat → Int32) → (Nat → Int32) → (Nat → Int64) → (Nat → Int32) → (Nat → Int64) → (Nat → Int32) → (Nat → Int32) → (Nat → Int64) → Option (Int32)) (x4 : Int32) (v_X_cover_top : Int64) (v_X_cover_x : Int64) (v_X_cover_y : Int64) (v_X_cover_startX : Int64) (v_X_cover_startY : Int64) (c_X_drawing_kinds : (Nat → Int32)) (c_X_drawing_numbers : (Nat → Int32)) (c_X_cover_squares : (Nat → Int32)) (c_X_cover_changes : (Nat → Int32)) (c_X_written_characters : (Nat → Int32)) (c_X_given : (Nat → Int64)) (v_X_reader_wrong : Int32) (v_X_reader_pen_startX : Int64) (v_X_reader_pen_startY : Int64) (v_X_reader_pen_controlX : Int64) (v_X_reader_pen_controlY : Int64) (c_X_reader_pen_matrices_rows : (Nat → Int64)) (c_X_text_characters : (Nat → Int32)) (c_X_reader_numbers : (Nat → Int64)) (c_X_reader_pen_points : (Nat → Int64)) (c_X_reader_pen_drawn : (Nat → Int64)) (c_X_spare_numbers : (Nat → Int32)) (c_X_spare_kinds : (Nat → Int32)) (v_Y_value : Int64) (v_Y_turnX : Int64) (v_Y_turnY : Int64) (v_Y_edges : Int32) (v_Y_behind : Int32) (v_Y_whole : Int64) (c_Y_kinds : (Nat → Int32)) (c_Y_fromX : (Nat → Int32)) (c_Y_fromY : (Nat → Int32)) (c_Y_toX : (Nat → Int32)) (c_Y_toY : (Nat → Int32)) (c_Y_numbers : (Nat → Int32)) (c_Y_points : (Nat → Int32)) (c_Y_signs : (Nat → Int32)) (c_Y_matrix : (Nat → Int64)) (c_Y_text : (Nat → Int32)) (c_Y_given : (Nat → Int64)) (c_Y_drawnNumbers : (Nat → Int32)) (c_Y_drawnKinds : (Nat → Int32)) (c_out : (Nat → Int64)) : Option (Int32) :=
  kb5 (xP_clear) fun v_X_text_length_907 v_X_written_length_907 v_X_drawing_count_907 v_X_cover_width_907 v_X_cover_height_907 =>
  kb6 (m_clear) fun v_Y_fault_911 v_Y_size_911 v_Y_commands_911 v_Y_written_911 v_Y_wide_911 v_Y_high_911 =>
  k23 (x4 + (7 : Int32)) v_X_text_length_907 v_X_written_length_907 v_X_drawing_count_907 v_X_cover_width_907 v_X_cover_height_907 v_X_cover_top v_X_cover_x v_X_cover_y v_X_cover_startX v_X_cover_startY c_X_drawing_kinds c_X_drawing_numbers c_X_cover_squares c_X_cover_changes c_X_written_characters c_X_given v_X_reader_wrong v_X_reader_pen_startX v_X_reader_pen_startY v_X_reader_pen_controlX v_X_reader_pen_controlY c_X_reader_pen_matrices_rows c_X_text_characters c_X_reader_numbers c_X_reader_pen_points c_X_reader_pen_drawn c_X_spare_numbers c_X_spare_kinds v_Y_size_911 v_Y_commands_911 v_Y_value v_Y_turnX v_Y_turnY v_Y_written_911 v_Y_edges v_Y_wide_911 v_Y_high_911 v_Y_behind v_Y_whole c_Y_kinds c_Y_fromX c_Y_fromY c_Y_toX c_Y_toY c_Y_numbers c_Y_points c_Y_signs c_Y_matrix c_Y_text c_Y_given c_Y_drawnNumbers c_Y_drawnKinds c_out
def lw_B23 (N : Nat) (sL : Nat) (sX : Nat → Int32) (k23 : Int32 → Int32 → Int32 → Int32 → Int32 → Int32 → Int64 → Int64 → Int64 → Int64 → Int64 → (Nat → Int32) → (Nat → Int32) → (Nat → Int32) → (Nat → Int32) → (Nat → Int32) → (Nat → Int64) → Int32 → Int64 → Int64 → Int64 → Int64 → (Nat → Int64) → (Nat → Int32) → (Nat → Int64) → (Nat → Int64) → (Nat → Int64) → (Nat → Int32) → (Nat → Int32) → Int32 → Int32 → Int64 → Int64 → Int64 → Int32 → Int32 → Int32 → Int32 → Int32 → Int64 → (Nat → Int32) → (Nat → Int32) → (Nat → Int32) → (Nat → Int32) → (Nat → Int32) → (Nat → Int32) → (Nat → Int32) → (Nat → Int32) → (Nat → Int64) → (Nat → Int32) → (Nat → Int64) → (Nat → Int32) → (Nat → Int32) → (Nat → Int64) → Option (Int32)) (x4 : Int32) (v_X_text_length : Int32) (v_X_written_length : Int32) (v_X_drawing_count : Int32) (v_X_cover_width : Int32) (v_X_cover_height : Int32) (v_X_cover_top : Int64) (v_X_cover_x : Int64) (v_X_cover_y : Int64) (v_X_cover_startX : Int64) (v_X_cover_startY : Int64) (c_X_drawing_kinds : (Nat → Int32)) (c_X_drawing_numbers : (Nat → Int32)) (c_X_cover_squares : (Nat → Int32)) (c_X_cover_changes : (Nat → Int32)) (c_X_written_characters : (Nat → Int32)) (c_X_given : (Nat → Int64)) (v_X_reader_wrong : Int32) (v_X_reader_pen_startX : Int64) (v_X_reader_pen_startY : Int64) (v_X_reader_pen_controlX : Int64) (v_X_reader_pen_controlY : Int64) (c_X_reader_pen_matrices_rows : (Nat → Int64)) (c_X_text_characters : (Nat → Int32)) (c_X_reader_numbers : (Nat → Int64)) (c_X_reader_pen_points : (Nat → Int64)) (c_X_reader_pen_drawn : (Nat → Int64)) (c_X_spare_numbers : (Nat → Int32)) (c_X_spare_kinds : (Nat → Int32)) (v_Y_size : Int32) (v_Y_commands : Int32) (v_Y_value : Int64) (v_Y_turnX : Int64) (v_Y_turnY : Int64) (v_Y_written : Int32) (v_Y_edges : Int32) (v_Y_wide : Int32) (v_Y_high : Int32) (v_Y_behind : Int32) (v_Y_whole : Int64) (c_Y_kinds : (Nat → Int32)) (c_Y_fromX : (Nat → Int32)) (c_Y_fromY : (Nat → Int32)) (c_Y_toX : (Nat → Int32)) (c_Y_toY : (Nat → Int32)) (c_Y_numbers : (Nat → Int32)) (c_Y_points : (Nat → Int32)) (c_Y_signs : (Nat → Int32)) (c_Y_matrix : (Nat → Int64)) (c_Y_text : (Nat → Int32)) (c_Y_given : (Nat → Int64)) (c_Y_drawnNumbers : (Nat → Int32)) (c_Y_drawnKinds : (Nat → Int32)) (c_out : (Nat → Int64)) : Option (Int32) :=
  if ((Int32.ofNat sL) - (7 : Int32)) < x4 then
    some (1 : Int32)
  else
    kg (ki x4 sL) (
      if ((sX (x4).toNatClampNeg) &&& (15 : Int32)) = (0 : Int32) then
        lw_b116 N sL sX k23 x4 v_X_text_length v_X_written_length v_X_drawing_count v_X_cover_width v_X_cover_height v_X_cover_top v_X_cover_x v_X_cover_y v_X_cover_startX v_X_cover_startY c_X_drawing_kinds c_X_drawing_numbers c_X_cover_squares c_X_cover_changes c_X_written_characters c_X_given v_X_reader_wrong v_X_reader_pen_startX v_X_reader_pen_startY v_X_reader_pen_controlX v_X_reader_pen_controlY c_X_reader_pen_matrices_rows c_X_text_characters c_X_reader_numbers c_X_reader_pen_points c_X_reader_pen_drawn c_X_spare_numbers c_X_spare_kinds v_Y_size v_Y_commands v_Y_value v_Y_turnX v_Y_turnY v_Y_written v_Y_edges v_Y_wide v_Y_high v_Y_behind v_Y_whole c_Y_kinds c_Y_fromX c_Y_fromY c_Y_toX c_Y_toY c_Y_numbers c_Y_points c_Y_signs c_Y_matrix c_Y_text c_Y_given c_Y_drawnNumbers c_Y_drawnKinds c_out
      else if ((sX (x4).toNatClampNeg) &&& (15 : Int32)) = (1 : Int32) then
        lw_b204 N sL sX k23 x4 v_X_text_length v_X_written_length v_X_drawing_count v_X_cover_width v_X_cover_height v_X_cover_top v_X_cover_x v_X_cover_y v_X_cover_startX v_X_cover_startY c_X_drawing_kinds c_X_drawing_numbers c_X_cover_squares c_X_cover_changes c_X_written_characters c_X_given v_X_reader_wrong v_X_reader_pen_startX v_X_reader_pen_startY v_X_reader_pen_controlX v_X_reader_pen_controlY c_X_reader_pen_matrices_rows c_X_text_characters c_X_reader_numbers c_X_reader_pen_points c_X_reader_pen_drawn c_X_spare_numbers c_X_spare_kinds v_Y_size v_Y_commands v_Y_value v_Y_turnX v_Y_turnY v_Y_written v_Y_edges v_Y_wide v_Y_high v_Y_behind v_Y_whole c_Y_kinds c_Y_fromX c_Y_fromY c_Y_toX c_Y_toY c_Y_numbers c_Y_points c_Y_signs c_Y_matrix c_Y_text c_Y_given c_Y_drawnNumbers c_Y_drawnKinds c_out
      else if ((sX (x4).toNatClampNeg) &&& (15 : Int32)) = (2 : Int32) then
        lw_b217 N sL sX k23 x4 v_X_text_length v_X_written_length v_X_drawing_count v_X_cover_width v_X_cover_height v_X_cover_top v_X_cover_x v_X_cover_y v_X_cover_startX v_X_cover_startY c_X_drawing_kinds c_X_drawing_numbers c_X_cover_squares c_X_cover_changes c_X_written_characters c_X_given v_X_reader_wrong v_X_reader_pen_startX v_X_reader_pen_startY v_X_reader_pen_controlX v_X_reader_pen_controlY c_X_reader_pen_matrices_rows c_X_text_characters c_X_reader_numbers c_X_reader_pen_points c_X_reader_pen_drawn c_X_spare_numbers c_X_spare_kinds v_Y_size v_Y_commands v_Y_value v_Y_turnX v_Y_turnY v_Y_written v_Y_edges v_Y_wide v_Y_high v_Y_behind v_Y_whole c_Y_kinds c_Y_fromX c_Y_fromY c_Y_toX c_Y_toY c_Y_numbers c_Y_points c_Y_signs c_Y_matrix c_Y_text c_Y_given c_Y_drawnNumbers c_Y_drawnKinds c_out
      else if ((sX (x4).toNatClampNeg) &&& (15 : Int32)) = (3 : Int32) then
        lw_b285 N sL sX k23 x4 v_X_text_length v_X_written_length v_X_drawing_count v_X_cover_width v_X_cover_height v_X_cover_top v_X_cover_x v_X_cover_y v_X_cover_startX v_X_cover_startY c_X_drawing_kinds c_X_drawing_numbers c_X_cover_squares c_X_cover_changes c_X_written_characters c_X_given v_X_reader_wrong v_X_reader_pen_startX v_X_reader_pen_startY v_X_reader_pen_controlX v_X_reader_pen_controlY c_X_reader_pen_matrices_rows c_X_text_characters c_X_reader_numbers c_X_reader_pen_points c_X_reader_pen_drawn c_X_spare_numbers c_X_spare_kinds v_Y_size v_Y_commands v_Y_value v_Y_turnX v_Y_turnY v_Y_written v_Y_edges v_Y_wide v_Y_high v_Y_behind v_Y_whole c_Y_kinds c_Y_fromX c_Y_fromY c_Y_toX c_Y_toY c_Y_numbers c_Y_points c_Y_signs c_Y_matrix c_Y_text c_Y_given c_Y_drawnNumbers c_Y_drawnKinds c_out
      else if ((sX (x4).toNatClampNeg) &&& (15 : Int32)) = (4 : Int32) then
        lw_b353 N sL sX k23 x4 v_X_text_length v_X_written_length v_X_drawing_count v_X_cover_width v_X_cover_height v_X_cover_top v_X_cover_x v_X_cover_y v_X_cover_startX v_X_cover_startY c_X_drawing_kinds c_X_drawing_numbers c_X_cover_squares c_X_cover_changes c_X_written_characters c_X_given v_X_reader_wrong v_X_reader_pen_startX v_X_reader_pen_startY v_X_reader_pen_controlX v_X_reader_pen_controlY c_X_reader_pen_matrices_rows c_X_text_characters c_X_reader_numbers c_X_reader_pen_points c_X_reader_pen_drawn c_X_spare_numbers c_X_spare_kinds v_Y_size v_Y_commands v_Y_value v_Y_turnX v_Y_turnY v_Y_written v_Y_edges v_Y_wide v_Y_high v_Y_behind v_Y_whole c_Y_kinds c_Y_fromX c_Y_fromY c_Y_toX c_Y_toY c_Y_numbers c_Y_points c_Y_signs c_Y_matrix c_Y_text c_Y_given c_Y_drawnNumbers c_Y_drawnKinds c_out
      else if ((sX (x4).toNatClampNeg) &&& (15 : Int32)) = (5 : Int32) then
        lw_b471 N sL sX k23 x4 v_X_text_length v_X_written_length v_X_drawing_count v_X_cover_width v_X_cover_height v_X_cover_top v_X_cover_x v_X_cover_y v_X_cover_startX v_X_cover_startY c_X_drawing_kinds c_X_drawing_numbers c_X_cover_squares c_X_cover_changes c_X_written_characters c_X_given v_X_reader_wrong v_X_reader_pen_startX v_X_reader_pen_startY v_X_reader_pen_controlX v_X_reader_pen_controlY c_X_reader_pen_matrices_rows c_X_text_characters c_X_reader_numbers c_X_reader_pen_points c_X_reader_pen_drawn c_X_spare_numbers c_X_spare_kinds v_Y_size v_Y_commands v_Y_value v_Y_turnX v_Y_turnY v_Y_written v_Y_edges v_Y_wide v_Y_high v_Y_behind v_Y_whole c_Y_kinds c_Y_fromX c_Y_fromY c_Y_toX c_Y_toY c_Y_numbers c_Y_points c_Y_signs c_Y_matrix c_Y_text c_Y_given c_Y_drawnNumbers c_Y_drawnKinds c_out
      else if ((sX (x4).toNatClampNeg) &&& (15 : Int32)) = (6 : Int32) then
        lw_b515 N sL sX k23 x4 v_X_text_length v_X_written_length v_X_drawing_count v_X_cover_width v_X_cover_height v_X_cover_top v_X_cover_x v_X_cover_y v_X_cover_startX v_X_cover_startY c_X_drawing_kinds c_X_drawing_numbers c_X_cover_squares c_X_cover_changes c_X_written_characters c_X_given v_X_reader_wrong v_X_reader_pen_startX v_X_reader_pen_startY v_X_reader_pen_controlX v_X_reader_pen_controlY c_X_reader_pen_matrices_rows c_X_text_characters c_X_reader_numbers c_X_reader_pen_points c_X_reader_pen_drawn c_X_spare_numbers c_X_spare_kinds v_Y_size v_Y_commands v_Y_value v_Y_turnX v_Y_turnY v_Y_written v_Y_edges v_Y_wide v_Y_high v_Y_behind v_Y_whole c_Y_kinds c_Y_fromX c_Y_fromY c_Y_toX c_Y_toY c_Y_numbers c_Y_points c_Y_signs c_Y_matrix c_Y_text c_Y_given c_Y_drawnNumbers c_Y_drawnKinds c_out
      else if ((sX (x4).toNatClampNeg) &&& (15 : Int32)) = (7 : Int32) then
        lw_b571 N sL sX k23 x4 v_X_text_length v_X_written_length v_X_drawing_count v_X_cover_width v_X_cover_height v_X_cover_top v_X_cover_x v_X_cover_y v_X_cover_startX v_X_cover_startY c_X_drawing_kinds c_X_drawing_numbers c_X_cover_squares c_X_cover_changes c_X_written_characters c_X_given v_X_reader_wrong v_X_reader_pen_startX v_X_reader_pen_startY v_X_reader_pen_controlX v_X_reader_pen_controlY c_X_reader_pen_matrices_rows c_X_text_characters c_X_reader_numbers c_X_reader_pen_points c_X_reader_pen_drawn c_X_spare_numbers c_X_spare_kinds v_Y_size v_Y_commands v_Y_value v_Y_turnX v_Y_turnY v_Y_written v_Y_edges v_Y_wide v_Y_high v_Y_behind v_Y_whole c_Y_kinds c_Y_fromX c_Y_fromY c_Y_toX c_Y_toY c_Y_numbers c_Y_points c_Y_signs c_Y_matrix c_Y_text c_Y_given c_Y_drawnNumbers c_Y_drawnKinds c_out
      else if ((sX (x4).toNatClampNeg) &&& (15 : Int32)) = (8 : Int32) then
        lw_b639 N sL sX k23 x4 v_X_text_length v_X_drawing_count v_X_cover_width v_X_cover_height v_X_cover_top v_X_cover_x v_X_cover_y v_X_cover_startX v_X_cover_startY c_X_drawing_kinds c_X_drawing_numbers c_X_cover_squares c_X_cover_changes c_X_written_characters c_X_given v_X_reader_wrong v_X_reader_pen_startX v_X_reader_pen_startY v_X_reader_pen_controlX v_X_reader_pen_controlY c_X_reader_pen_matrices_rows c_X_text_characters c_X_reader_numbers c_X_reader_pen_points c_X_reader_pen_drawn c_X_spare_numbers c_X_spare_kinds v_Y_size v_Y_commands v_Y_value v_Y_turnX v_Y_turnY v_Y_edges v_Y_wide v_Y_high v_Y_behind v_Y_whole c_Y_kinds c_Y_fromX c_Y_fromY c_Y_toX c_Y_toY c_Y_numbers c_Y_points c_Y_signs c_Y_matrix c_Y_text c_Y_given c_Y_drawnNumbers c_Y_drawnKinds c_out
      else if ((sX (x4).toNatClampNeg) &&& (15 : Int32)) = (9 : Int32) then
        lw_b652 N sL sX k23 x4 v_X_text_length v_X_written_length v_X_drawing_count v_X_cover_width v_X_cover_height v_X_cover_top v_X_cover_x v_X_cover_y v_X_cover_startX v_X_cover_startY c_X_drawing_kinds c_X_drawing_numbers c_X_cover_squares c_X_cover_changes c_X_written_characters c_X_given v_X_reader_wrong v_X_reader_pen_startX v_X_reader_pen_startY v_X_reader_pen_controlX v_X_reader_pen_controlY c_X_reader_pen_matrices_rows c_X_text_characters c_X_reader_numbers c_X_reader_pen_points c_X_reader_pen_drawn c_X_spare_numbers c_X_spare_kinds v_Y_size v_Y_commands v_Y_value v_Y_turnX v_Y_turnY v_Y_written v_Y_edges v_Y_wide v_Y_high v_Y_behind v_Y_whole c_Y_kinds c_Y_fromX c_Y_fromY c_Y_toX c_Y_toY c_Y_numbers c_Y_points c_Y_signs c_Y_matrix c_Y_text c_Y_given c_Y_drawnNumbers c_Y_drawnKinds c_out
      else if ((sX (x4).toNatClampNeg) &&& (15 : Int32)) = (10 : Int32) then
        lw_b708 N sL sX k23 x4 v_X_text_length v_X_written_length v_X_drawing_count v_X_cover_width v_X_cover_height v_X_cover_top v_X_cover_x v_X_cover_y v_X_cover_startX v_X_cover_startY c_X_drawing_kinds c_X_drawing_numbers c_X_cover_squares c_X_cover_changes c_X_written_characters c_X_given v_X_reader_wrong v_X_reader_pen_startX v_X_reader_pen_startY v_X_reader_pen_controlX v_X_reader_pen_controlY c_X_reader_pen_matrices_rows c_X_text_characters c_X_reader_numbers c_X_reader_pen_points c_X_reader_pen_drawn c_X_spare_numbers c_X_spare_kinds v_Y_size v_Y_commands v_Y_value v_Y_turnX v_Y_turnY v_Y_written v_Y_edges v_Y_wide v_Y_high v_Y_behind v_Y_whole c_Y_kinds c_Y_fromX c_Y_fromY c_Y_toX c_Y_toY c_Y_numbers c_Y_points c_Y_signs c_Y_matrix c_Y_text c_Y_given c_Y_drawnNumbers c_Y_drawnKinds c_out
      else if ((sX (x4).toNatClampNeg) &&& (15 : Int32)) = (11 : Int32) then
        lw_b788 N sL sX k23 x4 v_X_text_length v_X_written_length v_X_drawing_count v_X_cover_width v_X_cover_height v_X_cover_top v_X_cover_x v_X_cover_y v_X_cover_startX v_X_cover_startY c_X_drawing_kinds c_X_drawing_numbers c_X_cover_squares c_X_cover_changes c_X_written_characters c_X_given v_X_reader_wrong v_X_reader_pen_startX v_X_reader_pen_startY v_X_reader_pen_controlX v_X_reader_pen_controlY c_X_reader_pen_matrices_rows c_X_text_characters c_X_reader_numbers c_X_reader_pen_points c_X_reader_pen_drawn c_X_spare_numbers c_X_spare_kinds v_Y_size v_Y_commands v_Y_value v_Y_turnX v_Y_turnY v_Y_written v_Y_edges v_Y_wide v_Y_high v_Y_behind v_Y_whole c_Y_kinds c_Y_fromX c_Y_fromY c_Y_toX c_Y_toY c_Y_numbers c_Y_points c_Y_signs c_Y_matrix c_Y_text c_Y_given c_Y_drawnNumbers c_Y_drawnKinds c_out
      else if ((sX (x4).toNatClampNeg) &&& (15 : Int32)) = (12 : Int32) then
        lw_b856 N sL sX k23 x4 v_X_text_length v_X_written_length v_X_drawing_count v_X_cover_width v_X_cover_height v_X_cover_top v_X_cover_x v_X_cover_y v_X_cover_startX v_X_cover_startY c_X_drawing_kinds c_X_drawing_numbers c_X_cover_squares c_X_cover_changes c_X_written_characters c_X_given v_X_reader_wrong v_X_reader_pen_startX v_X_reader_pen_startY v_X_reader_pen_controlX v_X_reader_pen_controlY c_X_reader_pen_matrices_rows c_X_text_characters c_X_reader_numbers c_X_reader_pen_points c_X_reader_pen_drawn c_X_spare_numbers c_X_spare_kinds v_Y_size v_Y_commands v_Y_value v_Y_turnX v_Y_turnY v_Y_written v_Y_edges v_Y_wide v_Y_high v_Y_behind v_Y_whole c_Y_kinds c_Y_fromX c_Y_fromY c_Y_toX c_Y_toY c_Y_numbers c_Y_points c_Y_signs c_Y_matrix c_Y_text c_Y_given c_Y_drawnNumbers c_Y_drawnKinds c_out
      else if ((sX (x4).toNatClampNeg) &&& (15 : Int32)) = (13 : Int32) then
        lw_b881 N sL sX k23 x4 v_X_text_length v_X_written_length v_X_drawing_count v_X_cover_width v_X_cover_height v_X_cover_top v_X_cover_x v_X_cover_y v_X_cover_startX v_X_cover_startY c_X_drawing_kinds c_X_drawing_numbers c_X_cover_squares c_X_cover_changes c_X_written_characters c_X_given v_X_reader_wrong v_X_reader_pen_startX v_X_reader_pen_startY v_X_reader_pen_controlX v_X_reader_pen_controlY c_X_reader_pen_matrices_rows c_X_text_characters c_X_reader_numbers c_X_reader_pen_points c_X_reader_pen_drawn c_X_spare_numbers c_X_spare_kinds v_Y_size v_Y_commands v_Y_value v_Y_turnX v_Y_turnY v_Y_written v_Y_edges v_Y_wide v_Y_high v_Y_behind v_Y_whole c_Y_kinds c_Y_fromX c_Y_fromY c_Y_toX c_Y_toY c_Y_numbers c_Y_points c_Y_signs c_Y_matrix c_Y_text c_Y_given c_Y_drawnNumbers c_Y_drawnKinds c_out
      else if ((sX (x4).toNatClampNeg) &&& (15 : Int32)) = (14 : Int32) then
        lw_b906 N sL sX k23 x4 v_X_cover_top v_X_cover_x v_X_cover_y v_X_cover_startX v_X_cover_startY c_X_drawing_kinds c_X_drawing_numbers c_X_cover_squares c_X_cover_changes c_X_written_characters c_X_given v_X_reader_wrong v_X_reader_pen_startX v_X_reader_pen_startY v_X_reader_pen_controlX v_X_reader_pen_controlY c_X_reader_pen_matrices_rows c_X_text_characters c_X_reader_numbers c_X_reader_pen_points c_X_reader_pen_drawn c_X_spare_numbers c_X_spare_kinds v_Y_value v_Y_turnX v_Y_turnY v_Y_edges v_Y_behind v_Y_whole c_Y_kinds c_Y_fromX c_Y_fromY c_Y_toX c_Y_toY c_Y_numbers c_Y_points c_Y_signs c_Y_matrix c_Y_text c_Y_given c_Y_drawnNumbers c_Y_drawnKinds c_out
      else 
        k23 (x4 + (7 : Int32)) v_X_text_length v_X_written_length v_X_drawing_count v_X_cover_width v_X_cover_height v_X_cover_top v_X_cover_x v_X_cover_y v_X_cover_startX v_X_cover_startY c_X_drawing_kinds c_X_drawing_numbers c_X_cover_squares c_X_cover_changes c_X_written_characters c_X_given v_X_reader_wrong v_X_reader_pen_startX v_X_reader_pen_startY v_X_reader_pen_controlX v_X_reader_pen_controlY c_X_reader_pen_matrices_rows c_X_text_characters c_X_reader_numbers c_X_reader_pen_points c_X_reader_pen_drawn c_X_spare_numbers c_X_spare_kinds v_Y_size v_Y_commands v_Y_value v_Y_turnX v_Y_turnY v_Y_written v_Y_edges v_Y_wide v_Y_high v_Y_behind v_Y_whole c_Y_kinds c_Y_fromX c_Y_fromY c_Y_toX c_Y_toY c_Y_numbers c_Y_points c_Y_signs c_Y_matrix c_Y_text c_Y_given c_Y_drawnNumbers c_Y_drawnKinds c_out)
def lw_L23 (N : Nat) (sL : Nat) (sX : Nat → Int32) : Nat → Int32 → Int32 → Int32 → Int32 → Int32 → Int32 → Int64 → Int64 → Int64 → Int64 → Int64 → (Nat → Int32) → (Nat → Int32) → (Nat → Int32) → (Nat → Int32) → (Nat → Int32) → (Nat → Int64) → Int32 → Int64 → Int64 → Int64 → Int64 → (Nat → Int64) → (Nat → Int32) → (Nat → Int64) → (Nat → Int64) → (Nat → Int64) → (Nat → Int32) → (Nat → Int32) → Int32 → Int32 → Int64 → Int64 → Int64 → Int32 → Int32 → Int32 → Int32 → Int32 → Int64 → (Nat → Int32) → (Nat → Int32) → (Nat → Int32) → (Nat → Int32) → (Nat → Int32) → (Nat → Int32) → (Nat → Int32) → (Nat → Int32) → (Nat → Int64) → (Nat → Int32) → (Nat → Int64) → (Nat → Int32) → (Nat → Int32) → (Nat → Int64) → Option (Int32)
  | 0 => fun _ _ _ _ _ _ _ _ _ _ _ _ _ _ _ _ _ _ _ _ _ _ _ _ _ _ _ _ _ _ _ _ _ _ _ _ _ _ _ _ _ _ _ _ _ _ _ _ _ _ _ _ _ _ => none
  | n + 1 => fun x4 v_X_text_length v_X_written_length v_X_drawing_count v_X_cover_width v_X_cover_height v_X_cover_top v_X_cover_x v_X_cover_y v_X_cover_startX v_X_cover_startY c_X_drawing_kinds c_X_drawing_numbers c_X_cover_squares c_X_cover_changes c_X_written_characters c_X_given v_X_reader_wrong v_X_reader_pen_startX v_X_reader_pen_startY v_X_reader_pen_controlX v_X_reader_pen_controlY c_X_reader_pen_matrices_rows c_X_text_characters c_X_reader_numbers c_X_reader_pen_points c_X_reader_pen_drawn c_X_spare_numbers c_X_spare_kinds v_Y_size v_Y_commands v_Y_value v_Y_turnX v_Y_turnY v_Y_written v_Y_edges v_Y_wide v_Y_high v_Y_behind v_Y_whole c_Y_kinds c_Y_fromX c_Y_fromY c_Y_toX c_Y_toY c_Y_numbers c_Y_points c_Y_signs c_Y_matrix c_Y_text c_Y_given c_Y_drawnNumbers c_Y_drawnKinds c_out => lw_B23 N sL sX (lw_L23 N sL sX n) x4 v_X_text_length v_X_written_length v_X_drawing_count v_X_cover_width v_X_cover_height v_X_cover_top v_X_cover_x v_X_cover_y v_X_cover_startX v_X_cover_startY c_X_drawing_kinds c_X_drawing_numbers c_X_cover_squares c_X_cover_changes c_X_written_characters c_X_given v_X_reader_wrong v_X_reader_pen_startX v_X_reader_pen_startY v_X_reader_pen_controlX v_X_reader_pen_controlY c_X_reader_pen_matrices_rows c_X_text_characters c_X_reader_numbers c_X_reader_pen_points c_X_reader_pen_drawn c_X_spare_numbers c_X_spare_kinds v_Y_size v_Y_commands v_Y_value v_Y_turnX v_Y_turnY v_Y_written v_Y_edges v_Y_wide v_Y_high v_Y_behind v_Y_whole c_Y_kinds c_Y_fromX c_Y_fromY c_Y_toX c_Y_toY c_Y_numbers c_Y_points c_Y_signs c_Y_matrix c_Y_text c_Y_given c_Y_drawnNumbers c_Y_drawnKinds c_out
def lw (N : Nat) (sL : Nat) (sX : Nat → Int32) (x4 : Int32) (v_X_text_length : Int32) (v_X_written_length : Int32) (v_X_drawing_count : Int32) (v_X_cover_width : Int32) (v_X_cover_height : Int32) (v_X_cover_top : Int64) (v_X_cover_x : Int64) (v_X_cover_y : Int64) (v_X_cover_startX : Int64) (v_X_cover_startY : Int64) (c_X_drawing_kinds : (Nat → Int32)) (c_X_drawing_numbers : (Nat → Int32)) (c_X_cover_squares : (Nat → Int32)) (c_X_cover_changes : (Nat → Int32)) (c_X_written_characters : (Nat → Int32)) (c_X_given : (Nat → Int64)) (v_X_reader_wrong : Int32) (v_X_reader_pen_startX : Int64) (v_X_reader_pen_startY : Int64) (v_X_reader_pen_controlX : Int64) (v_X_reader_pen_controlY : Int64) (c_X_reader_pen_matrices_rows : (Nat → Int64)) (c_X_text_characters : (Nat → Int32)) (c_X_reader_numbers : (Nat → Int64)) (c_X_reader_pen_points : (Nat → Int64)) (c_X_reader_pen_drawn : (Nat → Int64)) (c_X_spare_numbers : (Nat → Int32)) (c_X_spare_kinds : (Nat → Int32)) (v_Y_size : Int32) (v_Y_commands : Int32) (v_Y_value : Int64) (v_Y_turnX : Int64) (v_Y_turnY : Int64) (v_Y_written : Int32) (v_Y_edges : Int32) (v_Y_wide : Int32) (v_Y_high : Int32) (v_Y_behind : Int32) (v_Y_whole : Int64) (c_Y_kinds : (Nat → Int32)) (c_Y_fromX : (Nat → Int32)) (c_Y_fromY : (Nat → Int32)) (c_Y_toX : (Nat → Int32)) (c_Y_toY : (Nat → Int32)) (c_Y_numbers : (Nat → Int32)) (c_Y_points : (Nat → Int32)) (c_Y_signs : (Nat → Int32)) (c_Y_matrix : (Nat → Int64)) (c_Y_text : (Nat → Int32)) (c_Y_given : (Nat → Int64)) (c_Y_drawnNumbers : (Nat → Int32)) (c_Y_drawnKinds : (Nat → Int32)) (c_out : (Nat → Int64)) : Option (Int32) :=
  lw_L23 N sL sX N x4 v_X_text_length v_X_written_length v_X_drawing_count v_X_cover_width v_X_cover_height v_X_cover_top v_X_cover_x v_X_cover_y v_X_cover_startX v_X_cover_startY c_X_drawing_kinds c_X_drawing_numbers c_X_cover_squares c_X_cover_changes c_X_written_characters c_X_given v_X_reader_wrong v_X_reader_pen_startX v_X_reader_pen_startY v_X_reader_pen_controlX v_X_reader_pen_controlY c_X_reader_pen_matrices_rows c_X_text_characters c_X_reader_numbers c_X_reader_pen_points c_X_reader_pen_drawn c_X_spare_numbers c_X_spare_kinds v_Y_size v_Y_commands v_Y_value v_Y_turnX v_Y_turnY v_Y_written v_Y_edges v_Y_wide v_Y_high v_Y_behind v_Y_whole c_Y_kinds c_Y_fromX c_Y_fromY c_Y_toX c_Y_toY c_Y_numbers c_Y_points c_Y_signs c_Y_matrix c_Y_text c_Y_given c_Y_drawnNumbers c_Y_drawnKinds c_out
