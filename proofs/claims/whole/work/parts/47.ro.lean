theorem kw_s1 : Cond.selects "PathTexts" ⟨"PathTexts", "addGiven", "(I)I"⟩ ⟨"PathTexts", "addGiven", "(I)I"⟩ ∈ kw := List.mem_filter.mpr ⟨List.mem_append_left _ (List.mem_of_getElem? (i := 1) rfl), rfl⟩
theorem kw_12 : (Jvm.Cond.initialized "java/lang/IllegalArgumentException") ∈ kw := kt_1 (List.mem_of_getElem? (i := 12) rfl) rfl
theorem kw_13 : (Jvm.Cond.initialized "java/lang/UnsupportedOperationException") ∈ kw := kt_1 (List.mem_of_getElem? (i := 13) rfl) rfl
theorem kw_16 : (Jvm.Cond.initialized "java/lang/IllegalStateException") ∈ kw := kt_1 (List.mem_of_getElem? (i := 16) rfl) rfl
theorem kw_17 : (Jvm.Cond.initialized "java/lang/IndexOutOfBoundsException") ∈ kw := kt_1 (List.mem_of_getElem? (i := 17) rfl) rfl
theorem kw_129 : (Jvm.Cond.fieldLink "PathTexts" (134 : Nat) "PathTexts$Cover" "squares" "[I") ∈ kw := kt_1 (List.mem_of_getElem? (i := 129) rfl) rfl
theorem kw_169 : (Jvm.Cond.fieldLink "PathTexts" (94 : Nat) "PathTexts$Drawing" "kinds" "[I") ∈ kw := kt_1 (List.mem_of_getElem? (i := 169) rfl) rfl
theorem kw_173 : (Jvm.Cond.fieldLink "PathTexts" (103 : Nat) "PathTexts$Drawing" "numbers" "[I") ∈ kw := kt_1 (List.mem_of_getElem? (i := 173) rfl) rfl
theorem kw_190 : (Jvm.Cond.fieldLink "PathTexts" (37 : Nat) "PathTexts" "given" "[J") ∈ kw := kt_1 (List.mem_of_getElem? (i := 190) rfl) rfl
theorem kw_419 : (Jvm.Cond.methodLink "PathTexts" (51 : Nat) ({ cls := "PathTexts", name := "byteOf", desc := "(JI)I" } : Jvm.MethodName)) ∈ kw := kt_2 (List.mem_of_getElem? (i := 179) rfl) rfl
theorem kw_420 : (Jvm.Cond.static ({ cls := "PathTexts", name := "byteOf", desc := "(JI)I" } : Jvm.MethodName)) ∈ kw := kt_2 (List.mem_of_getElem? (i := 180) rfl) rfl
theorem kw_421 : (Jvm.Cond.code ({ cls := "PathTexts", name := "byteOf", desc := "(JI)I" } : Jvm.MethodName) prog_1_method_18_code (3 : Nat) (Option.some Jvm.ClassFile.FieldType.int)) ∈ kw := kt_2 (List.mem_of_getElem? (i := 181) rfl) rfl
theorem kw_422 : (Jvm.Cond.classLink "PathTexts" (55 : Nat) "java/lang/IllegalArgumentException") ∈ kw := kt_2 (List.mem_of_getElem? (i := 182) rfl) rfl
theorem kw_465 : (Jvm.Cond.methodLink "PathTexts" (59 : Nat) ({ cls := "java/lang/IllegalArgumentException", name := "<init>", desc := "(Ljava/lang/String;)V" } : Jvm.MethodName)) ∈ kw := kt_2 (List.mem_of_getElem? (i := 225) rfl) rfl
theorem kw_491 : (Jvm.Cond.classLink "PathTexts" (66 : Nat) "java/lang/UnsupportedOperationException") ∈ kw := kt_3 (List.mem_of_getElem? (i := 11) rfl) rfl
theorem kw_501 : (Jvm.Cond.methodLink "PathTexts" (70 : Nat) ({ cls := "java/lang/UnsupportedOperationException", name := "<init>", desc := "(Ljava/lang/String;)V" } : Jvm.MethodName)) ∈ kw := kt_3 (List.mem_of_getElem? (i := 21) rfl) rfl
theorem kw_507 : (Jvm.Cond.methodLink "PathTexts" (71 : Nat) ({ cls := "PathTexts$Row", name := "put", desc := "(I)V" } : Jvm.MethodName)) ∈ kw := kt_3 (List.mem_of_getElem? (i := 27) rfl) rfl
theorem kw_515 : (Jvm.Cond.methodLink "PathTexts" (81 : Nat) ({ cls := "PathTexts", name := "addGiven", desc := "(I)I" } : Jvm.MethodName)) ∈ kw := kt_3 (List.mem_of_getElem? (i := 35) rfl) rfl
theorem kw_517 : (Jvm.Cond.instanceMethod ({ cls := "PathTexts", name := "addGiven", desc := "(I)I" } : Jvm.MethodName)) ∈ kw := kt_3 (List.mem_of_getElem? (i := 37) rfl) rfl
theorem kw_518 : (Jvm.Cond.code ({ cls := "PathTexts", name := "addGiven", desc := "(I)I" } : Jvm.MethodName) prog_1_method_17_code (2 : Nat) (Option.some Jvm.ClassFile.FieldType.int)) ∈ kw := kt_3 (List.mem_of_getElem? (i := 38) rfl) rfl
theorem kw_519 : (Jvm.Cond.methodLink "PathTexts" (98 : Nat) ({ cls := "PathTexts", name := "numbersOf", desc := "(I)I" } : Jvm.MethodName)) ∈ kw := kt_3 (List.mem_of_getElem? (i := 39) rfl) rfl
theorem kw_520 : (Jvm.Cond.methodLink "PathTexts" (145 : Nat) ({ cls := "PathTexts", name := "areNumbers", desc := "([JI)Z" } : Jvm.MethodName)) ∈ kw := kt_3 (List.mem_of_getElem? (i := 40) rfl) rfl
theorem kw_522 : (Jvm.Cond.classLink "PathTexts" (151 : Nat) "java/lang/IllegalStateException") ∈ kw := kt_3 (List.mem_of_getElem? (i := 42) rfl) rfl
theorem kw_532 : (Jvm.Cond.methodLink "PathTexts" (155 : Nat) ({ cls := "java/lang/IllegalStateException", name := "<init>", desc := "(Ljava/lang/String;)V" } : Jvm.MethodName)) ∈ kw := kt_3 (List.mem_of_getElem? (i := 52) rfl) rfl
theorem kw_538 : (Jvm.Cond.methodLink "PathTexts" (156 : Nat) ({ cls := "PathTexts$Drawing", name := "add", desc := "(I[J)Z" } : Jvm.MethodName)) ∈ kw := kt_3 (List.mem_of_getElem? (i := 58) rfl) rfl
theorem kw_570 : (Jvm.Cond.methodLink "PathTexts" (85 : Nat) ({ cls := "PathTexts$Drawing", name := "has", desc := "(I)Z" } : Jvm.MethodName)) ∈ kw := kt_3 (List.mem_of_getElem? (i := 90) rfl) rfl
theorem kw_571 : (Jvm.Cond.instanceMethod ({ cls := "PathTexts$Drawing", name := "has", desc := "(I)Z" } : Jvm.MethodName)) ∈ kw := kt_3 (List.mem_of_getElem? (i := 91) rfl) rfl
theorem kw_572 : (Jvm.Cond.selects "PathTexts$Drawing" ({ cls := "PathTexts$Drawing", name := "has", desc := "(I)Z" } : Jvm.MethodName) ({ cls := "PathTexts$Drawing", name := "has", desc := "(I)Z" } : Jvm.MethodName)) ∈ kw := kt_3 (List.mem_of_getElem? (i := 92) rfl) rfl
theorem kw_573 : (Jvm.Cond.code ({ cls := "PathTexts$Drawing", name := "has", desc := "(I)Z" } : Jvm.MethodName) prog_3_method_2_code (2 : Nat) (Option.some Jvm.ClassFile.FieldType.boolean)) ∈ kw := kt_3 (List.mem_of_getElem? (i := 93) rfl) rfl
theorem kw_574 : (Jvm.Cond.classLink "PathTexts" (89 : Nat) "java/lang/IndexOutOfBoundsException") ∈ kw := kt_3 (List.mem_of_getElem? (i := 94) rfl) rfl
theorem kw_584 : (Jvm.Cond.methodLink "PathTexts" (93 : Nat) ({ cls := "java/lang/IndexOutOfBoundsException", name := "<init>", desc := "(Ljava/lang/String;)V" } : Jvm.MethodName)) ∈ kw := kt_3 (List.mem_of_getElem? (i := 104) rfl) rfl
theorem kw_606 : (Jvm.Cond.methodLink "PathTexts" (114 : Nat) ({ cls := "PathTexts$Row", name := "at", desc := "(I)C" } : Jvm.MethodName)) ∈ kw := kt_3 (List.mem_of_getElem? (i := 126) rfl) rfl
theorem kw_616 : (Jvm.Cond.methodLink "PathTexts" (122 : Nat) ({ cls := "PathTexts$Cover", name := "coverSquares", desc := "(LPathTexts$Drawing;III)I" } : Jvm.MethodName)) ∈ kw := kt_3 (List.mem_of_getElem? (i := 136) rfl) rfl
theorem kw_617 : (Jvm.Cond.instanceMethod ({ cls := "PathTexts$Cover", name := "coverSquares", desc := "(LPathTexts$Drawing;III)I" } : Jvm.MethodName)) ∈ kw := kt_3 (List.mem_of_getElem? (i := 137) rfl) rfl
theorem kw_618 : (Jvm.Cond.selects "PathTexts$Cover" ({ cls := "PathTexts$Cover", name := "coverSquares", desc := "(LPathTexts$Drawing;III)I" } : Jvm.MethodName) ({ cls := "PathTexts$Cover", name := "coverSquares", desc := "(LPathTexts$Drawing;III)I" } : Jvm.MethodName)) ∈ kw := kt_3 (List.mem_of_getElem? (i := 138) rfl) rfl
theorem kw_619 : (Jvm.Cond.code ({ cls := "PathTexts$Cover", name := "coverSquares", desc := "(LPathTexts$Drawing;III)I" } : Jvm.MethodName) prog_2_method_2_code (7 : Nat) (Option.some Jvm.ClassFile.FieldType.int)) ∈ kw := kt_3 (List.mem_of_getElem? (i := 139) rfl) rfl
abbrev y_xP_addGiven : MethodName := ⟨"PathTexts", "addGiven", "(I)I"⟩
abbrev w_xP_addGiven : List Cond := .code y_xP_addGiven prog_1_method_17_code 2 (some .int) :: kw
abbrev y_xP_text : MethodName := ⟨"PathTexts", "text", "(J)I"⟩
abbrev w_xP_text : List Cond := .code y_xP_text prog_1_method_2_code 6 (some .int) :: kw
abbrev y_xP_command : MethodName := ⟨"PathTexts", "command", "(I)I"⟩
abbrev w_xP_command : List Cond := .code y_xP_command prog_1_method_8_code 2 (some .int) :: kw
abbrev y_xP_number : MethodName := ⟨"PathTexts", "number", "(II)I"⟩
abbrev w_xP_number : List Cond := .code y_xP_number prog_1_method_9_code 3 (some .int) :: kw
abbrev y_xP_charAt : MethodName := ⟨"PathTexts", "charAt", "(I)I"⟩
abbrev w_xP_charAt : List Cond := .code y_xP_charAt prog_1_method_11_code 2 (some .int) :: kw
abbrev y_xP_render : MethodName := ⟨"PathTexts", "render", "(III)I"⟩
abbrev w_xP_render : List Cond := .code y_xP_render prog_1_method_12_code 4 (some .int) :: kw
abbrev y_xP_covered : MethodName := ⟨"PathTexts", "covered", "(II)I"⟩
abbrev w_xP_covered : List Cond := .code y_xP_covered prog_1_method_13_code 3 (some .int) :: kw
abbrev y_xP_move : MethodName := ⟨"PathTexts", "move", "(II)I"⟩
abbrev w_xP_move : List Cond := .code y_xP_move prog_1_method_4_code 3 (some .int) :: kw
abbrev y_xP_line : MethodName := ⟨"PathTexts", "line", "(II)I"⟩
abbrev w_xP_line : List Cond := .code y_xP_line prog_1_method_5_code 3 (some .int) :: kw
abbrev y_xP_cubic : MethodName := ⟨"PathTexts", "cubic", "(IIIIII)I"⟩
abbrev w_xP_cubic : List Cond := .code y_xP_cubic prog_1_method_6_code 7 (some .int) :: kw
abbrev y_xP_close : MethodName := ⟨"PathTexts", "close", "()I"⟩
abbrev w_xP_close : List Cond := .code y_xP_close prog_1_method_7_code 1 (some .int) :: kw
/-! Read-only calls. -/
theorem ks_any {o t : String} {k : Nat} {args : Array Value} {U : State} (h : (Cond.stringRef o k t).before #[] U = true) : (Cond.stringRef o k t).before args U = true := by
  first | exact h | simpa [Cond.before, Cond.holds, Cond.value] using h
section KR
variable {s : State} {H : Heap}
theorem kr_pre {D : va_G} {cl : List vw_C} {ws : va_W} {tys : List (ClassId × FieldType)} {As : List Value} (hP : va_P D cl ws H) (hK : va_K D cl tys s) : PreS s H (va_Pc As (fun U => va_P D cl ws U.heap ∧ va_K D cl tys U)) As :=
  ⟨fun a U g mk q => by obtain ⟨q0, qP, qK⟩ := q; exact ⟨q0, qP, va_K.moved (u := U) (U := U.calling g mk a) (Vm.Alike.refl U.vm) qK⟩, fun U hU hW => ⟨rfl, by rw [hU]; exact hP, va_K.moved hW.alike hK⟩⟩
theorem kr_preV {D : va_G} {cl : List vw_C} {ws : va_W} {tys : List (ClassId × FieldType)} {As : List Value} {b ci : Nat} {q : vw_C} {fs : List Value} (hP : va_P D cl ws H) (hK : va_K D cl tys s) (q0 : Nat) (hc : cl[ci]? = some q) (he : ws[q0]? = some (b, .inr (ci, fs))) : PreV s H q.1 b (va_Pc (.ref b :: As) (fun U => va_P D cl ws U.heap ∧ va_K D cl tys U)) As :=
  ⟨(kr_pre hP hK).1, va_recv hK hP hc he, (kr_pre hP hK).2⟩
theorem kre_pre {D : va_G} {cl : List vw_C} {ws : va_W} {tys : List (ClassId × FieldType)} {As : List Value} {tt : Nat} {A : Nat → Prop} (hP : va_P D cl ws s.heap) (hK : va_K D cl tys s) (hE : ke tt A s) : PreS s s.heap (va_Pc As (fun U => va_P D cl ws U.heap ∧ va_K D cl tys U ∧ ke tt (fun _ => False) U)) As :=
  ⟨fun a U g mk q => by obtain ⟨q0, qP, qK, qE⟩ := q; exact ⟨q0, qP, va_K.moved (u := U) (U := U.calling g mk a) (Vm.Alike.refl U.vm) qK, ke_blind qE⟩, fun U hU hW => ⟨rfl, by rw [hU]; exact hP, va_K.moved hW.alike hK, ke_step hE va_S.rf hU hW (fun q h => h.elim)⟩⟩
theorem kre_preV {D : va_G} {cl : List vw_C} {ws : va_W} {tys : List (ClassId × FieldType)} {As : List Value} {tt : Nat} {A : Nat → Prop} {b ci : Nat} {q : vw_C} {fs : List Value} (hP : va_P D cl ws s.heap) (hK : va_K D cl tys s) (hE : ke tt A s) (q0 : Nat) (hc : cl[ci]? = some q) (he : ws[q0]? = some (b, .inr (ci, fs))) : PreV s s.heap q.1 b (va_Pc (.ref b :: As) (fun U => va_P D cl ws U.heap ∧ va_K D cl tys U ∧ ke tt (fun _ => False) U)) As :=
  ⟨(kre_pre hP hK hE).1, va_recv hK hP hc he, (kre_pre hP hK hE).2⟩
theorem krf_pre {D : va_G} {cl : List vw_C} {ws : va_W} {tys : List (ClassId × FieldType)} {As : List Value} {tt : Nat} {A : Nat → Prop} {locs : List Loc} (hP : va_P D cl ws H) (hK : va_K D cl tys s) (hE : kf tt A s) (hS : va_S A s.heap H locs) : PreS s H (va_Pc As (fun U => va_P D cl ws U.heap ∧ va_K D cl tys U ∧ kf tt (fun _ => False) U)) As :=
  ⟨fun a U g mk q => by obtain ⟨q0, qP, qK, qE⟩ := q; exact ⟨q0, qP, va_K.moved (u := U) (U := U.calling g mk a) (Vm.Alike.refl U.vm) qK, kf_blind qE⟩, fun U hU hW => ⟨rfl, by rw [hU]; exact hP, va_K.moved hW.alike hK, kf_step hE hS hU hW (fun q h => h.elim)⟩⟩
theorem krf_preV {D : va_G} {cl : List vw_C} {ws : va_W} {tys : List (ClassId × FieldType)} {As : List Value} {tt : Nat} {A : Nat → Prop} {locs : List Loc} {b ci : Nat} {q : vw_C} {fs : List Value} (hP : va_P D cl ws H) (hK : va_K D cl tys s) (hE : kf tt A s) (hS : va_S A s.heap H locs) (q0 : Nat) (hc : cl[ci]? = some q) (he : ws[q0]? = some (b, .inr (ci, fs))) : PreV s H q.1 b (va_Pc (.ref b :: As) (fun U => va_P D cl ws U.heap ∧ va_K D cl tys U ∧ kf tt (fun _ => False) U)) As :=
  ⟨(krf_pre hP hK hE hS).1, va_recv hK hP hc he, (krf_pre hP hK hE hS).2⟩
end KR
theorem no_xDrawing_add_41 (N : Nat) : ∀ (n : Nat) (x1 x3 x4 v : Int32) (c1 c2 : Nat → Int32) (c3 : Nat → Int64) {a : Int32} {b c : Nat → Int32}, ¬ xDrawing_add_L41 N n x1 x3 x4 v c1 c2 c3 = some (0, a, b, c) := by
  intro n
  induction n with
  | zero => intro x1 x3 x4 v c1 c2 c3 a b c h; have h : none = some ((0 : Int32), a, b, c) := h; cases h
  | succ n ih =>
    intro x1 x3 x4 v c1 c2 c3 a b c h
    have h : xDrawing_add_B41 N (xDrawing_add_L41 N n) x1 x3 x4 v c1 c2 c3 = some (0, a, b, c) := h
    rw [xDrawing_add_B41] at h
    split at h
    · obtain ⟨-, h⟩ := kg_some h
      exact absurd (kr4 h).1 (by decide)
    · obtain ⟨-, h⟩ := kg_some h
      obtain ⟨-, h⟩ := kg_some h
      exact ih _ _ _ _ _ _ _ h
theorem zz_xDrawing_add {N : Nat} {x1 v : Int32} {c1 c2 : Nat → Int32} {c3 : Nat → Int64} {a : Int32} {b c : Nat → Int32} (h : xDrawing_add N x1 v c1 c2 c3 = some (0, a, b, c)) : a = v ∧ b = c1 ∧ c = c2 := by
  have key : ∀ z : Option (Int32 × Int32 × (Nat → Int32) × (Nat → Int32)), z = some (0, v, c1, c2) → z = some (0, a, b, c) → a = v ∧ b = c1 ∧ c = c2 := by
    intro z h1 h2
    obtain ⟨-, e1, e2, e3⟩ := kr4 (h2.symm.trans h1)
    exact ⟨e1, e2, e3⟩
  rw [xDrawing_add] at h
  obtain ⟨r1, -, h⟩ := kb1_some h
  repeat' split at h
  all_goals first
    | exact key _ rfl h
    | (obtain ⟨r2, -, h⟩ := kb1_some h
       split at h
       · exact key _ rfl h
       · exact absurd h (no_xDrawing_add_41 _ _ _ _ _ _ _ _ _))
set_option maxHeartbeats 4000000 in
set_option maxRecDepth 100000 in
theorem cr_xP_numbersOf (l : Launch) (dC : Nat → ClassId) (dI : Nat → Nat → Nat) (x0 : Int32) (rv : Int32) (hf : xP_numbersOf x0 = some rv) : Met l y_xP_numbersOf w_xP_numbersOf ({ frames := 0, cells := 0, slots := 0, locals := 0 }) (va_Pc [.int x0] (fun U => va_P (dC, dI) clz [] U.heap ∧ va_K (dC, dI) clz [] U)) (QcRead rv) 0 0 (fun _ => False) := by
  refine Met.ofW (cc := prog_1_method_19_code) (maxL := 1) (ret := (some .int)) (by decide +kernel) rfl ?_
  intro p e s m args below meth c s₁ B hml hv
  obtain ⟨hargs, hP, hK⟩ := hv
  have hx := B.exec
  have hb := B.bytes
  have hr := B.returns
  have hts := atoms_spec (ws := w_xP_numbersOf) B.pre
  have hown : s.vm.findClass "PathTexts" = some m.cls := findClass_of_methodNamed B.named
  have hlocks := B.notSynchronized
  have hS : va_S (fun _ => False) s.heap s.heap [] := va_S.rf
  have hl := lv_entry ([.int x0]) (n := 1) (Nat.le_of_ble_eq_true rfl)
  have hent : entryFrame m args 1 = F0 m 0 (lg_sl ([.int x0]) ++ List.replicate (1 - (lg_sl ([.int x0])).length) Slot.unset).toArray [] := by rw [hargs, lg_entry_eq]
  rw [hent]
  clear hent hargs
  generalize (lg_sl ([.int x0]) ++ List.replicate (1 - (lg_sl ([.int x0])).length) Slot.unset).toArray = ls at hl ⊢
  have hl : lv_has ls 1 [(0, .int x0)] := hl
  suffices key : ∀ Q : State → Prop, (∀ (pc : Nat) (ls : Array Slot), decode prog_1_method_19_code pc = .ok (.ireturn, 1) → W p l e (headSpec w_xP_numbersOf ({ frames := 0, cells := 0, slots := 0, locals := 0 })).room s m args below meth c s.heap [] 0 0 Q (F0 m pc ls [.int rv])) → W p l e (headSpec w_xP_numbersOf ({ frames := 0, cells := 0, slots := 0, locals := 0 })).room s m args below meth c s.heap [] 0 0 Q (F0 m 0 ls []) from key _ (fun pc ls hd => W.iret hx hb hr (fun t ht hW => ⟨rfl, ht⟩) (fun q h => nomatch h) hd)
  intro Q hRet
  rw [xP_numbersOf] at hf
  refine lv_iload_n (pc := 0) hx hb d_xP_numbersOf_0 rfl (lv_at hl 0 rfl) ?_
  by_cases hc0 : x0 = (0 : Int32)
  · rw [if_pos hc0] at hf
    refine lv_tableIn (pc := 1) (tgt := 28) hx hb d_xP_numbersOf_1 (by rw [hc0]; decide) (by rw [hc0]; decide) (by rw [hc0]; rfl) (by decide) ?_
    refine lv_iconst (pc := 28) (v := (2 : Int32)) hx hb d_xP_numbersOf_28 (by decide) ?_
    have e_0 := kr1 hf
    rw [e_0]
    exact hRet 29 _ d_xP_numbersOf_29
  rw [if_neg hc0] at hf
  by_cases hc1 : x0 = (1 : Int32)
  · rw [if_pos hc1] at hf
    refine lv_tableIn (pc := 1) (tgt := 28) hx hb d_xP_numbersOf_1 (by rw [hc1]; decide) (by rw [hc1]; decide) (by rw [hc1]; rfl) (by decide) ?_
    refine lv_iconst (pc := 28) (v := (2 : Int32)) hx hb d_xP_numbersOf_28 (by decide) ?_
    have e_0 := kr1 hf
    rw [e_0]
    exact hRet 29 _ d_xP_numbersOf_29
  rw [if_neg hc1] at hf
  by_cases hc2 : x0 = (2 : Int32)
  · rw [if_pos hc2] at hf
    refine lv_tableIn (pc := 1) (tgt := 30) hx hb d_xP_numbersOf_1 (by rw [hc2]; decide) (by rw [hc2]; decide) (by rw [hc2]; rfl) (by decide) ?_
    refine lv_bipush (pc := 30) (v := (6 : Int32)) hx hb d_xP_numbersOf_30 (by decide) ?_
    have e_0 := kr1 hf
    rw [e_0]
    exact hRet 32 _ d_xP_numbersOf_32
  rw [if_neg hc2] at hf
  have hn0 := lv_neT hc0 (a := 0) (by decide)
  have hn1 := lv_neT hc1 (a := 1) (by decide)
  have hn2 := lv_neT hc2 (a := 2) (by decide)
  by_cases hr9 : x0.toInt < 0 ∨ 2 < x0.toInt
  · refine lv_tableOut (pc := 1) (tgt := 33) hx hb d_xP_numbersOf_1 hr9 (by decide) ?_
    refine lv_iconst (pc := 33) (v := (0 : Int32)) hx hb d_xP_numbersOf_33 (by decide) ?_
    have e_0 := kr1 hf
    rw [e_0]
    exact hRet 34 _ d_xP_numbersOf_34
  · exfalso; omega
set_option maxHeartbeats 4000000 in
set_option maxRecDepth 100000 in
theorem cr_xP_isNumber (l : Launch) (dC : Nat → ClassId) (dI : Nat → Nat → Nat) (x0 : Int64) (rv : Int32) (hf : xP_isNumber x0 = some rv) : Met l y_xP_isNumber w_xP_isNumber ({ frames := 0, cells := 0, slots := 0, locals := 0 }) (va_Pc [.long x0] (fun U => va_P (dC, dI) clz [] U.heap ∧ va_K (dC, dI) clz [] U)) (QcRead rv) 0 0 (fun _ => False) := by
  refine Met.ofW (cc := prog_1_method_20_code) (maxL := 2) (ret := (some .boolean)) (by decide +kernel) rfl ?_
  intro p e s m args below meth c s₁ B hml hv
  obtain ⟨hargs, hP, hK⟩ := hv
  have hx := B.exec
  have hb := B.bytes
  have hr := B.returns
  have hts := atoms_spec (ws := w_xP_isNumber) B.pre
  have hown : s.vm.findClass "PathTexts" = some m.cls := findClass_of_methodNamed B.named
  have hlocks := B.notSynchronized
  have hS : va_S (fun _ => False) s.heap s.heap [] := va_S.rf
  have hl := lv_entry ([.long x0]) (n := 2) (Nat.le_of_ble_eq_true rfl)
  have hent : entryFrame m args 2 = F0 m 0 (lg_sl ([.long x0]) ++ List.replicate (2 - (lg_sl ([.long x0])).length) Slot.unset).toArray [] := by rw [hargs, lg_entry_eq]
  rw [hent]
  clear hent hargs
  generalize (lg_sl ([.long x0]) ++ List.replicate (2 - (lg_sl ([.long x0])).length) Slot.unset).toArray = ls at hl ⊢
  have hl : lv_has ls 2 [(0, .long x0)] := hl
  suffices key : ∀ Q : State → Prop, (∀ (hn9 : narrow .boolean (.int rv) = .int rv) (pc : Nat) (ls : Array Slot), decode prog_1_method_20_code pc = .ok (.ireturn, 1) → W p l e (headSpec w_xP_isNumber ({ frames := 0, cells := 0, slots := 0, locals := 0 })).room s m args below meth c s.heap [] 0 0 Q (F0 m pc ls [.int rv])) → W p l e (headSpec w_xP_isNumber ({ frames := 0, cells := 0, slots := 0, locals := 0 })).room s m args below meth c s.heap [] 0 0 Q (F0 m 0 ls []) from key _ (fun hn9 pc ls hd => W.zret hx hb hr hn9 (fun t ht hW => ⟨rfl, ht⟩) (fun q h => nomatch h) hd)
  intro Q hRet
  rw [xP_isNumber] at hf
  refine lv_lload_n (pc := 0) hx hb d_xP_isNumber_0 rfl (lv_at hl 0 rfl) ?_
  refine lv_ldc2 (pc := 1) hx hb hown (hts _ (List.mem_cons_of_mem _ kw_273)) d_xP_isNumber_1 ?_
  refine kx_lclt (pc := 4) (tgt := 20) hx hb d_xP_isNumber_4 d_xP_isNumber_5 (by decide) (fun hc => ?_) (fun hc => ?_)
  · rw [if_pos hc] at hf
    refine lv_iconst (pc := 20) (v := (0 : Int32)) hx hb d_xP_isNumber_20 (by decide) ?_
    have e_0 := kr1 hf
    rw [e_0]
    exact hRet (by rw [← e_0]; exact (by decide)) 21 _ d_xP_isNumber_21
  · rw [if_neg hc] at hf
    refine lv_lload_n (pc := 8) hx hb d_xP_isNumber_8 rfl (lv_at hl 0 rfl) ?_
    refine lv_ldc2 (pc := 9) hx hb hown (hts _ (List.mem_cons_of_mem _ kw_274)) d_xP_isNumber_9 ?_
    refine kx_lcgt (pc := 12) (tgt := 20) hx hb d_xP_isNumber_12 d_xP_isNumber_13 (by decide) (fun hc => ?_) (fun hc => ?_)
    · rw [if_pos hc] at hf
      refine lv_iconst (pc := 20) (v := (0 : Int32)) hx hb d_xP_isNumber_20 (by decide) ?_
      have e_0 := kr1 hf
      rw [e_0]
      exact hRet (by rw [← e_0]; exact (by decide)) 21 _ d_xP_isNumber_21
    · rw [if_neg hc] at hf
      refine lv_iconst (pc := 16) (v := (1 : Int32)) hx hb d_xP_isNumber_16 (by decide) ?_
      refine lv_goto (pc := 17) (tgt := 21) hx hb d_xP_isNumber_17 (by decide) ?_
      have e_0 := kr1 hf
      rw [e_0]
      exact hRet (by rw [← e_0]; exact (by decide)) 21 _ d_xP_isNumber_21
set_option maxHeartbeats 4000000 in
set_option maxRecDepth 100000 in
theorem cr_xP_areNumbers (l : Launch) (dC : Nat → ClassId) (dI : Nat → Nat → Nat) (q_p1 : Nat) (k_p1 : ClassId) (N : Nat) (x1 : Int32) (c_p1 : (Nat → Int64)) (rv : Int32) (hf : xP_areNumbers N x1 c_p1 = some rv) : Met l y_xP_areNumbers w_xP_areNumbers ({ frames := 1, cells := 0, slots := 0, locals := 21 }) (va_Pc [.ref q_p1, .int x1] (fun U => va_P (dC, dI) clz [(q_p1, .inl (k_p1, 6, .inr (.inl c_p1)))] U.heap ∧ va_K (dC, dI) clz [(k_p1, .long)] U)) (QcRead rv) 0 0 (fun _ => False) := by
  refine Met.ofW (cc := prog_1_method_21_code) (maxL := 3) (ret := (some .boolean)) (by decide +kernel) rfl ?_
  intro p e s m args below meth c s₁ B hml hv
  obtain ⟨hargs, hP, hK⟩ := hv
  have hx := B.exec
  have hb := B.bytes
  have hr := B.returns
  have hts := atoms_spec (ws := w_xP_areNumbers) B.pre
  have hown : s.vm.findClass "PathTexts" = some m.cls := findClass_of_methodNamed B.named
  have hlocks := B.notSynchronized
  have hS : va_S (fun _ => False) s.heap s.heap [] := va_S.rf
  have hl := lv_entry ([.ref q_p1, .int x1]) (n := 3) (Nat.le_of_ble_eq_true rfl)
  have hent : entryFrame m args 3 = F0 m 0 (lg_sl ([.ref q_p1, .int x1]) ++ List.replicate (3 - (lg_sl ([.ref q_p1, .int x1])).length) Slot.unset).toArray [] := by rw [hargs, lg_entry_eq]
  rw [hent]
  clear hent hargs
  generalize (lg_sl ([.ref q_p1, .int x1]) ++ List.replicate (3 - (lg_sl ([.ref q_p1, .int x1])).length) Slot.unset).toArray = ls at hl ⊢
  have hl : lv_has ls 3 [(0, .ref q_p1), (1, .int x1)] := hl
  suffices key : ∀ Q : State → Prop, (∀ (hn9 : narrow .boolean (.int rv) = .int rv) (pc : Nat) (ls : Array Slot), decode prog_1_method_21_code pc = .ok (.ireturn, 1) → W p l e (headSpec w_xP_areNumbers ({ frames := 1, cells := 0, slots := 0, locals := 21 })).room s m args below meth c s.heap [] 0 0 Q (F0 m pc ls [.int rv])) → W p l e (headSpec w_xP_areNumbers ({ frames := 1, cells := 0, slots := 0, locals := 21 })).room s m args below meth c s.heap [] 0 0 Q (F0 m 0 ls []) from key _ (fun hn9 pc ls hd => W.zret hx hb hr hn9 (fun t ht hW => ⟨rfl, ht⟩) (fun q h => nomatch h) hd)
  intro Q hRet
  have hB2 : ∀ (k2 : Int32 → Int32 → (Nat → Int64) → Option (Int32)), (∀ (x1 : Int32) (x2 : Int32) (ls : Array Slot), k2 x1 x2 c_p1 = some rv → lv_has ls 3 [(0, .ref q_p1), (1, .int x1), (2, .int x2)] → W p l e (headSpec w_xP_areNumbers ({ frames := 1, cells := 0, slots := 0, locals := 21 })).room s m args below meth c s.heap [] 0 0 Q (F0 m 2 ls [])) → ∀ (x1 : Int32) (x2 : Int32) (ls : Array Slot), xP_areNumbers_B2 N k2 x1 x2 c_p1 = some rv → lv_has ls 3 [(0, .ref q_p1), (1, .int x1), (2, .int x2)] → W p l e (headSpec w_xP_areNumbers ({ frames := 1, cells := 0, slots := 0, locals := 21 })).room s m args below meth c s.heap [] 0 0 Q (F0 m 2 ls []) := by
    intro k2 hk2
    intro x1 x2 ls hf hl
    rw [xP_areNumbers_B2] at hf
    refine lv_iload_n (pc := 2) hx hb d_xP_areNumbers_2 rfl (lv_at hl 2 rfl) ?_
    refine lv_iload_n (pc := 3) hx hb d_xP_areNumbers_3 rfl (lv_at hl 1 rfl) ?_
    refine lv_icmp_ge (pc := 4) (tgt := 30) hx hb d_xP_areNumbers_4 (by decide) (fun hc => ?_) (fun hc => ?_)
    · rw [if_pos hc] at hf
      refine lv_iconst (pc := 30) (v := (1 : Int32)) hx hb d_xP_areNumbers_30 (by decide) ?_
      have e_0 := kr1 hf
      rw [e_0]
      exact hRet (by rw [← e_0]; exact (by decide)) 31 _ d_xP_areNumbers_31
    · rw [if_neg hc] at hf
      refine lv_iload_n (pc := 7) hx hb d_xP_areNumbers_7 rfl (lv_at hl 2 rfl) ?_
      refine lv_aload_n (pc := 8) hx hb d_xP_areNumbers_8 rfl (lv_at hl 0 rfl) ?_
      refine va_alen (pc := 9) hx hb hK hP 0 0 rfl rfl (v := (6 : Int32)) rfl d_xP_areNumbers_9 ?_
      refine lv_icmp_ge (pc := 10) (tgt := 30) hx hb d_xP_areNumbers_10 (by decide) (fun hc => ?_) (fun hc => ?_)
      · rw [if_pos hc] at hf
        refine lv_iconst (pc := 30) (v := (1 : Int32)) hx hb d_xP_areNumbers_30 (by decide) ?_
        have e_0 := kr1 hf
        rw [e_0]
        exact hRet (by rw [← e_0]; exact (by decide)) 31 _ d_xP_areNumbers_31
      · rw [if_neg hc] at hf
        refine lv_aload_n (pc := 13) hx hb d_xP_areNumbers_13 rfl (lv_at hl 0 rfl) ?_
        refine lv_iload_n (pc := 14) hx hb d_xP_areNumbers_14 rfl (lv_at hl 2 rfl) ?_
        obtain ⟨hg1, hf⟩ := kg_some hf
        refine va_lald (pc := 15) hx hb hK hP 0 0 rfl rfl (ki_in hg1) d_xP_areNumbers_15 ?_
        obtain ⟨r16, hz, hf⟩ := kb1_some hf
        have hPc := hP.sub (ws' := []) [] rfl
        have hKc := hK.sub (tys' := []) [] rfl
        refine W.callR (g := F0 m 16 ls [.long (c_p1 (x2).toNatClampNeg)]) (va_Run.run (va_runS (As := [.long (c_p1 (x2).toNatClampNeg)]) (rest := []) ⟨hx, hb, hml, hown, hts⟩ (cr_xP_isNumber l dC dI (c_p1 (x2).toNatClampNeg) r16 hz) (va_cwS 1 hts (kw_in3 kw_344 kw_271 kw_1 kw_272) rfl rfl rfl (by decide +kernel) ⟨Nat.le_of_ble_eq_true rfl, Nat.le_of_ble_eq_true rfl⟩) (kr_pre hPc hKc) rfl rfl hl.1 rfl (lv_room (Nat.le_of_ble_eq_true rfl)) d_xP_areNumbers_16 ⟨Nat.le_of_ble_eq_true rfl, Nat.le_of_ble_eq_true rfl⟩)) ?_
        refine W.eq (g2 := F0 m 19 ls [.int r16]) rfl ?_
        clear hPc hKc hz
        refine lv_if_ne (pc := 19) (tgt := 24) hx hb d_xP_areNumbers_19 (by decide) (fun hc => ?_) (fun hc => ?_)
        · rw [if_neg hc] at hf
          refine lv_iinc (pc := 24) (v := (x2 + (1 : Int32))) (lv' := [(2, .int (x2 + (1 : Int32))), (0, .ref q_p1), (1, .int x1)]) hx hb d_xP_areNumbers_24 hl (k := 2) rfl rfl (by decide) rfl (fun ls hl => ?_)
          refine lv_goto (pc := 27) (tgt := 2) hx hb d_xP_areNumbers_27 (by decide) ?_
          exact hk2 x1 (x2 + (1 : Int32)) _ hf (lv_sub hl [1, 2, 0] rfl)
        · rw [if_pos hc] at hf
          refine lv_iconst (pc := 22) (v := (0 : Int32)) hx hb d_xP_areNumbers_22 (by decide) ?_
          have e_0 := kr1 hf
          rw [e_0]
          exact hRet (by rw [← e_0]; exact (by decide)) 23 _ d_xP_areNumbers_23
  have hL2 : ∀ n : Nat, ∀ (x1 : Int32) (x2 : Int32) (ls : Array Slot), (xP_areNumbers_L2 N n) x1 x2 c_p1 = some rv → lv_has ls 3 [(0, .ref q_p1), (1, .int x1), (2, .int x2)] → W p l e (headSpec w_xP_areNumbers ({ frames := 1, cells := 0, slots := 0, locals := 21 })).room s m args below meth c s.heap [] 0 0 Q (F0 m 2 ls []) := by
    intro n
    induction n with
    | zero => intro x1 x2 ls hf hl; have hf : none = some rv := hf; cases hf
    | succ n ih => exact hB2 (xP_areNumbers_L2 N n) ih
  rw [xP_areNumbers] at hf
  refine lv_iconst (pc := 0) (v := (0 : Int32)) hx hb d_xP_areNumbers_0 (by decide) ?_
  refine lv_istore_n (pc := 1) (lv' := [(2, .int (0 : Int32)), (0, .ref q_p1), (1, .int x1)]) hx hb d_xP_areNumbers_1 rfl hl (by decide) rfl (fun ls hl => ?_)
  exact hL2 N x1 (0 : Int32) _ hf (lv_sub hl [1, 2, 0] rfl)
set_option maxHeartbeats 4000000 in
set_option maxRecDepth 100000 in
theorem cr_xP_byteOf (l : Launch) (dC : Nat → ClassId) (dI : Nat → Nat → Nat) (x0 : Int64) (x2 : Int32) (rv : Int32) (hf : xP_byteOf x0 x2 = some rv) : Met l y_xP_byteOf w_xP_byteOf ({ frames := 0, cells := 0, slots := 0, locals := 0 }) (va_Pc [.long x0, .int x2] (fun U => va_P (dC, dI) clz [] U.heap ∧ va_K (dC, dI) clz [] U)) (QcRead rv) 0 0 (fun _ => False) := by
  refine Met.ofW (cc := prog_1_method_18_code) (maxL := 3) (ret := (some .int)) (by decide +kernel) rfl ?_
  intro p e s m args below meth c s₁ B hml hv
  obtain ⟨hargs, hP, hK⟩ := hv
  have hx := B.exec
  have hb := B.bytes
  have hr := B.returns
  have hts := atoms_spec (ws := w_xP_byteOf) B.pre
  have hown : s.vm.findClass "PathTexts" = some m.cls := findClass_of_methodNamed B.named
  have hlocks := B.notSynchronized
  have hS : va_S (fun _ => False) s.heap s.heap [] := va_S.rf
  have hl := lv_entry ([.long x0, .int x2]) (n := 3) (Nat.le_of_ble_eq_true rfl)
  have hent : entryFrame m args 3 = F0 m 0 (lg_sl ([.long x0, .int x2]) ++ List.replicate (3 - (lg_sl ([.long x0, .int x2])).length) Slot.unset).toArray [] := by rw [hargs, lg_entry_eq]
  rw [hent]
  clear hent hargs
  generalize (lg_sl ([.long x0, .int x2]) ++ List.replicate (3 - (lg_sl ([.long x0, .int x2])).length) Slot.unset).toArray = ls at hl ⊢
  have hl : lv_has ls 3 [(0, .long x0), (2, .int x2)] := hl
  suffices key : ∀ Q : State → Prop, (∀ (pc : Nat) (ls : Array Slot), decode prog_1_method_18_code pc = .ok (.ireturn, 1) → W p l e (headSpec w_xP_byteOf ({ frames := 0, cells := 0, slots := 0, locals := 0 })).room s m args below meth c s.heap [] 0 0 Q (F0 m pc ls [.int rv])) → W p l e (headSpec w_xP_byteOf ({ frames := 0, cells := 0, slots := 0, locals := 0 })).room s m args below meth c s.heap [] 0 0 Q (F0 m 0 ls []) from key _ (fun pc ls hd => W.iret hx hb hr (fun t ht hW => ⟨rfl, ht⟩) (fun q h => nomatch h) hd)
  intro Q hRet
  rw [xP_byteOf] at hf
  refine lv_lload_n (pc := 0) hx hb d_xP_byteOf_0 rfl (lv_at hl 0 rfl) ?_
  refine lv_bipush (pc := 1) (v := (8 : Int32)) hx hb d_xP_byteOf_1 (by decide) ?_
  refine lv_iload_n (pc := 3) hx hb d_xP_byteOf_3 rfl (lv_at hl 1 rfl) ?_
  refine lv_imul (pc := 4) hx hb d_xP_byteOf_4 ?_
  refine lv_lushr (pc := 5) hx hb d_xP_byteOf_5 rfl ?_
  refine lv_l2i (pc := 6) hx hb d_xP_byteOf_6 rfl ?_
  refine lv_sipush (pc := 7) (v := (255 : Int32)) hx hb d_xP_byteOf_7 (by decide) ?_
  refine lv_iand (pc := 10) hx hb d_xP_byteOf_10 ?_
  have e_0 := kr1 hf
  rw [e_0]
  exact hRet 11 _ d_xP_byteOf_11
set_option maxHeartbeats 4000000 in
set_option maxRecDepth 100000 in
theorem cr_xDrawing_has (l : Launch) (dC : Nat → ClassId) (dI : Nat → Nat → Nat) (q_o : Nat) (q_o_kinds : Nat) (q_o_numbers : Nat) (x1 : Int32) (v_o_count : Int32) (rv : Int32) (hf : xDrawing_has x1 v_o_count = some rv) : Met l y_xDrawing_has w_xDrawing_has ({ frames := 0, cells := 0, slots := 0, locals := 0 }) (va_Pc [.ref q_o, .int x1] (fun U => va_P (dC, dI) clz [(q_o, .inr (1, f_Drawing q_o_kinds q_o_numbers v_o_count))] U.heap ∧ va_K (dC, dI) clz [] U)) (QcRead rv) 0 0 (fun _ => False) := by
  refine Met.ofW (cc := prog_3_method_2_code) (maxL := 2) (ret := (some .boolean)) (by decide +kernel) rfl ?_
  intro p e s m args below meth c s₁ B hml hv
  obtain ⟨hargs, hP, hK⟩ := hv
  have hx := B.exec
  have hb := B.bytes
  have hr := B.returns
  have hts := atoms_spec (ws := w_xDrawing_has) B.pre
  have hown : s.vm.findClass "PathTexts$Drawing" = some m.cls := findClass_of_methodNamed B.named
  have hlocks := B.notSynchronized
  have hS : va_S (fun _ => False) s.heap s.heap [] := va_S.rf
  have hl := lv_entry ([.ref q_o, .int x1]) (n := 2) (Nat.le_of_ble_eq_true rfl)
  have hent : entryFrame m args 2 = F0 m 0 (lg_sl ([.ref q_o, .int x1]) ++ List.replicate (2 - (lg_sl ([.ref q_o, .int x1])).length) Slot.unset).toArray [] := by rw [hargs, lg_entry_eq]
  rw [hent]
  clear hent hargs
  generalize (lg_sl ([.ref q_o, .int x1]) ++ List.replicate (2 - (lg_sl ([.ref q_o, .int x1])).length) Slot.unset).toArray = ls at hl ⊢
  have hl : lv_has ls 2 [(0, .ref q_o), (1, .int x1)] := hl
  suffices key : ∀ Q : State → Prop, (∀ (hn9 : narrow .boolean (.int rv) = .int rv) (pc : Nat) (ls : Array Slot), decode prog_3_method_2_code pc = .ok (.ireturn, 1) → W p l e (headSpec w_xDrawing_has ({ frames := 0, cells := 0, slots := 0, locals := 0 })).room s m args below meth c s.heap [] 0 0 Q (F0 m pc ls [.int rv])) → W p l e (headSpec w_xDrawing_has ({ frames := 0, cells := 0, slots := 0, locals := 0 })).room s m args below meth c s.heap [] 0 0 Q (F0 m 0 ls []) from key _ (fun hn9 pc ls hd => W.zret hx hb hr hn9 (fun t ht hW => ⟨rfl, ht⟩) (fun q h => nomatch h) hd)
  intro Q hRet
  rw [xDrawing_has] at hf
  refine lv_iload_n (pc := 0) hx hb d_xDrawing_has_0 rfl (lv_at hl 1 rfl) ?_
  refine lv_if_lt (pc := 1) (tgt := 23) hx hb d_xDrawing_has_1 (by decide) (fun hc => ?_) (fun hc => ?_)
  · rw [if_pos hc] at hf
    refine lv_iconst (pc := 23) (v := (0 : Int32)) hx hb d_xDrawing_has_23 (by decide) ?_
    have e_0 := kr1 hf
    rw [e_0]
    exact hRet (by rw [← e_0]; exact (by decide)) 24 _ d_xDrawing_has_24
  · rw [if_neg hc] at hf
    refine lv_iload_n (pc := 4) hx hb d_xDrawing_has_4 rfl (lv_at hl 1 rfl) ?_
    refine lv_aload_n (pc := 5) hx hb d_xDrawing_has_5 rfl (lv_at hl 0 rfl) ?_
    refine va_get (pc := 6) (D := (dC, dI)) (ci := 1) (v := .int v_o_count) (C := "PathTexts$Drawing") (T := F_Drawing) (N := 3) hx hb hts (fun w h => List.mem_cons_of_mem _ (in_Drawing w h)) hown hK hP 0 rfl rfl 2 (by decide) (hts _ (List.mem_cons_of_mem _ kw_175)) (fun _ h9 => h9) fg_Drawing_2 d_xDrawing_has_6 ?_
    refine lv_icmp_ge (pc := 9) (tgt := 23) hx hb d_xDrawing_has_9 (by decide) (fun hc => ?_) (fun hc => ?_)
    · rw [if_pos hc] at hf
      refine lv_iconst (pc := 23) (v := (0 : Int32)) hx hb d_xDrawing_has_23 (by decide) ?_
      have e_0 := kr1 hf
      rw [e_0]
      exact hRet (by rw [← e_0]; exact (by decide)) 24 _ d_xDrawing_has_24
    · rw [if_neg hc] at hf
      refine lv_iload_n (pc := 12) hx hb d_xDrawing_has_12 rfl (lv_at hl 1 rfl) ?_
      refine lv_sipush (pc := 13) (v := (150 : Int32)) hx hb d_xDrawing_has_13 (by decide) ?_
      refine lv_icmp_ge (pc := 16) (tgt := 23) hx hb d_xDrawing_has_16 (by decide) (fun hc => ?_) (fun hc => ?_)
      · rw [if_pos hc] at hf
        refine lv_iconst (pc := 23) (v := (0 : Int32)) hx hb d_xDrawing_has_23 (by decide) ?_
        have e_0 := kr1 hf
        rw [e_0]
        exact hRet (by rw [← e_0]; exact (by decide)) 24 _ d_xDrawing_has_24
      · rw [if_neg hc] at hf
        refine lv_iconst (pc := 19) (v := (1 : Int32)) hx hb d_xDrawing_has_19 (by decide) ?_
        refine lv_goto (pc := 20) (tgt := 24) hx hb d_xDrawing_has_20 (by decide) ?_
        have e_0 := kr1 hf
        rw [e_0]
        exact hRet (by rw [← e_0]; exact (by decide)) 24 _ d_xDrawing_has_24
set_option maxHeartbeats 4000000 in
set_option maxRecDepth 100000 in
theorem cr_xDrawing_add (l : Launch) (dC : Nat → ClassId) (dI : Nat → Nat → Nat) (q_o : Nat) (q_o_kinds : Nat) (q_o_numbers : Nat) (q_p2 : Nat) (k_o_numbers : ClassId) (k_o_kinds : ClassId) (k_p2 : ClassId) (tt : Nat) (N : Nat) (x1 : Int32) (v_o_count : Int32) (c_o_numbers : (Nat → Int32)) (c_o_kinds : (Nat → Int32)) (c_p2 : (Nat → Int64)) (v_o_count_z : Int32) (c_o_numbers_z : (Nat → Int32)) (c_o_kinds_z : (Nat → Int32)) (hf : xDrawing_add N x1 v_o_count c_o_numbers c_o_kinds c_p2 = some ((0 : Int32), v_o_count_z, c_o_numbers_z, c_o_kinds_z)) : Met l y_xDrawing_add w_xDrawing_add ({ frames := 2, cells := 0, slots := 0, locals := 43 }) (va_Pc [.ref q_o, .int x1, .ref q_p2] (fun U => va_P (dC, dI) clz [(q_o, .inr (1, f_Drawing q_o_kinds q_o_numbers v_o_count)), (q_o_numbers, .inl (k_o_numbers, 900, .inl c_o_numbers)), (q_o_kinds, .inl (k_o_kinds, 150, .inl c_o_kinds)), (q_p2, .inl (k_p2, 6, .inr (.inl c_p2)))] U.heap ∧ va_K (dC, dI) clz [(k_o_numbers, .int), (k_o_kinds, .int), (k_p2, .long)] U ∧ ke tt (fun _ => False) U)) (QcRead (0 : Int32)) 0 0 (fun _ => False) := by
  refine Met.ofW (cc := prog_3_method_3_code) (maxL := 5) (ret := (some .boolean)) (by decide +kernel) rfl ?_
  intro p e s m args below meth c s₁ B hml hv
  obtain ⟨hargs, hP, hK, hE⟩ := hv
  have hx := B.exec
  have hb := B.bytes
  have hr := B.returns
  have hts := atoms_spec (ws := w_xDrawing_add) B.pre
  have hown : s.vm.findClass "PathTexts$Drawing" = some m.cls := findClass_of_methodNamed B.named
  have hlocks := B.notSynchronized
  have hS : va_S (fun _ => False) s.heap s.heap [] := va_S.rf
  have hl := lv_entry ([.ref q_o, .int x1, .ref q_p2]) (n := 5) (Nat.le_of_ble_eq_true rfl)
  have hent : entryFrame m args 5 = F0 m 0 (lg_sl ([.ref q_o, .int x1, .ref q_p2]) ++ List.replicate (5 - (lg_sl ([.ref q_o, .int x1, .ref q_p2])).length) Slot.unset).toArray [] := by rw [hargs, lg_entry_eq]
  rw [hent]
  clear hent hargs
  generalize (lg_sl ([.ref q_o, .int x1, .ref q_p2]) ++ List.replicate (5 - (lg_sl ([.ref q_o, .int x1, .ref q_p2])).length) Slot.unset).toArray = ls at hl ⊢
  have hl : lv_has ls 5 [(0, .ref q_o), (1, .int x1), (2, .ref q_p2)] := hl
  suffices key : ∀ Q : State → Prop, (∀ (hn9 : narrow .boolean (.int (0 : Int32)) = .int (0 : Int32)) (pc : Nat) (ls : Array Slot), decode prog_3_method_3_code pc = .ok (.ireturn, 1) → W p l e (headSpec w_xDrawing_add ({ frames := 2, cells := 0, slots := 0, locals := 43 })).room s m args below meth c s.heap [] 0 0 Q (F0 m pc ls [.int (0 : Int32)])) → W p l e (headSpec w_xDrawing_add ({ frames := 2, cells := 0, slots := 0, locals := 43 })).room s m args below meth c s.heap [] 0 0 Q (F0 m 0 ls []) from key _ (fun hn9 pc ls hd => W.zret hx hb hr hn9 (fun t ht hW => ⟨rfl, ht⟩) (fun q h => nomatch h) hd)
  intro Q hRet
  have nB41 : ∀ (k41 : Int32 → Int32 → Int32 → Int32 → (Nat → Int32) → (Nat → Int32) → (Nat → Int64) → Option (Int32 × Int32 × (Nat → Int32) × (Nat → Int32))), (∀ (x1 : Int32) (x3 : Int32) (x4 : Int32) (v_o_count : Int32) (c_o_numbers : (Nat → Int32)) (c_o_kinds : (Nat → Int32)) (c_p2 : (Nat → Int64)), k41 x1 x3 x4 v_o_count c_o_numbers c_o_kinds c_p2 = some ((0 : Int32), v_o_count_z, c_o_numbers_z, c_o_kinds_z) → False) → ∀ (x1 : Int32) (x3 : Int32) (x4 : Int32) (v_o_count : Int32) (c_o_numbers : (Nat → Int32)) (c_o_kinds : (Nat → Int32)) (c_p2 : (Nat → Int64)), xDrawing_add_B41 N k41 x1 x3 x4 v_o_count c_o_numbers c_o_kinds c_p2 = some ((0 : Int32), v_o_count_z, c_o_numbers_z, c_o_kinds_z) → False := by
    intro k41 nk41
    intro x1 x3 x4 v_o_count c_o_numbers c_o_kinds c_p2 hf
    rw [xDrawing_add_B41] at hf
    by_cases hq : x3 ≤ x4
    · rw [if_pos hq] at hf
      obtain ⟨-, hf⟩ := kg_some hf
      exact absurd (kr4 hf).1 (by decide)
    · rw [if_neg hq] at hf
      obtain ⟨-, hf⟩ := kg_some hf
      obtain ⟨-, hf⟩ := kg_some hf
      exact nk41 x1 x3 (x4 + (1 : Int32)) v_o_count (upd c_o_numbers (((v_o_count * (6 : Int32)) + x4)).toNatClampNeg (Int64.toInt32 (c_p2 (x4).toNatClampNeg))) c_o_kinds c_p2 hf
  have nL41 : ∀ n : Nat, ∀ (x1 : Int32) (x3 : Int32) (x4 : Int32) (v_o_count : Int32) (c_o_numbers : (Nat → Int32)) (c_o_kinds : (Nat → Int32)) (c_p2 : (Nat → Int64)), xDrawing_add_L41 N n x1 x3 x4 v_o_count c_o_numbers c_o_kinds c_p2 = some ((0 : Int32), v_o_count_z, c_o_numbers_z, c_o_kinds_z) → False := by
    intro n
    induction n with
    | zero => intro x1 x3 x4 v_o_count c_o_numbers c_o_kinds c_p2 hf; have hf : none = some ((0 : Int32), v_o_count_z, c_o_numbers_z, c_o_kinds_z) := hf; cases hf
    | succ n ih => exact nB41 (xDrawing_add_L41 N n) ih
  rw [xDrawing_add] at hf
  refine lv_iload_n (pc := 0) hx hb d_xDrawing_add_0 rfl (lv_at hl 1 rfl) ?_
  obtain ⟨r1, hz, hf⟩ := kb1_some hf
  have hPc := hP.sub (ws' := []) [] rfl
  have hKc := hK.sub (tys' := []) [] rfl
  refine W.callR (g := F0 m 1 ls [.int x1]) (va_Run.run (va_runSN (As := [.int x1]) (rest := []) ⟨hx, hb, hml, hown, hts⟩ (cr_xP_numbersOf l dC dI x1 r1 hz) ⟨va_cnB 1 hts (kw_in kw_334) rfl rfl rfl (hE.1 _ kn_11) (hts _ (List.mem_cons_of_mem _ kw_1)) (by decide +kernel) ⟨Nat.le_of_ble_eq_true rfl, Nat.le_of_ble_eq_true rfl⟩, hts _ (List.mem_cons_of_mem _ kw_333), trivial⟩ (kr_pre hPc hKc) rfl rfl hl.1 rfl (lv_room (Nat.le_of_ble_eq_true rfl)) d_xDrawing_add_1 ⟨Nat.le_of_ble_eq_true rfl, Nat.le_of_ble_eq_true rfl⟩)) ?_
  refine W.eq (g2 := F0 m 4 ls [.int r1]) rfl ?_
  clear hPc hKc hz
  refine lv_istore_n (pc := 4) (lv' := [(3, .int r1), (0, .ref q_o), (1, .int x1), (2, .ref q_p2)]) hx hb d_xDrawing_add_4 rfl hl (by decide) rfl (fun ls hl => ?_)
  refine lv_aload_n (pc := 5) hx hb d_xDrawing_add_5 rfl (lv_at hl 1 rfl) ?_
  refine va_get (pc := 6) (D := (dC, dI)) (ci := 1) (v := .int v_o_count) (C := "PathTexts$Drawing") (T := F_Drawing) (N := 3) hx hb hts (fun w h => List.mem_cons_of_mem _ (in_Drawing w h)) hown hK hP 0 rfl rfl 2 (by decide) (hts _ (List.mem_cons_of_mem _ kw_175)) (fun _ h9 => h9) fg_Drawing_2 d_xDrawing_add_6 ?_
  refine lv_if_lt (pc := 9) (tgt := 36) hx hb d_xDrawing_add_9 (by decide) (fun hc => ?_) (fun hc => ?_)
  · rw [if_pos hc] at hf
    refine lv_iconst (pc := 36) (v := (0 : Int32)) hx hb d_xDrawing_add_36 (by decide) ?_
    obtain ⟨e_0, e_1, e_2, e_3⟩ := kr4 hf
    rw [e_0]
    exact hRet (by rw [← e_0]; exact (by decide)) 37 _ d_xDrawing_add_37
  · rw [if_neg hc] at hf
    refine lv_aload_n (pc := 12) hx hb d_xDrawing_add_12 rfl (lv_at hl 1 rfl) ?_
    refine va_get (pc := 13) (D := (dC, dI)) (ci := 1) (v := .int v_o_count) (C := "PathTexts$Drawing") (T := F_Drawing) (N := 3) hx hb hts (fun w h => List.mem_cons_of_mem _ (in_Drawing w h)) hown hK hP 0 rfl rfl 2 (by decide) (hts _ (List.mem_cons_of_mem _ kw_175)) (fun _ h9 => h9) fg_Drawing_2 d_xDrawing_add_13 ?_
    refine lv_sipush (pc := 16) (v := (150 : Int32)) hx hb d_xDrawing_add_16 (by decide) ?_
    refine lv_icmp_ge (pc := 19) (tgt := 36) hx hb d_xDrawing_add_19 (by decide) (fun hc => ?_) (fun hc => ?_)
    · rw [if_pos hc] at hf
      refine lv_iconst (pc := 36) (v := (0 : Int32)) hx hb d_xDrawing_add_36 (by decide) ?_
      obtain ⟨e_0, e_1, e_2, e_3⟩ := kr4 hf
      rw [e_0]
      exact hRet (by rw [← e_0]; exact (by decide)) 37 _ d_xDrawing_add_37
    · rw [if_neg hc] at hf
      refine lv_aload_n (pc := 22) hx hb d_xDrawing_add_22 rfl (lv_at hl 3 rfl) ?_
      refine va_alen (pc := 23) hx hb hK hP 3 2 rfl rfl (v := (6 : Int32)) rfl d_xDrawing_add_23 ?_
      refine lv_iload_n (pc := 24) hx hb d_xDrawing_add_24 rfl (lv_at hl 0 rfl) ?_
      refine lv_icmp_lt (pc := 25) (tgt := 36) hx hb d_xDrawing_add_25 (by decide) (fun hc => ?_) (fun hc => ?_)
      · rw [if_pos hc] at hf
        refine lv_iconst (pc := 36) (v := (0 : Int32)) hx hb d_xDrawing_add_36 (by decide) ?_
        obtain ⟨e_0, e_1, e_2, e_3⟩ := kr4 hf
        rw [e_0]
        exact hRet (by rw [← e_0]; exact (by decide)) 37 _ d_xDrawing_add_37
      · rw [if_neg hc] at hf
        refine lv_aload_n (pc := 28) hx hb d_xDrawing_add_28 rfl (lv_at hl 3 rfl) ?_
        refine lv_iload_n (pc := 29) hx hb d_xDrawing_add_29 rfl (lv_at hl 0 rfl) ?_
        obtain ⟨r30, hz, hf⟩ := kb1_some hf
        have hPc := hP.sub (ws' := [(q_p2, .inl (k_p2, 6, .inr (.inl c_p2)))]) [3] rfl
        have hKc := hK.sub (tys' := [(k_p2, .long)]) [2] rfl
        refine W.callR (g := F0 m 30 ls [.int r1, .ref q_p2]) (va_Run.run (va_runSN (As := [.ref q_p2, .int r1]) (rest := []) ⟨hx, hb, hml, hown, hts⟩ (cr_xP_areNumbers l dC dI q_p2 k_p2 N r1 c_p2 r30 hz) ⟨va_cnB 2 hts (kw_in kw_343) rfl rfl rfl (hE.1 _ kn_12) (hts _ (List.mem_cons_of_mem _ kw_1)) (by decide +kernel) ⟨Nat.le_of_ble_eq_true rfl, Nat.le_of_ble_eq_true rfl⟩, hts _ (List.mem_cons_of_mem _ kw_342), trivial⟩ (kr_pre hPc hKc) rfl rfl hl.1 rfl (lv_room (Nat.le_of_ble_eq_true rfl)) d_xDrawing_add_30 ⟨Nat.le_of_ble_eq_true rfl, Nat.le_of_ble_eq_true rfl⟩)) ?_
        refine W.eq (g2 := F0 m 33 ls [.int r30]) rfl ?_
        clear hPc hKc hz
        refine lv_if_ne (pc := 33) (tgt := 38) hx hb d_xDrawing_add_33 (by decide) (fun hc => ?_) (fun hc => ?_)
        · rw [if_neg hc] at hf
          exfalso
          exact nL41 N x1 r1 (0 : Int32) v_o_count c_o_numbers c_o_kinds c_p2 hf
        · rw [if_pos hc] at hf
          refine lv_iconst (pc := 36) (v := (0 : Int32)) hx hb d_xDrawing_add_36 (by decide) ?_
          obtain ⟨e_0, e_1, e_2, e_3⟩ := kr4 hf
          rw [e_0]
          exact hRet (by rw [← e_0]; exact (by decide)) 37 _ d_xDrawing_add_37
set_option maxHeartbeats 4000000 in
set_option maxRecDepth 100000 in
theorem cx_xP_addGiven_1 (l : Launch) (dC : Nat → ClassId) (dI : Nat → Nat → Nat) (q_o : Nat) (q_o_text : Nat) (q_o_written : Nat) (q_o_reader : Nat) (q_o_cover : Nat) (q_o_given : Nat) (q_o_drawing : Nat) (q_o_spare : Nat) (q_o_drawing_kinds : Nat) (q_o_drawing_numbers : Nat) (k_o_given : ClassId) (k_o_drawing_numbers : ClassId) (k_o_drawing_kinds : ClassId) (tt : Nat) (N : Nat) (x1 : Int32) (c_o_given : (Nat → Int64)) (v_o_drawing_count : Int32) (c_o_drawing_numbers : (Nat → Int32)) (c_o_drawing_kinds : (Nat → Int32)) (rv : Int32) (v_o_drawing_count_z : Int32) (c_o_drawing_numbers_z : (Nat → Int32)) (c_o_drawing_kinds_z : (Nat → Int32)) (hfl : l.flags = flags0) (hf : xP_addGiven N x1 c_o_given v_o_drawing_count c_o_drawing_numbers c_o_drawing_kinds = some (1, rv, v_o_drawing_count_z, c_o_drawing_numbers_z, c_o_drawing_kinds_z)) : kt_Met l y_xP_addGiven w_xP_addGiven ({ frames := 6, cells := 1, slots := 6, locals := 82 }) (va_Pc [.ref q_o, .int x1] (fun U => va_P (dC, dI) clz [(q_o, .inr (6, f_P q_o_text q_o_written q_o_reader q_o_cover q_o_given q_o_drawing q_o_spare)), (q_o_given, .inl (k_o_given, 6, .inr (.inl c_o_given))), (q_o_drawing, .inr (1, f_Drawing q_o_drawing_kinds q_o_drawing_numbers v_o_drawing_count)), (q_o_drawing_numbers, .inl (k_o_drawing_numbers, 900, .inl c_o_drawing_numbers)), (q_o_drawing_kinds, .inl (k_o_drawing_kinds, 150, .inl c_o_drawing_kinds))] U.heap ∧ va_K (dC, dI) clz [(k_o_given, .long), (k_o_drawing_numbers, .int), (k_o_drawing_kinds, .int)] U ∧ kf tt (fun _ => False) U)) "java/lang/IllegalArgumentException" (fun st t => va_F (fun _ => False) st t ∧ va_P (dC, dI) clz [(q_o, .inr (6, f_P q_o_text q_o_written q_o_reader q_o_cover q_o_given q_o_drawing q_o_spare)), (q_o_given, .inl (k_o_given, 6, .inr (.inl c_o_given))), (q_o_drawing, .inr (1, f_Drawing q_o_drawing_kinds q_o_drawing_numbers v_o_drawing_count_z)), (q_o_drawing_numbers, .inl (k_o_drawing_numbers, 900, .inl c_o_drawing_numbers_z)), (q_o_drawing_kinds, .inl (k_o_drawing_kinds, 150, .inl c_o_drawing_kinds_z))] t.heap) 1 6 (fun _ => False) := by
  refine kt_ofW (cc := prog_1_method_17_code) (maxL := 2) (ret := (some .int)) (by decide +kernel) rfl ?_
  intro p e s m args below meth c s₁ B hml htab hv
  obtain ⟨hargs, hP, hK, hF⟩ := hv
  have hE := hF.1
  have hx := B.exec
  have hb := B.bytes
  have hr := B.returns
  have hts := atoms_spec (ws := w_xP_addGiven) B.pre
  have hown : s.vm.findClass "PathTexts" = some m.cls := findClass_of_methodNamed B.named
  have hlocks := B.notSynchronized
  have hS : va_S (fun _ => False) s.heap s.heap [] := va_S.rf
  have hl := lv_entry ([.ref q_o, .int x1]) (n := 2) (Nat.le_of_ble_eq_true rfl)
  have hent : entryFrame m args 2 = F0 m 0 (lg_sl ([.ref q_o, .int x1]) ++ List.replicate (2 - (lg_sl ([.ref q_o, .int x1])).length) Slot.unset).toArray [] := by rw [hargs, lg_entry_eq]
  rw [hent]
  clear hent hargs
  generalize (lg_sl ([.ref q_o, .int x1]) ++ List.replicate (2 - (lg_sl ([.ref q_o, .int x1])).length) Slot.unset).toArray = ls at hl ⊢
  have hl : lv_has ls 2 [(0, .ref q_o), (1, .int x1)] := hl
  obtain ⟨Q, hQ⟩ : ∃ Q, Q = kt_MQ below "java/lang/IllegalArgumentException" (fun st t => va_F (fun _ => False) st t ∧ va_P (dC, dI) clz [(q_o, .inr (6, f_P q_o_text q_o_written q_o_reader q_o_cover q_o_given q_o_drawing q_o_spare)), (q_o_given, .inl (k_o_given, 6, .inr (.inl c_o_given))), (q_o_drawing, .inr (1, f_Drawing q_o_drawing_kinds q_o_drawing_numbers v_o_drawing_count_z)), (q_o_drawing_numbers, .inl (k_o_drawing_numbers, 900, .inl c_o_drawing_numbers_z)), (q_o_drawing_kinds, .inl (k_o_drawing_kinds, 150, .inl c_o_drawing_kinds_z))] t.heap) s 1 6 (fun _ => False) := ⟨_, rfl⟩
  rw [← hQ]
  have nb48 : ∀ (x1 : Int32) (c_o_given : (Nat → Int64)) (v_o_drawing_count : Int32) (c_o_drawing_numbers : (Nat → Int32)) (c_o_drawing_kinds : (Nat → Int32)), xP_addGiven_b48 N x1 c_o_given v_o_drawing_count c_o_drawing_numbers c_o_drawing_kinds = some (1, rv, v_o_drawing_count_z, c_o_drawing_numbers_z, c_o_drawing_kinds_z) → False := by
    intro x1 c_o_given v_o_drawing_count c_o_drawing_numbers c_o_drawing_kinds hf
    rw [xP_addGiven_b48] at hf
    obtain ⟨r57, v_o_drawing_count_57, c_o_drawing_numbers_57, c_o_drawing_kinds_57, -, hf⟩ := kb4_some hf
    by_cases hq : r57 = (0 : Int32)
    · rw [if_pos hq] at hf
      exact absurd (kr5 hf).1 (by decide)
    · rw [if_neg hq] at hf
      exact absurd (kr5 hf).1 (by decide)
  rw [xP_addGiven] at hf
  refine lv_aload_n (pc := 0) hx hb d_xP_addGiven_0 rfl (lv_at hl 0 rfl) ?_
  refine va_get (pc := 1) (D := (dC, dI)) (ci := 6) (v := .ref q_o_given) (C := "PathTexts") (T := F_P) (N := 7) hx hb hts (fun w h => List.mem_cons_of_mem _ (in_P w h)) hown hK hP 0 rfl rfl 4 (by decide) (hts _ (List.mem_cons_of_mem _ kw_190)) (fun _ h9 => h9) fg_P_4 d_xP_addGiven_1 ?_
  refine lv_iload_n (pc := 4) hx hb d_xP_addGiven_4 rfl (lv_at hl 1 rfl) ?_
  obtain ⟨r5, hz, hf⟩ := kb1_some hf
  have hPc := hP.sub (ws' := []) [] rfl
  have hKc := hK.sub (tys' := []) [] rfl
  refine W.callR (g := F0 m 5 ls [.int x1, .ref q_o_given]) (va_Run.run (va_runS (As := [.int x1]) (rest := [.ref q_o_given]) ⟨hx, hb, hml, hown, hts⟩ (cr_xP_numbersOf l dC dI x1 r5 hz) (va_cwS 1 hts (kw_in3 kw_519 kw_333 kw_1 kw_334) rfl rfl rfl (by decide +kernel) ⟨Nat.le_of_ble_eq_true rfl, Nat.le_of_ble_eq_true rfl⟩) (kr_pre hPc hKc) rfl rfl hl.1 rfl (lv_room (Nat.le_of_ble_eq_true rfl)) d_xP_addGiven_5 ⟨Nat.le_of_ble_eq_true rfl, Nat.le_of_ble_eq_true rfl⟩)) ?_
  refine W.eq (g2 := F0 m 8 ls [.int r5, .ref q_o_given]) rfl ?_
  clear hPc hKc hz
  obtain ⟨r8, hz, hf⟩ := kb1_some hf
  have hPc := hP.sub (ws' := [(q_o_given, .inl (k_o_given, 6, .inr (.inl c_o_given)))]) [1] rfl
  have hKc := hK.sub (tys' := [(k_o_given, .long)]) [0] rfl
  refine W.callR (g := F0 m 8 ls [.int r5, .ref q_o_given]) (va_Run.run (va_runS (As := [.ref q_o_given, .int r5]) (rest := []) ⟨hx, hb, hml, hown, hts⟩ (cr_xP_areNumbers l dC dI q_o_given k_o_given N r5 c_o_given r8 hz) (va_cwS 2 hts (kw_in3 kw_520 kw_342 kw_1 kw_343) rfl rfl rfl (by decide +kernel) ⟨Nat.le_of_ble_eq_true rfl, Nat.le_of_ble_eq_true rfl⟩) (kr_pre hPc hKc) rfl rfl hl.1 rfl (lv_room (Nat.le_of_ble_eq_true rfl)) d_xP_addGiven_8 ⟨Nat.le_of_ble_eq_true rfl, Nat.le_of_ble_eq_true rfl⟩)) ?_
  refine W.eq (g2 := F0 m 11 ls [.int r8]) rfl ?_
  clear hPc hKc hz
  refine lv_if_ne (pc := 11) (tgt := 24) hx hb d_xP_addGiven_11 (by decide) (fun hc => ?_) (fun hc => ?_)
  · rw [if_neg hc] at hf
    exfalso
    by_cases hq : x1 = (0 : Int32)
    · rw [if_pos hq] at hf
      exact nb48 x1 c_o_given v_o_drawing_count c_o_drawing_numbers c_o_drawing_kinds hf
    · rw [if_neg hq] at hf
      by_cases hq : v_o_drawing_count = (0 : Int32)
      · rw [if_pos hq] at hf
        exact absurd (kr5 hf).1 (by decide)
      · rw [if_neg hq] at hf
        exact nb48 x1 c_o_given v_o_drawing_count c_o_drawing_numbers c_o_drawing_kinds hf
  · rw [if_pos hc] at hf
    obtain ⟨e_0, e_1, e_2, e_3, e_4⟩ := kr5 hf
    obtain ⟨sa, hsa⟩ := hF.2.2.2.1 (149, "a number is not -1048576 .. 1048576") (List.mem_of_getElem? (i := 2) rfl)
    rw [hQ]
    exact kt_throw (pc := 14) hx hb hfl (own := "PathTexts") (text := "a number is not -1048576 .. 1048576") (names := ["java/lang/RuntimeException", "java/lang/Exception"]) (ik := 55) (is := 149) (ic := 59) hown (by decide +kernel) (by decide +kernel) (hts _ (List.mem_cons_of_mem _ kw_422)) (hts _ (List.mem_cons_of_mem _ kw_12)) (ks_any hsa.1) (oa_1 (fun w h => hts w (List.mem_cons_of_mem _ h)) (kf_sp hF) hF.2.2.2.2.1 (hts _ (List.mem_cons_of_mem _ kw_465))) htab hlocks (hl.1.trans hml.symm) d_xP_addGiven_14 d_xP_addGiven_17 d_xP_addGiven_18 d_xP_addGiven_20 d_xP_addGiven_23 (Nat.le_of_ble_eq_true rfl) (Nat.le_of_ble_eq_true rfl) (Nat.le_of_ble_eq_true rfl) (Nat.le_of_ble_eq_true rfl) (fun t ha hz hq => ⟨⟨hz, fun q h _ => hq q h⟩, by rw [← e_2, ← e_3, ← e_4]; exact (va_P.kept hP (fun k q9 hk => hq q9.1 (hP k q9 hk).lt))⟩)
set_option maxHeartbeats 4000000 in
set_option maxRecDepth 100000 in
theorem cx_xP_addGiven_2 (l : Launch) (dC : Nat → ClassId) (dI : Nat → Nat → Nat) (q_o : Nat) (q_o_text : Nat) (q_o_written : Nat) (q_o_reader : Nat) (q_o_cover : Nat) (q_o_given : Nat) (q_o_drawing : Nat) (q_o_spare : Nat) (q_o_drawing_kinds : Nat) (q_o_drawing_numbers : Nat) (k_o_given : ClassId) (k_o_drawing_numbers : ClassId) (k_o_drawing_kinds : ClassId) (tt : Nat) (N : Nat) (x1 : Int32) (c_o_given : (Nat → Int64)) (v_o_drawing_count : Int32) (c_o_drawing_numbers : (Nat → Int32)) (c_o_drawing_kinds : (Nat → Int32)) (rv : Int32) (v_o_drawing_count_z : Int32) (c_o_drawing_numbers_z : (Nat → Int32)) (c_o_drawing_kinds_z : (Nat → Int32)) (hfl : l.flags = flags0) (hf : xP_addGiven N x1 c_o_given v_o_drawing_count c_o_drawing_numbers c_o_drawing_kinds = some (2, rv, v_o_drawing_count_z, c_o_drawing_numbers_z, c_o_drawing_kinds_z)) : kt_Met l y_xP_addGiven w_xP_addGiven ({ frames := 6, cells := 1, slots := 6, locals := 82 }) (va_Pc [.ref q_o, .int x1] (fun U => va_P (dC, dI) clz [(q_o, .inr (6, f_P q_o_text q_o_written q_o_reader q_o_cover q_o_given q_o_drawing q_o_spare)), (q_o_given, .inl (k_o_given, 6, .inr (.inl c_o_given))), (q_o_drawing, .inr (1, f_Drawing q_o_drawing_kinds q_o_drawing_numbers v_o_drawing_count)), (q_o_drawing_numbers, .inl (k_o_drawing_numbers, 900, .inl c_o_drawing_numbers)), (q_o_drawing_kinds, .inl (k_o_drawing_kinds, 150, .inl c_o_drawing_kinds))] U.heap ∧ va_K (dC, dI) clz [(k_o_given, .long), (k_o_drawing_numbers, .int), (k_o_drawing_kinds, .int)] U ∧ kf tt (fun _ => False) U)) "java/lang/IllegalStateException" (fun st t => va_F (fun _ => False) st t ∧ va_P (dC, dI) clz [(q_o, .inr (6, f_P q_o_text q_o_written q_o_reader q_o_cover q_o_given q_o_drawing q_o_spare)), (q_o_given, .inl (k_o_given, 6, .inr (.inl c_o_given))), (q_o_drawing, .inr (1, f_Drawing q_o_drawing_kinds q_o_drawing_numbers v_o_drawing_count_z)), (q_o_drawing_numbers, .inl (k_o_drawing_numbers, 900, .inl c_o_drawing_numbers_z)), (q_o_drawing_kinds, .inl (k_o_drawing_kinds, 150, .inl c_o_drawing_kinds_z))] t.heap) 1 6 (fun _ => False) := by
  refine kt_ofW (cc := prog_1_method_17_code) (maxL := 2) (ret := (some .int)) (by decide +kernel) rfl ?_
  intro p e s m args below meth c s₁ B hml htab hv
  obtain ⟨hargs, hP, hK, hF⟩ := hv
  have hE := hF.1
  have hx := B.exec
  have hb := B.bytes
  have hr := B.returns
  have hts := atoms_spec (ws := w_xP_addGiven) B.pre
  have hown : s.vm.findClass "PathTexts" = some m.cls := findClass_of_methodNamed B.named
  have hlocks := B.notSynchronized
  have hS : va_S (fun _ => False) s.heap s.heap [] := va_S.rf
  have hl := lv_entry ([.ref q_o, .int x1]) (n := 2) (Nat.le_of_ble_eq_true rfl)
  have hent : entryFrame m args 2 = F0 m 0 (lg_sl ([.ref q_o, .int x1]) ++ List.replicate (2 - (lg_sl ([.ref q_o, .int x1])).length) Slot.unset).toArray [] := by rw [hargs, lg_entry_eq]
  rw [hent]
  clear hent hargs
  generalize (lg_sl ([.ref q_o, .int x1]) ++ List.replicate (2 - (lg_sl ([.ref q_o, .int x1])).length) Slot.unset).toArray = ls at hl ⊢
  have hl : lv_has ls 2 [(0, .ref q_o), (1, .int x1)] := hl
  obtain ⟨Q, hQ⟩ : ∃ Q, Q = kt_MQ below "java/lang/IllegalStateException" (fun st t => va_F (fun _ => False) st t ∧ va_P (dC, dI) clz [(q_o, .inr (6, f_P q_o_text q_o_written q_o_reader q_o_cover q_o_given q_o_drawing q_o_spare)), (q_o_given, .inl (k_o_given, 6, .inr (.inl c_o_given))), (q_o_drawing, .inr (1, f_Drawing q_o_drawing_kinds q_o_drawing_numbers v_o_drawing_count_z)), (q_o_drawing_numbers, .inl (k_o_drawing_numbers, 900, .inl c_o_drawing_numbers_z)), (q_o_drawing_kinds, .inl (k_o_drawing_kinds, 150, .inl c_o_drawing_kinds_z))] t.heap) s 1 6 (fun _ => False) := ⟨_, rfl⟩
  rw [← hQ]
  have nb48 : ∀ (x1 : Int32) (c_o_given : (Nat → Int64)) (v_o_drawing_count : Int32) (c_o_drawing_numbers : (Nat → Int32)) (c_o_drawing_kinds : (Nat → Int32)), xP_addGiven_b48 N x1 c_o_given v_o_drawing_count c_o_drawing_numbers c_o_drawing_kinds = some (2, rv, v_o_drawing_count_z, c_o_drawing_numbers_z, c_o_drawing_kinds_z) → False := by
    intro x1 c_o_given v_o_drawing_count c_o_drawing_numbers c_o_drawing_kinds hf
    rw [xP_addGiven_b48] at hf
    obtain ⟨r57, v_o_drawing_count_57, c_o_drawing_numbers_57, c_o_drawing_kinds_57, -, hf⟩ := kb4_some hf
    by_cases hq : r57 = (0 : Int32)
    · rw [if_pos hq] at hf
      exact absurd (kr5 hf).1 (by decide)
    · rw [if_neg hq] at hf
      exact absurd (kr5 hf).1 (by decide)
  rw [xP_addGiven] at hf
  refine lv_aload_n (pc := 0) hx hb d_xP_addGiven_0 rfl (lv_at hl 0 rfl) ?_
  refine va_get (pc := 1) (D := (dC, dI)) (ci := 6) (v := .ref q_o_given) (C := "PathTexts") (T := F_P) (N := 7) hx hb hts (fun w h => List.mem_cons_of_mem _ (in_P w h)) hown hK hP 0 rfl rfl 4 (by decide) (hts _ (List.mem_cons_of_mem _ kw_190)) (fun _ h9 => h9) fg_P_4 d_xP_addGiven_1 ?_
  refine lv_iload_n (pc := 4) hx hb d_xP_addGiven_4 rfl (lv_at hl 1 rfl) ?_
  obtain ⟨r5, hz, hf⟩ := kb1_some hf
  have hPc := hP.sub (ws' := []) [] rfl
  have hKc := hK.sub (tys' := []) [] rfl
  refine W.callR (g := F0 m 5 ls [.int x1, .ref q_o_given]) (va_Run.run (va_runS (As := [.int x1]) (rest := [.ref q_o_given]) ⟨hx, hb, hml, hown, hts⟩ (cr_xP_numbersOf l dC dI x1 r5 hz) (va_cwS 1 hts (kw_in3 kw_519 kw_333 kw_1 kw_334) rfl rfl rfl (by decide +kernel) ⟨Nat.le_of_ble_eq_true rfl, Nat.le_of_ble_eq_true rfl⟩) (kr_pre hPc hKc) rfl rfl hl.1 rfl (lv_room (Nat.le_of_ble_eq_true rfl)) d_xP_addGiven_5 ⟨Nat.le_of_ble_eq_true rfl, Nat.le_of_ble_eq_true rfl⟩)) ?_
  refine W.eq (g2 := F0 m 8 ls [.int r5, .ref q_o_given]) rfl ?_
  clear hPc hKc hz
  obtain ⟨r8, hz, hf⟩ := kb1_some hf
  have hPc := hP.sub (ws' := [(q_o_given, .inl (k_o_given, 6, .inr (.inl c_o_given)))]) [1] rfl
  have hKc := hK.sub (tys' := [(k_o_given, .long)]) [0] rfl
  refine W.callR (g := F0 m 8 ls [.int r5, .ref q_o_given]) (va_Run.run (va_runS (As := [.ref q_o_given, .int r5]) (rest := []) ⟨hx, hb, hml, hown, hts⟩ (cr_xP_areNumbers l dC dI q_o_given k_o_given N r5 c_o_given r8 hz) (va_cwS 2 hts (kw_in3 kw_520 kw_342 kw_1 kw_343) rfl rfl rfl (by decide +kernel) ⟨Nat.le_of_ble_eq_true rfl, Nat.le_of_ble_eq_true rfl⟩) (kr_pre hPc hKc) rfl rfl hl.1 rfl (lv_room (Nat.le_of_ble_eq_true rfl)) d_xP_addGiven_8 ⟨Nat.le_of_ble_eq_true rfl, Nat.le_of_ble_eq_true rfl⟩)) ?_
  refine W.eq (g2 := F0 m 11 ls [.int r8]) rfl ?_
  clear hPc hKc hz
  refine lv_if_ne (pc := 11) (tgt := 24) hx hb d_xP_addGiven_11 (by decide) (fun hc => ?_) (fun hc => ?_)
  · rw [if_neg hc] at hf
    refine lv_iload_n (pc := 24) hx hb d_xP_addGiven_24 rfl (lv_at hl 1 rfl) ?_
    refine lv_if_eq (pc := 25) (tgt := 48) hx hb d_xP_addGiven_25 (by decide) (fun hc => ?_) (fun hc => ?_)
    · rw [if_pos hc] at hf
      exfalso
      exact nb48 x1 c_o_given v_o_drawing_count c_o_drawing_numbers c_o_drawing_kinds hf
    · rw [if_neg hc] at hf
      refine lv_aload_n (pc := 28) hx hb d_xP_addGiven_28 rfl (lv_at hl 0 rfl) ?_
      refine va_get (pc := 29) (D := (dC, dI)) (ci := 6) (v := .ref q_o_drawing) (C := "PathTexts") (T := F_P) (N := 7) hx hb hts (fun w h => List.mem_cons_of_mem _ (in_P w h)) hown hK hP 0 rfl rfl 5 (by decide) (hts _ (List.mem_cons_of_mem _ kw_191)) (fun _ h9 => h9) fg_P_5 d_xP_addGiven_29 ?_
      refine va_get (pc := 32) (D := (dC, dI)) (ci := 1) (v := .int v_o_drawing_count) (C := "PathTexts$Drawing") (T := F_Drawing) (N := 3) hx hb hts (fun w h => List.mem_cons_of_mem _ (in_Drawing w h)) hown hK hP 2 rfl rfl 2 (by decide) (hts _ (List.mem_cons_of_mem _ kw_178)) (fun _ h9 => h9) fg_Drawing_2 d_xP_addGiven_32 ?_
      refine lv_if_ne (pc := 35) (tgt := 48) hx hb d_xP_addGiven_35 (by decide) (fun hc => ?_) (fun hc => ?_)
      · rw [if_neg hc] at hf
        exfalso
        exact nb48 x1 c_o_given v_o_drawing_count c_o_drawing_numbers c_o_drawing_kinds hf
      · rw [if_pos hc] at hf
        obtain ⟨e_0, e_1, e_2, e_3, e_4⟩ := kr5 hf
        obtain ⟨sa, hsa⟩ := hF.2.2.2.1 (153, "there is no MOVE yet") (List.mem_of_getElem? (i := 3) rfl)
        rw [hQ]
        exact kt_throw (pc := 38) hx hb hfl (own := "PathTexts") (text := "there is no MOVE yet") (names := ["java/lang/RuntimeException", "java/lang/Exception"]) (ik := 151) (is := 153) (ic := 155) hown (by decide +kernel) (by decide +kernel) (hts _ (List.mem_cons_of_mem _ kw_522)) (hts _ (List.mem_cons_of_mem _ kw_16)) (ks_any hsa.1) (oa_2 (fun w h => hts w (List.mem_cons_of_mem _ h)) (kf_sp hF) hF.2.2.2.2.1 (hts _ (List.mem_cons_of_mem _ kw_532))) htab hlocks (hl.1.trans hml.symm) d_xP_addGiven_38 d_xP_addGiven_41 d_xP_addGiven_42 d_xP_addGiven_44 d_xP_addGiven_47 (Nat.le_of_ble_eq_true rfl) (Nat.le_of_ble_eq_true rfl) (Nat.le_of_ble_eq_true rfl) (Nat.le_of_ble_eq_true rfl) (fun t ha hz hq => ⟨⟨hz, fun q h _ => hq q h⟩, by rw [← e_2, ← e_3, ← e_4]; exact (va_P.kept hP (fun k q9 hk => hq q9.1 (hP k q9 hk).lt))⟩)
  · rw [if_pos hc] at hf
    exact absurd (kr5 hf).1 (by decide)
set_option maxHeartbeats 4000000 in
set_option maxRecDepth 100000 in
theorem cx_xP_addGiven_3 (l : Launch) (dC : Nat → ClassId) (dI : Nat → Nat → Nat) (q_o : Nat) (q_o_text : Nat) (q_o_written : Nat) (q_o_reader : Nat) (q_o_cover : Nat) (q_o_given : Nat) (q_o_drawing : Nat) (q_o_spare : Nat) (q_o_drawing_kinds : Nat) (q_o_drawing_numbers : Nat) (k_o_given : ClassId) (k_o_drawing_numbers : ClassId) (k_o_drawing_kinds : ClassId) (tt : Nat) (N : Nat) (x1 : Int32) (c_o_given : (Nat → Int64)) (v_o_drawing_count : Int32) (c_o_drawing_numbers : (Nat → Int32)) (c_o_drawing_kinds : (Nat → Int32)) (rv : Int32) (v_o_drawing_count_z : Int32) (c_o_drawing_numbers_z : (Nat → Int32)) (c_o_drawing_kinds_z : (Nat → Int32)) (hfl : l.flags = flags0) (hf : xP_addGiven N x1 c_o_given v_o_drawing_count c_o_drawing_numbers c_o_drawing_kinds = some (3, rv, v_o_drawing_count_z, c_o_drawing_numbers_z, c_o_drawing_kinds_z)) : kt_Met l y_xP_addGiven w_xP_addGiven ({ frames := 6, cells := 1, slots := 6, locals := 82 }) (va_Pc [.ref q_o, .int x1] (fun U => va_P (dC, dI) clz [(q_o, .inr (6, f_P q_o_text q_o_written q_o_reader q_o_cover q_o_given q_o_drawing q_o_spare)), (q_o_given, .inl (k_o_given, 6, .inr (.inl c_o_given))), (q_o_drawing, .inr (1, f_Drawing q_o_drawing_kinds q_o_drawing_numbers v_o_drawing_count)), (q_o_drawing_numbers, .inl (k_o_drawing_numbers, 900, .inl c_o_drawing_numbers)), (q_o_drawing_kinds, .inl (k_o_drawing_kinds, 150, .inl c_o_drawing_kinds))] U.heap ∧ va_K (dC, dI) clz [(k_o_given, .long), (k_o_drawing_numbers, .int), (k_o_drawing_kinds, .int)] U ∧ kf tt (fun _ => False) U)) "java/lang/UnsupportedOperationException" (fun st t => va_F (fun _ => False) st t ∧ va_P (dC, dI) clz [(q_o, .inr (6, f_P q_o_text q_o_written q_o_reader q_o_cover q_o_given q_o_drawing q_o_spare)), (q_o_given, .inl (k_o_given, 6, .inr (.inl c_o_given))), (q_o_drawing, .inr (1, f_Drawing q_o_drawing_kinds q_o_drawing_numbers v_o_drawing_count_z)), (q_o_drawing_numbers, .inl (k_o_drawing_numbers, 900, .inl c_o_drawing_numbers_z)), (q_o_drawing_kinds, .inl (k_o_drawing_kinds, 150, .inl c_o_drawing_kinds_z))] t.heap) 1 6 (fun _ => False) := by
  refine kt_ofW (cc := prog_1_method_17_code) (maxL := 2) (ret := (some .int)) (by decide +kernel) rfl ?_
  intro p e s m args below meth c s₁ B hml htab hv
  obtain ⟨hargs, hP, hK, hF⟩ := hv
  have hE := hF.1
  have hx := B.exec
  have hb := B.bytes
  have hr := B.returns
  have hts := atoms_spec (ws := w_xP_addGiven) B.pre
  have hown : s.vm.findClass "PathTexts" = some m.cls := findClass_of_methodNamed B.named
  have hlocks := B.notSynchronized
  have hS : va_S (fun _ => False) s.heap s.heap [] := va_S.rf
  have hl := lv_entry ([.ref q_o, .int x1]) (n := 2) (Nat.le_of_ble_eq_true rfl)
  have hent : entryFrame m args 2 = F0 m 0 (lg_sl ([.ref q_o, .int x1]) ++ List.replicate (2 - (lg_sl ([.ref q_o, .int x1])).length) Slot.unset).toArray [] := by rw [hargs, lg_entry_eq]
  rw [hent]
  clear hent hargs
  generalize (lg_sl ([.ref q_o, .int x1]) ++ List.replicate (2 - (lg_sl ([.ref q_o, .int x1])).length) Slot.unset).toArray = ls at hl ⊢
  have hl : lv_has ls 2 [(0, .ref q_o), (1, .int x1)] := hl
  obtain ⟨Q, hQ⟩ : ∃ Q, Q = kt_MQ below "java/lang/UnsupportedOperationException" (fun st t => va_F (fun _ => False) st t ∧ va_P (dC, dI) clz [(q_o, .inr (6, f_P q_o_text q_o_written q_o_reader q_o_cover q_o_given q_o_drawing q_o_spare)), (q_o_given, .inl (k_o_given, 6, .inr (.inl c_o_given))), (q_o_drawing, .inr (1, f_Drawing q_o_drawing_kinds q_o_drawing_numbers v_o_drawing_count_z)), (q_o_drawing_numbers, .inl (k_o_drawing_numbers, 900, .inl c_o_drawing_numbers_z)), (q_o_drawing_kinds, .inl (k_o_drawing_kinds, 150, .inl c_o_drawing_kinds_z))] t.heap) s 1 6 (fun _ => False) := ⟨_, rfl⟩
  rw [← hQ]
  have hb48 : ∀ (x1 : Int32) (ls : Array Slot), xP_addGiven_b48 N x1 c_o_given v_o_drawing_count c_o_drawing_numbers c_o_drawing_kinds = some (3, rv, v_o_drawing_count_z, c_o_drawing_numbers_z, c_o_drawing_kinds_z) → lv_has ls 2 [(0, .ref q_o), (1, .int x1)] → W p l e (headSpec w_xP_addGiven ({ frames := 6, cells := 1, slots := 6, locals := 82 })).room s m args below meth c s.heap [] 0 0 Q (F0 m 48 ls []) := by
    intro x1 ls hf hl
    rw [xP_addGiven_b48] at hf
    refine lv_aload_n (pc := 48) hx hb d_xP_addGiven_48 rfl (lv_at hl 0 rfl) ?_
    refine va_get (pc := 49) (D := (dC, dI)) (ci := 6) (v := .ref q_o_drawing) (C := "PathTexts") (T := F_P) (N := 7) hx hb hts (fun w h => List.mem_cons_of_mem _ (in_P w h)) hown hK hP 0 rfl rfl 5 (by decide) (hts _ (List.mem_cons_of_mem _ kw_191)) (fun _ h9 => h9) fg_P_5 d_xP_addGiven_49 ?_
    refine lv_iload_n (pc := 52) hx hb d_xP_addGiven_52 rfl (lv_at hl 1 rfl) ?_
    refine lv_aload_n (pc := 53) hx hb d_xP_addGiven_53 rfl (lv_at hl 0 rfl) ?_
    refine va_get (pc := 54) (D := (dC, dI)) (ci := 6) (v := .ref q_o_given) (C := "PathTexts") (T := F_P) (N := 7) hx hb hts (fun w h => List.mem_cons_of_mem _ (in_P w h)) hown hK hP 0 rfl rfl 4 (by decide) (hts _ (List.mem_cons_of_mem _ kw_190)) (fun _ h9 => h9) fg_P_4 d_xP_addGiven_54 ?_
    obtain ⟨r57, v_o_drawing_count_57, c_o_drawing_numbers_57, c_o_drawing_kinds_57, hz, hf⟩ := kb4_some hf
    by_cases hr0 : r57 = (0 : Int32)
    · subst hr0
      obtain ⟨z_0, z_1, z_2⟩ := zz_xDrawing_add hz
      have hPc := hP.sub (ws' := [(q_o_drawing, .inr (1, f_Drawing q_o_drawing_kinds q_o_drawing_numbers v_o_drawing_count)), (q_o_drawing_numbers, .inl (k_o_drawing_numbers, 900, .inl c_o_drawing_numbers)), (q_o_drawing_kinds, .inl (k_o_drawing_kinds, 150, .inl c_o_drawing_kinds)), (q_o_given, .inl (k_o_given, 6, .inr (.inl c_o_given)))]) [2, 3, 4, 1] rfl
      have hKc := hK.sub (tys' := [(k_o_drawing_numbers, .int), (k_o_drawing_kinds, .int), (k_o_given, .long)]) [1, 2, 0] rfl
      refine W.callR (g := F0 m 57 ls [.ref q_o_given, .int x1, .ref q_o_drawing]) (va_Run.run (va_runV (As := [.int x1, .ref q_o_given]) (rest := []) ⟨hx, hb, hml, hown, hts⟩ (cr_xDrawing_add l dC dI q_o_drawing q_o_drawing_kinds q_o_drawing_numbers q_o_given k_o_drawing_numbers k_o_drawing_kinds k_o_given tt N x1 v_o_drawing_count c_o_drawing_numbers c_o_drawing_kinds c_o_given v_o_drawing_count_57 c_o_drawing_numbers_57 c_o_drawing_kinds_57 hz) (cwV 2 hts (kw_in4 kw_538 kw_337 kw_338 kw_7 kw_339) rfl rfl rfl (by decide +kernel) ⟨Nat.le_of_ble_eq_true rfl, Nat.le_of_ble_eq_true rfl⟩) (kre_preV hPc hKc hE 0 rfl rfl) rfl rfl hl.1 rfl (lv_room (Nat.le_of_ble_eq_true rfl)) d_xP_addGiven_57 ⟨Nat.le_of_ble_eq_true rfl, Nat.le_of_ble_eq_true rfl⟩)) ?_
      refine W.eq (g2 := F0 m 60 ls [.int (0 : Int32)]) rfl ?_
      clear hPc hKc hz
      refine lv_if_ne (pc := 60) (tgt := 73) hx hb d_xP_addGiven_60 (by decide) (fun hc => ?_) (fun hc => ?_)
      · rw [if_neg hc] at hf
        exfalso
        exact absurd (kr5 hf).1 (by decide)
      · rw [if_pos hc] at hf
        obtain ⟨e_0, e_1, e_2, e_3, e_4⟩ := kr5 hf
        obtain ⟨sa, hsa⟩ := hF.2.2.2.1 (160, "there are 150 commands") (List.mem_of_getElem? (i := 4) rfl)
        rw [hQ]
        exact kt_throw (pc := 63) hx hb hfl (own := "PathTexts") (text := "there are 150 commands") (names := ["java/lang/RuntimeException", "java/lang/Exception"]) (ik := 66) (is := 160) (ic := 70) hown (by decide +kernel) (by decide +kernel) (hts _ (List.mem_cons_of_mem _ kw_491)) (hts _ (List.mem_cons_of_mem _ kw_13)) (ks_any hsa.1) (oa_3 (fun w h => hts w (List.mem_cons_of_mem _ h)) (kf_sp hF) hF.2.2.2.2.1 (hts _ (List.mem_cons_of_mem _ kw_501))) htab hlocks (hl.1.trans hml.symm) d_xP_addGiven_63 d_xP_addGiven_66 d_xP_addGiven_67 d_xP_addGiven_69 d_xP_addGiven_72 (Nat.le_of_ble_eq_true rfl) (Nat.le_of_ble_eq_true rfl) (Nat.le_of_ble_eq_true rfl) (Nat.le_of_ble_eq_true rfl) (fun t ha hz hq => ⟨⟨hz, fun q h _ => hq q h⟩, by rw [← e_2, ← e_3, ← e_4, z_0, z_1, z_2]; exact (va_P.kept hP (fun k q9 hk => hq q9.1 (hP k q9 hk).lt))⟩)
    · rw [if_neg hr0] at hf
      exact absurd (kr5 hf).1 (by decide)
  rw [xP_addGiven] at hf
  refine lv_aload_n (pc := 0) hx hb d_xP_addGiven_0 rfl (lv_at hl 0 rfl) ?_
  refine va_get (pc := 1) (D := (dC, dI)) (ci := 6) (v := .ref q_o_given) (C := "PathTexts") (T := F_P) (N := 7) hx hb hts (fun w h => List.mem_cons_of_mem _ (in_P w h)) hown hK hP 0 rfl rfl 4 (by decide) (hts _ (List.mem_cons_of_mem _ kw_190)) (fun _ h9 => h9) fg_P_4 d_xP_addGiven_1 ?_
  refine lv_iload_n (pc := 4) hx hb d_xP_addGiven_4 rfl (lv_at hl 1 rfl) ?_
  obtain ⟨r5, hz, hf⟩ := kb1_some hf
  have hPc := hP.sub (ws' := []) [] rfl
  have hKc := hK.sub (tys' := []) [] rfl
  refine W.callR (g := F0 m 5 ls [.int x1, .ref q_o_given]) (va_Run.run (va_runS (As := [.int x1]) (rest := [.ref q_o_given]) ⟨hx, hb, hml, hown, hts⟩ (cr_xP_numbersOf l dC dI x1 r5 hz) (va_cwS 1 hts (kw_in3 kw_519 kw_333 kw_1 kw_334) rfl rfl rfl (by decide +kernel) ⟨Nat.le_of_ble_eq_true rfl, Nat.le_of_ble_eq_true rfl⟩) (kr_pre hPc hKc) rfl rfl hl.1 rfl (lv_room (Nat.le_of_ble_eq_true rfl)) d_xP_addGiven_5 ⟨Nat.le_of_ble_eq_true rfl, Nat.le_of_ble_eq_true rfl⟩)) ?_
  refine W.eq (g2 := F0 m 8 ls [.int r5, .ref q_o_given]) rfl ?_
  clear hPc hKc hz
  obtain ⟨r8, hz, hf⟩ := kb1_some hf
  have hPc := hP.sub (ws' := [(q_o_given, .inl (k_o_given, 6, .inr (.inl c_o_given)))]) [1] rfl
  have hKc := hK.sub (tys' := [(k_o_given, .long)]) [0] rfl
  refine W.callR (g := F0 m 8 ls [.int r5, .ref q_o_given]) (va_Run.run (va_runS (As := [.ref q_o_given, .int r5]) (rest := []) ⟨hx, hb, hml, hown, hts⟩ (cr_xP_areNumbers l dC dI q_o_given k_o_given N r5 c_o_given r8 hz) (va_cwS 2 hts (kw_in3 kw_520 kw_342 kw_1 kw_343) rfl rfl rfl (by decide +kernel) ⟨Nat.le_of_ble_eq_true rfl, Nat.le_of_ble_eq_true rfl⟩) (kr_pre hPc hKc) rfl rfl hl.1 rfl (lv_room (Nat.le_of_ble_eq_true rfl)) d_xP_addGiven_8 ⟨Nat.le_of_ble_eq_true rfl, Nat.le_of_ble_eq_true rfl⟩)) ?_
  refine W.eq (g2 := F0 m 11 ls [.int r8]) rfl ?_
  clear hPc hKc hz
  refine lv_if_ne (pc := 11) (tgt := 24) hx hb d_xP_addGiven_11 (by decide) (fun hc => ?_) (fun hc => ?_)
  · rw [if_neg hc] at hf
    refine lv_iload_n (pc := 24) hx hb d_xP_addGiven_24 rfl (lv_at hl 1 rfl) ?_
    refine lv_if_eq (pc := 25) (tgt := 48) hx hb d_xP_addGiven_25 (by decide) (fun hc => ?_) (fun hc => ?_)
    · rw [if_pos hc] at hf
      exact hb48 x1 _ hf (lv_sub hl [0, 1] rfl)
    · rw [if_neg hc] at hf
      refine lv_aload_n (pc := 28) hx hb d_xP_addGiven_28 rfl (lv_at hl 0 rfl) ?_
      refine va_get (pc := 29) (D := (dC, dI)) (ci := 6) (v := .ref q_o_drawing) (C := "PathTexts") (T := F_P) (N := 7) hx hb hts (fun w h => List.mem_cons_of_mem _ (in_P w h)) hown hK hP 0 rfl rfl 5 (by decide) (hts _ (List.mem_cons_of_mem _ kw_191)) (fun _ h9 => h9) fg_P_5 d_xP_addGiven_29 ?_
      refine va_get (pc := 32) (D := (dC, dI)) (ci := 1) (v := .int v_o_drawing_count) (C := "PathTexts$Drawing") (T := F_Drawing) (N := 3) hx hb hts (fun w h => List.mem_cons_of_mem _ (in_Drawing w h)) hown hK hP 2 rfl rfl 2 (by decide) (hts _ (List.mem_cons_of_mem _ kw_178)) (fun _ h9 => h9) fg_Drawing_2 d_xP_addGiven_32 ?_
      refine lv_if_ne (pc := 35) (tgt := 48) hx hb d_xP_addGiven_35 (by decide) (fun hc => ?_) (fun hc => ?_)
      · rw [if_neg hc] at hf
        exact hb48 x1 _ hf (lv_sub hl [0, 1] rfl)
      · rw [if_pos hc] at hf
        exact absurd (kr5 hf).1 (by decide)
  · rw [if_pos hc] at hf
    exact absurd (kr5 hf).1 (by decide)
set_option maxHeartbeats 4000000 in
set_option maxRecDepth 100000 in
theorem cx_xP_text_1 (l : Launch) (dC : Nat → ClassId) (dI : Nat → Nat → Nat) (q_o : Nat) (q_o_text : Nat) (q_o_written : Nat) (q_o_reader : Nat) (q_o_cover : Nat) (q_o_given : Nat) (q_o_drawing : Nat) (q_o_spare : Nat) (q_o_text_characters : Nat) (k_o_text_characters : ClassId) (tt : Nat) (N : Nat) (x1 : Int64) (v_o_text_length : Int32) (c_o_text_characters : (Nat → Int32)) (rv : Int32) (v_o_text_length_z : Int32) (c_o_text_characters_z : (Nat → Int32)) (hfl : l.flags = flags0) (hf : xP_text N x1 v_o_text_length c_o_text_characters = some (1, rv, v_o_text_length_z, c_o_text_characters_z)) : kt_Met l y_xP_text w_xP_text ({ frames := 6, cells := 1, slots := 6, locals := 82 }) (va_Pc [.ref q_o, .long x1] (fun U => va_P (dC, dI) clz [(q_o, .inr (6, f_P q_o_text q_o_written q_o_reader q_o_cover q_o_given q_o_drawing q_o_spare)), (q_o_text, .inr (5, f_Row q_o_text_characters v_o_text_length)), (q_o_text_characters, .inl (k_o_text_characters, 1200, .inl c_o_text_characters))] U.heap ∧ va_K (dC, dI) clz [(k_o_text_characters, .char)] U ∧ kf tt (fun _ => False) U)) "java/lang/IllegalArgumentException" (fun st t => va_F (fun _ => False) st t ∧ va_P (dC, dI) clz [(q_o, .inr (6, f_P q_o_text q_o_written q_o_reader q_o_cover q_o_given q_o_drawing q_o_spare)), (q_o_text, .inr (5, f_Row q_o_text_characters v_o_text_length_z)), (q_o_text_characters, .inl (k_o_text_characters, 1200, .inl c_o_text_characters_z))] t.heap) 1 6 (fun _ => False) := by
  refine kt_ofW (cc := prog_1_method_2_code) (maxL := 6) (ret := (some .int)) (by decide +kernel) rfl ?_
  intro p e s m args below meth c s₁ B hml htab hv
  obtain ⟨hargs, hP, hK, hF⟩ := hv
  have hE := hF.1
  have hx := B.exec
  have hb := B.bytes
  have hr := B.returns
  have hts := atoms_spec (ws := w_xP_text) B.pre
  have hown : s.vm.findClass "PathTexts" = some m.cls := findClass_of_methodNamed B.named
  have hlocks := B.notSynchronized
  have hS : va_S (fun _ => False) s.heap s.heap [] := va_S.rf
  have hl := lv_entry ([.ref q_o, .long x1]) (n := 6) (Nat.le_of_ble_eq_true rfl)
  have hent : entryFrame m args 6 = F0 m 0 (lg_sl ([.ref q_o, .long x1]) ++ List.replicate (6 - (lg_sl ([.ref q_o, .long x1])).length) Slot.unset).toArray [] := by rw [hargs, lg_entry_eq]
  rw [hent]
  clear hent hargs
  generalize (lg_sl ([.ref q_o, .long x1]) ++ List.replicate (6 - (lg_sl ([.ref q_o, .long x1])).length) Slot.unset).toArray = ls at hl ⊢
  have hl : lv_has ls 6 [(0, .ref q_o), (1, .long x1)] := hl
  obtain ⟨Q, hQ⟩ : ∃ Q, Q = kt_MQ below "java/lang/IllegalArgumentException" (fun st t => va_F (fun _ => False) st t ∧ va_P (dC, dI) clz [(q_o, .inr (6, f_P q_o_text q_o_written q_o_reader q_o_cover q_o_given q_o_drawing q_o_spare)), (q_o_text, .inr (5, f_Row q_o_text_characters v_o_text_length_z)), (q_o_text_characters, .inl (k_o_text_characters, 1200, .inl c_o_text_characters_z))] t.heap) s 1 6 (fun _ => False) := ⟨_, rfl⟩
  rw [← hQ]
  have nB86 : ∀ (k86 : Int64 → Int32 → Int32 → (Nat → Int32) → Option (Nat × Int32 × Int32 × (Nat → Int32))), (∀ (x1 : Int64) (x4 : Int32) (v_o_text_length : Int32) (c_o_text_characters : (Nat → Int32)), k86 x1 x4 v_o_text_length c_o_text_characters = some (1, rv, v_o_text_length_z, c_o_text_characters_z) → False) → ∀ (x1 : Int64) (x4 : Int32) (v_o_text_length : Int32) (c_o_text_characters : (Nat → Int32)), xP_text_B86 N k86 x1 x4 v_o_text_length c_o_text_characters = some (1, rv, v_o_text_length_z, c_o_text_characters_z) → False := by
    intro k86 nk86
    intro x1 x4 v_o_text_length c_o_text_characters hf
    rw [xP_text_B86] at hf
    by_cases hq : (8 : Int32) ≤ x4
    · rw [if_pos hq] at hf
      exact absurd (kr4 hf).1 (by decide)
    · rw [if_neg hq] at hf
      obtain ⟨r96, -, hf⟩ := kb1_some hf
      by_cases hq : r96 = (0 : Int32)
      · rw [if_pos hq] at hf
        exact nk86 x1 (x4 + (1 : Int32)) v_o_text_length c_o_text_characters hf
      · rw [if_neg hq] at hf
        obtain ⟨v_o_text_length_112, c_o_text_characters_112, -, hf⟩ := kb2_some hf
        exact nk86 x1 (x4 + (1 : Int32)) v_o_text_length_112 c_o_text_characters_112 hf
  have nL86 : ∀ n : Nat, ∀ (x1 : Int64) (x4 : Int32) (v_o_text_length : Int32) (c_o_text_characters : (Nat → Int32)), xP_text_L86 N n x1 x4 v_o_text_length c_o_text_characters = some (1, rv, v_o_text_length_z, c_o_text_characters_z) → False := by
    intro n
    induction n with
    | zero => intro x1 x4 v_o_text_length c_o_text_characters hf; have hf : none = some (1, rv, v_o_text_length_z, c_o_text_characters_z) := hf; cases hf
    | succ n ih => exact nB86 (xP_text_L86 N n) ih
  have hb39 : ∀  (ls : Array Slot), xP_text_b39 N v_o_text_length c_o_text_characters = some (1, rv, v_o_text_length_z, c_o_text_characters_z) → lv_has ls 6 [] → W p l e (headSpec w_xP_text ({ frames := 6, cells := 1, slots := 6, locals := 82 })).room s m args below meth c s.heap [] 0 0 Q (F0 m 39 ls []) := by
    intro  ls hf hl
    rw [xP_text_b39] at hf
    obtain ⟨e_0, e_1, e_2, e_3⟩ := kr4 hf
    obtain ⟨sa, hsa⟩ := hF.2.2.2.1 (57, "a character is not 32 .. 126") (List.mem_of_getElem? (i := 0) rfl)
    rw [hQ]
    exact kt_throw (pc := 39) hx hb hfl (own := "PathTexts") (text := "a character is not 32 .. 126") (names := ["java/lang/RuntimeException", "java/lang/Exception"]) (ik := 55) (is := 57) (ic := 59) hown (by decide +kernel) (by decide +kernel) (hts _ (List.mem_cons_of_mem _ kw_422)) (hts _ (List.mem_cons_of_mem _ kw_12)) (ks_any hsa.1) (oa_1 (fun w h => hts w (List.mem_cons_of_mem _ h)) (kf_sp hF) hF.2.2.2.2.1 (hts _ (List.mem_cons_of_mem _ kw_465))) htab hlocks (hl.1.trans hml.symm) d_xP_text_39 d_xP_text_42 d_xP_text_43 d_xP_text_45 d_xP_text_48 (Nat.le_of_ble_eq_true rfl) (Nat.le_of_ble_eq_true rfl) (Nat.le_of_ble_eq_true rfl) (Nat.le_of_ble_eq_true rfl) (fun t ha hz hq => ⟨⟨hz, fun q h _ => hq q h⟩, by rw [← e_2, ← e_3]; exact (va_P.kept hP (fun k q9 hk => hq q9.1 (hP k q9 hk).lt))⟩)
  have hB5 : ∀ (k5 : Int64 → Int32 → Int32 → Int32 → (Nat → Int32) → Option (Nat × Int32 × Int32 × (Nat → Int32))), (∀ (x1 : Int64) (x3 : Int32) (x4 : Int32) (ls : Array Slot), k5 x1 x3 x4 v_o_text_length c_o_text_characters = some (1, rv, v_o_text_length_z, c_o_text_characters_z) → lv_has ls 6 [(0, .ref q_o), (1, .long x1), (3, .int x3), (4, .int x4)] → W p l e (headSpec w_xP_text ({ frames := 6, cells := 1, slots := 6, locals := 82 })).room s m args below meth c s.heap [] 0 0 Q (F0 m 5 ls [])) → ∀ (x1 : Int64) (x3 : Int32) (x4 : Int32) (ls : Array Slot), xP_text_B5 N k5 x1 x3 x4 v_o_text_length c_o_text_characters = some (1, rv, v_o_text_length_z, c_o_text_characters_z) → lv_has ls 6 [(0, .ref q_o), (1, .long x1), (3, .int x3), (4, .int x4)] → W p l e (headSpec w_xP_text ({ frames := 6, cells := 1, slots := 6, locals := 82 })).room s m args below meth c s.heap [] 0 0 Q (F0 m 5 ls []) := by
    intro k5 hk5
    intro x1 x3 x4 ls hf hl
    rw [xP_text_B5] at hf
    refine lv_iload (pc := 5) hx hb d_xP_text_5 (lv_at hl 3 rfl) ?_
    refine lv_bipush (pc := 7) (v := (8 : Int32)) hx hb d_xP_text_7 (by decide) ?_
    refine lv_icmp_ge (pc := 9) (tgt := 58) hx hb d_xP_text_9 (by decide) (fun hc => ?_) (fun hc => ?_)
    · rw [if_pos hc] at hf
      exfalso
      by_cases hq : (v_o_text_length + x3) ≤ (1200 : Int32)
      · rw [if_pos hq] at hf
        exact nL86 N x1 (0 : Int32) v_o_text_length c_o_text_characters hf
      · rw [if_neg hq] at hf
        exact absurd (kr4 hf).1 (by decide)
    · rw [if_neg hc] at hf
      refine lv_lload_n (pc := 12) hx hb d_xP_text_12 rfl (lv_at hl 1 rfl) ?_
      refine lv_iload (pc := 13) hx hb d_xP_text_13 (lv_at hl 3 rfl) ?_
      obtain ⟨r15, hz, hf⟩ := kb1_some hf
      have hPc := hP.sub (ws' := []) [] rfl
      have hKc := hK.sub (tys' := []) [] rfl
      refine W.callR (g := F0 m 15 ls [.int x4, .long x1]) (va_Run.run (va_runS (As := [.long x1, .int x4]) (rest := []) ⟨hx, hb, hml, hown, hts⟩ (cr_xP_byteOf l dC dI x1 x4 r15 hz) (va_cwS 2 hts (kw_in3 kw_419 kw_420 kw_1 kw_421) rfl rfl rfl (by decide +kernel) ⟨Nat.le_of_ble_eq_true rfl, Nat.le_of_ble_eq_true rfl⟩) (kr_pre hPc hKc) rfl rfl hl.1 rfl (lv_room (Nat.le_of_ble_eq_true rfl)) d_xP_text_15 ⟨Nat.le_of_ble_eq_true rfl, Nat.le_of_ble_eq_true rfl⟩)) ?_
      refine W.eq (g2 := F0 m 18 ls [.int r15]) rfl ?_
      clear hPc hKc hz
      refine lv_istore (pc := 18) (lv' := [(5, .int r15), (0, .ref q_o), (1, .long x1), (3, .int x3), (4, .int x4)]) hx hb d_xP_text_18 hl (by decide) rfl (fun ls hl => ?_)
      refine lv_iload (pc := 20) hx hb d_xP_text_20 (lv_at hl 0 rfl) ?_
      refine lv_if_eq (pc := 22) (tgt := 52) hx hb d_xP_text_22 (by decide) (fun hc => ?_) (fun hc => ?_)
      · rw [if_pos hc] at hf
        refine lv_iinc (pc := 52) (v := (x4 + (1 : Int32))) (lv' := [(4, .int (x4 + (1 : Int32))), (5, .int r15), (0, .ref q_o), (1, .long x1), (3, .int x3)]) hx hb d_xP_text_52 hl (k := 4) rfl rfl (by decide) rfl (fun ls hl => ?_)
        refine lv_goto (pc := 55) (tgt := 5) hx hb d_xP_text_55 (by decide) ?_
        exact hk5 x1 x3 (x4 + (1 : Int32)) _ hf (lv_sub hl [2, 3, 4, 0] rfl)
      · rw [if_neg hc] at hf
        refine lv_iload (pc := 25) hx hb d_xP_text_25 (lv_at hl 0 rfl) ?_
        refine lv_bipush (pc := 27) (v := (32 : Int32)) hx hb d_xP_text_27 (by decide) ?_
        refine lv_icmp_lt (pc := 29) (tgt := 39) hx hb d_xP_text_29 (by decide) (fun hc => ?_) (fun hc => ?_)
        · rw [if_pos hc] at hf
          exact hb39 _ hf (lv_sub hl [] rfl)
        · rw [if_neg hc] at hf
          refine lv_iload (pc := 32) hx hb d_xP_text_32 (lv_at hl 0 rfl) ?_
          refine lv_bipush (pc := 34) (v := (126 : Int32)) hx hb d_xP_text_34 (by decide) ?_
          refine lv_icmp_le (pc := 36) (tgt := 49) hx hb d_xP_text_36 (by decide) (fun hc => ?_) (fun hc => ?_)
          · rw [if_pos hc] at hf
            refine lv_iinc (pc := 49) (v := (x3 + (1 : Int32))) (lv' := [(3, .int (x3 + (1 : Int32))), (5, .int r15), (0, .ref q_o), (1, .long x1), (4, .int x4)]) hx hb d_xP_text_49 hl (k := 3) rfl rfl (by decide) rfl (fun ls hl => ?_)
            refine lv_iinc (pc := 52) (v := (x4 + (1 : Int32))) (lv' := [(4, .int (x4 + (1 : Int32))), (3, .int (x3 + (1 : Int32))), (5, .int r15), (0, .ref q_o), (1, .long x1)]) hx hb d_xP_text_52 hl (k := 4) rfl rfl (by decide) rfl (fun ls hl => ?_)
            refine lv_goto (pc := 55) (tgt := 5) hx hb d_xP_text_55 (by decide) ?_
            exact hk5 x1 (x3 + (1 : Int32)) (x4 + (1 : Int32)) _ hf (lv_sub hl [3, 4, 1, 0] rfl)
          · rw [if_neg hc] at hf
            exact hb39 _ hf (lv_sub hl [] rfl)
  have hL5 : ∀ n : Nat, ∀ (x1 : Int64) (x3 : Int32) (x4 : Int32) (ls : Array Slot), (xP_text_L5 N n) x1 x3 x4 v_o_text_length c_o_text_characters = some (1, rv, v_o_text_length_z, c_o_text_characters_z) → lv_has ls 6 [(0, .ref q_o), (1, .long x1), (3, .int x3), (4, .int x4)] → W p l e (headSpec w_xP_text ({ frames := 6, cells := 1, slots := 6, locals := 82 })).room s m args below meth c s.heap [] 0 0 Q (F0 m 5 ls []) := by
    intro n
    induction n with
    | zero => intro x1 x3 x4 ls hf hl; have hf : none = some (1, rv, v_o_text_length_z, c_o_text_characters_z) := hf; cases hf
    | succ n ih => exact hB5 (xP_text_L5 N n) ih
  rw [xP_text] at hf
  refine lv_iconst (pc := 0) (v := (0 : Int32)) hx hb d_xP_text_0 (by decide) ?_
  refine lv_istore_n (pc := 1) (lv' := [(3, .int (0 : Int32)), (0, .ref q_o), (1, .long x1)]) hx hb d_xP_text_1 rfl hl (by decide) rfl (fun ls hl => ?_)
  refine lv_iconst (pc := 2) (v := (0 : Int32)) hx hb d_xP_text_2 (by decide) ?_
  refine lv_istore (pc := 3) (lv' := [(4, .int (0 : Int32)), (3, .int (0 : Int32)), (0, .ref q_o), (1, .long x1)]) hx hb d_xP_text_3 hl (by decide) rfl (fun ls hl => ?_)
  exact hL5 N x1 (0 : Int32) (0 : Int32) _ hf (lv_sub hl [2, 3, 1, 0] rfl)
set_option maxHeartbeats 4000000 in
set_option maxRecDepth 100000 in
theorem cx_xP_text_3 (l : Launch) (dC : Nat → ClassId) (dI : Nat → Nat → Nat) (q_o : Nat) (q_o_text : Nat) (q_o_written : Nat) (q_o_reader : Nat) (q_o_cover : Nat) (q_o_given : Nat) (q_o_drawing : Nat) (q_o_spare : Nat) (q_o_text_characters : Nat) (k_o_text_characters : ClassId) (tt : Nat) (N : Nat) (x1 : Int64) (v_o_text_length : Int32) (c_o_text_characters : (Nat → Int32)) (rv : Int32) (v_o_text_length_z : Int32) (c_o_text_characters_z : (Nat → Int32)) (hfl : l.flags = flags0) (hf : xP_text N x1 v_o_text_length c_o_text_characters = some (3, rv, v_o_text_length_z, c_o_text_characters_z)) : kt_Met l y_xP_text w_xP_text ({ frames := 6, cells := 1, slots := 6, locals := 82 }) (va_Pc [.ref q_o, .long x1] (fun U => va_P (dC, dI) clz [(q_o, .inr (6, f_P q_o_text q_o_written q_o_reader q_o_cover q_o_given q_o_drawing q_o_spare)), (q_o_text, .inr (5, f_Row q_o_text_characters v_o_text_length)), (q_o_text_characters, .inl (k_o_text_characters, 1200, .inl c_o_text_characters))] U.heap ∧ va_K (dC, dI) clz [(k_o_text_characters, .char)] U ∧ kf tt (fun _ => False) U)) "java/lang/UnsupportedOperationException" (fun st t => va_F (fun _ => False) st t ∧ va_P (dC, dI) clz [(q_o, .inr (6, f_P q_o_text q_o_written q_o_reader q_o_cover q_o_given q_o_drawing q_o_spare)), (q_o_text, .inr (5, f_Row q_o_text_characters v_o_text_length_z)), (q_o_text_characters, .inl (k_o_text_characters, 1200, .inl c_o_text_characters_z))] t.heap) 1 6 (fun _ => False) := by
  refine kt_ofW (cc := prog_1_method_2_code) (maxL := 6) (ret := (some .int)) (by decide +kernel) rfl ?_
  intro p e s m args below meth c s₁ B hml htab hv
  obtain ⟨hargs, hP, hK, hF⟩ := hv
  have hE := hF.1
  have hx := B.exec
  have hb := B.bytes
  have hr := B.returns
  have hts := atoms_spec (ws := w_xP_text) B.pre
  have hown : s.vm.findClass "PathTexts" = some m.cls := findClass_of_methodNamed B.named
  have hlocks := B.notSynchronized
  have hS : va_S (fun _ => False) s.heap s.heap [] := va_S.rf
  have hl := lv_entry ([.ref q_o, .long x1]) (n := 6) (Nat.le_of_ble_eq_true rfl)
  have hent : entryFrame m args 6 = F0 m 0 (lg_sl ([.ref q_o, .long x1]) ++ List.replicate (6 - (lg_sl ([.ref q_o, .long x1])).length) Slot.unset).toArray [] := by rw [hargs, lg_entry_eq]
  rw [hent]
  clear hent hargs
  generalize (lg_sl ([.ref q_o, .long x1]) ++ List.replicate (6 - (lg_sl ([.ref q_o, .long x1])).length) Slot.unset).toArray = ls at hl ⊢
  have hl : lv_has ls 6 [(0, .ref q_o), (1, .long x1)] := hl
  obtain ⟨Q, hQ⟩ : ∃ Q, Q = kt_MQ below "java/lang/UnsupportedOperationException" (fun st t => va_F (fun _ => False) st t ∧ va_P (dC, dI) clz [(q_o, .inr (6, f_P q_o_text q_o_written q_o_reader q_o_cover q_o_given q_o_drawing q_o_spare)), (q_o_text, .inr (5, f_Row q_o_text_characters v_o_text_length_z)), (q_o_text_characters, .inl (k_o_text_characters, 1200, .inl c_o_text_characters_z))] t.heap) s 1 6 (fun _ => False) := ⟨_, rfl⟩
  rw [← hQ]
  have nB86 : ∀ (k86 : Int64 → Int32 → Int32 → (Nat → Int32) → Option (Nat × Int32 × Int32 × (Nat → Int32))), (∀ (x1 : Int64) (x4 : Int32) (v_o_text_length : Int32) (c_o_text_characters : (Nat → Int32)), k86 x1 x4 v_o_text_length c_o_text_characters = some (3, rv, v_o_text_length_z, c_o_text_characters_z) → False) → ∀ (x1 : Int64) (x4 : Int32) (v_o_text_length : Int32) (c_o_text_characters : (Nat → Int32)), xP_text_B86 N k86 x1 x4 v_o_text_length c_o_text_characters = some (3, rv, v_o_text_length_z, c_o_text_characters_z) → False := by
    intro k86 nk86
    intro x1 x4 v_o_text_length c_o_text_characters hf
    rw [xP_text_B86] at hf
    by_cases hq : (8 : Int32) ≤ x4
    · rw [if_pos hq] at hf
      exact absurd (kr4 hf).1 (by decide)
    · rw [if_neg hq] at hf
      obtain ⟨r96, -, hf⟩ := kb1_some hf
      by_cases hq : r96 = (0 : Int32)
      · rw [if_pos hq] at hf
        exact nk86 x1 (x4 + (1 : Int32)) v_o_text_length c_o_text_characters hf
      · rw [if_neg hq] at hf
        obtain ⟨v_o_text_length_112, c_o_text_characters_112, -, hf⟩ := kb2_some hf
        exact nk86 x1 (x4 + (1 : Int32)) v_o_text_length_112 c_o_text_characters_112 hf
  have nL86 : ∀ n : Nat, ∀ (x1 : Int64) (x4 : Int32) (v_o_text_length : Int32) (c_o_text_characters : (Nat → Int32)), xP_text_L86 N n x1 x4 v_o_text_length c_o_text_characters = some (3, rv, v_o_text_length_z, c_o_text_characters_z) → False := by
    intro n
    induction n with
    | zero => intro x1 x4 v_o_text_length c_o_text_characters hf; have hf : none = some (3, rv, v_o_text_length_z, c_o_text_characters_z) := hf; cases hf
    | succ n ih => exact nB86 (xP_text_L86 N n) ih
  have nb39 : ∀ (v_o_text_length : Int32) (c_o_text_characters : (Nat → Int32)), xP_text_b39 N v_o_text_length c_o_text_characters = some (3, rv, v_o_text_length_z, c_o_text_characters_z) → False := by
    intro v_o_text_length c_o_text_characters hf
    rw [xP_text_b39] at hf
    exact absurd (kr4 hf).1 (by decide)
  have hB5 : ∀ (k5 : Int64 → Int32 → Int32 → Int32 → (Nat → Int32) → Option (Nat × Int32 × Int32 × (Nat → Int32))), (∀ (x1 : Int64) (x3 : Int32) (x4 : Int32) (ls : Array Slot), k5 x1 x3 x4 v_o_text_length c_o_text_characters = some (3, rv, v_o_text_length_z, c_o_text_characters_z) → lv_has ls 6 [(0, .ref q_o), (1, .long x1), (3, .int x3), (4, .int x4)] → W p l e (headSpec w_xP_text ({ frames := 6, cells := 1, slots := 6, locals := 82 })).room s m args below meth c s.heap [] 0 0 Q (F0 m 5 ls [])) → ∀ (x1 : Int64) (x3 : Int32) (x4 : Int32) (ls : Array Slot), xP_text_B5 N k5 x1 x3 x4 v_o_text_length c_o_text_characters = some (3, rv, v_o_text_length_z, c_o_text_characters_z) → lv_has ls 6 [(0, .ref q_o), (1, .long x1), (3, .int x3), (4, .int x4)] → W p l e (headSpec w_xP_text ({ frames := 6, cells := 1, slots := 6, locals := 82 })).room s m args below meth c s.heap [] 0 0 Q (F0 m 5 ls []) := by
    intro k5 hk5
    intro x1 x3 x4 ls hf hl
    rw [xP_text_B5] at hf
    refine lv_iload (pc := 5) hx hb d_xP_text_5 (lv_at hl 3 rfl) ?_
    refine lv_bipush (pc := 7) (v := (8 : Int32)) hx hb d_xP_text_7 (by decide) ?_
    refine lv_icmp_ge (pc := 9) (tgt := 58) hx hb d_xP_text_9 (by decide) (fun hc => ?_) (fun hc => ?_)
    · rw [if_pos hc] at hf
      refine lv_aload_n (pc := 58) hx hb d_xP_text_58 rfl (lv_at hl 0 rfl) ?_
      refine va_get (pc := 59) (D := (dC, dI)) (ci := 6) (v := .ref q_o_text) (C := "PathTexts") (T := F_P) (N := 7) hx hb hts (fun w h => List.mem_cons_of_mem _ (in_P w h)) hown hK hP 0 rfl rfl 0 (by decide) (hts _ (List.mem_cons_of_mem _ kw_186)) (fun _ h9 => h9) fg_P_0 d_xP_text_59 ?_
      refine va_get (pc := 62) (D := (dC, dI)) (ci := 5) (v := .int v_o_text_length) (C := "PathTexts$Row") (T := F_Row) (N := 2) hx hb hts (fun w h => List.mem_cons_of_mem _ (in_Row w h)) hown hK hP 1 rfl rfl 1 (by decide) (hts _ (List.mem_cons_of_mem _ kw_37)) (fun _ h9 => h9) fg_Row_1 d_xP_text_62 ?_
      refine lv_iload_n (pc := 65) hx hb d_xP_text_65 rfl (lv_at hl 2 rfl) ?_
      refine lv_iadd (pc := 66) hx hb d_xP_text_66 ?_
      refine lv_sipush (pc := 67) (v := (1200 : Int32)) hx hb d_xP_text_67 (by decide) ?_
      refine lv_icmp_le (pc := 70) (tgt := 83) hx hb d_xP_text_70 (by decide) (fun hc => ?_) (fun hc => ?_)
      · rw [if_pos hc] at hf
        exfalso
        exact nL86 N x1 (0 : Int32) v_o_text_length c_o_text_characters hf
      · rw [if_neg hc] at hf
        obtain ⟨e_0, e_1, e_2, e_3⟩ := kr4 hf
        obtain ⟨sa, hsa⟩ := hF.2.2.2.1 (68, "the text would be too long") (List.mem_of_getElem? (i := 1) rfl)
        rw [hQ]
        exact kt_throw (pc := 73) hx hb hfl (own := "PathTexts") (text := "the text would be too long") (names := ["java/lang/RuntimeException", "java/lang/Exception"]) (ik := 66) (is := 68) (ic := 70) hown (by decide +kernel) (by decide +kernel) (hts _ (List.mem_cons_of_mem _ kw_491)) (hts _ (List.mem_cons_of_mem _ kw_13)) (ks_any hsa.1) (oa_3 (fun w h => hts w (List.mem_cons_of_mem _ h)) (kf_sp hF) hF.2.2.2.2.1 (hts _ (List.mem_cons_of_mem _ kw_501))) htab hlocks (hl.1.trans hml.symm) d_xP_text_73 d_xP_text_76 d_xP_text_77 d_xP_text_79 d_xP_text_82 (Nat.le_of_ble_eq_true rfl) (Nat.le_of_ble_eq_true rfl) (Nat.le_of_ble_eq_true rfl) (Nat.le_of_ble_eq_true rfl) (fun t ha hz hq => ⟨⟨hz, fun q h _ => hq q h⟩, by rw [← e_2, ← e_3]; exact (va_P.kept hP (fun k q9 hk => hq q9.1 (hP k q9 hk).lt))⟩)
    · rw [if_neg hc] at hf
      refine lv_lload_n (pc := 12) hx hb d_xP_text_12 rfl (lv_at hl 1 rfl) ?_
      refine lv_iload (pc := 13) hx hb d_xP_text_13 (lv_at hl 3 rfl) ?_
      obtain ⟨r15, hz, hf⟩ := kb1_some hf
      have hPc := hP.sub (ws' := []) [] rfl
      have hKc := hK.sub (tys' := []) [] rfl
      refine W.callR (g := F0 m 15 ls [.int x4, .long x1]) (va_Run.run (va_runS (As := [.long x1, .int x4]) (rest := []) ⟨hx, hb, hml, hown, hts⟩ (cr_xP_byteOf l dC dI x1 x4 r15 hz) (va_cwS 2 hts (kw_in3 kw_419 kw_420 kw_1 kw_421) rfl rfl rfl (by decide +kernel) ⟨Nat.le_of_ble_eq_true rfl, Nat.le_of_ble_eq_true rfl⟩) (kr_pre hPc hKc) rfl rfl hl.1 rfl (lv_room (Nat.le_of_ble_eq_true rfl)) d_xP_text_15 ⟨Nat.le_of_ble_eq_true rfl, Nat.le_of_ble_eq_true rfl⟩)) ?_
      refine W.eq (g2 := F0 m 18 ls [.int r15]) rfl ?_
      clear hPc hKc hz
      refine lv_istore (pc := 18) (lv' := [(5, .int r15), (0, .ref q_o), (1, .long x1), (3, .int x3), (4, .int x4)]) hx hb d_xP_text_18 hl (by decide) rfl (fun ls hl => ?_)
      refine lv_iload (pc := 20) hx hb d_xP_text_20 (lv_at hl 0 rfl) ?_
      refine lv_if_eq (pc := 22) (tgt := 52) hx hb d_xP_text_22 (by decide) (fun hc => ?_) (fun hc => ?_)
      · rw [if_pos hc] at hf
        refine lv_iinc (pc := 52) (v := (x4 + (1 : Int32))) (lv' := [(4, .int (x4 + (1 : Int32))), (5, .int r15), (0, .ref q_o), (1, .long x1), (3, .int x3)]) hx hb d_xP_text_52 hl (k := 4) rfl rfl (by decide) rfl (fun ls hl => ?_)
        refine lv_goto (pc := 55) (tgt := 5) hx hb d_xP_text_55 (by decide) ?_
        exact hk5 x1 x3 (x4 + (1 : Int32)) _ hf (lv_sub hl [2, 3, 4, 0] rfl)
      · rw [if_neg hc] at hf
        refine lv_iload (pc := 25) hx hb d_xP_text_25 (lv_at hl 0 rfl) ?_
        refine lv_bipush (pc := 27) (v := (32 : Int32)) hx hb d_xP_text_27 (by decide) ?_
        refine lv_icmp_lt (pc := 29) (tgt := 39) hx hb d_xP_text_29 (by decide) (fun hc => ?_) (fun hc => ?_)
        · rw [if_pos hc] at hf
          exfalso
          exact nb39 v_o_text_length c_o_text_characters hf
        · rw [if_neg hc] at hf
          refine lv_iload (pc := 32) hx hb d_xP_text_32 (lv_at hl 0 rfl) ?_
          refine lv_bipush (pc := 34) (v := (126 : Int32)) hx hb d_xP_text_34 (by decide) ?_
          refine lv_icmp_le (pc := 36) (tgt := 49) hx hb d_xP_text_36 (by decide) (fun hc => ?_) (fun hc => ?_)
          · rw [if_pos hc] at hf
            refine lv_iinc (pc := 49) (v := (x3 + (1 : Int32))) (lv' := [(3, .int (x3 + (1 : Int32))), (5, .int r15), (0, .ref q_o), (1, .long x1), (4, .int x4)]) hx hb d_xP_text_49 hl (k := 3) rfl rfl (by decide) rfl (fun ls hl => ?_)
            refine lv_iinc (pc := 52) (v := (x4 + (1 : Int32))) (lv' := [(4, .int (x4 + (1 : Int32))), (3, .int (x3 + (1 : Int32))), (5, .int r15), (0, .ref q_o), (1, .long x1)]) hx hb d_xP_text_52 hl (k := 4) rfl rfl (by decide) rfl (fun ls hl => ?_)
            refine lv_goto (pc := 55) (tgt := 5) hx hb d_xP_text_55 (by decide) ?_
            exact hk5 x1 (x3 + (1 : Int32)) (x4 + (1 : Int32)) _ hf (lv_sub hl [3, 4, 1, 0] rfl)
          · rw [if_neg hc] at hf
            exfalso
            exact nb39 v_o_text_length c_o_text_characters hf
  have hL5 : ∀ n : Nat, ∀ (x1 : Int64) (x3 : Int32) (x4 : Int32) (ls : Array Slot), (xP_text_L5 N n) x1 x3 x4 v_o_text_length c_o_text_characters = some (3, rv, v_o_text_length_z, c_o_text_characters_z) → lv_has ls 6 [(0, .ref q_o), (1, .long x1), (3, .int x3), (4, .int x4)] → W p l e (headSpec w_xP_text ({ frames := 6, cells := 1, slots := 6, locals := 82 })).room s m args below meth c s.heap [] 0 0 Q (F0 m 5 ls []) := by
    intro n
    induction n with
    | zero => intro x1 x3 x4 ls hf hl; have hf : none = some (3, rv, v_o_text_length_z, c_o_text_characters_z) := hf; cases hf
    | succ n ih => exact hB5 (xP_text_L5 N n) ih
  rw [xP_text] at hf
  refine lv_iconst (pc := 0) (v := (0 : Int32)) hx hb d_xP_text_0 (by decide) ?_
  refine lv_istore_n (pc := 1) (lv' := [(3, .int (0 : Int32)), (0, .ref q_o), (1, .long x1)]) hx hb d_xP_text_1 rfl hl (by decide) rfl (fun ls hl => ?_)
  refine lv_iconst (pc := 2) (v := (0 : Int32)) hx hb d_xP_text_2 (by decide) ?_
  refine lv_istore (pc := 3) (lv' := [(4, .int (0 : Int32)), (3, .int (0 : Int32)), (0, .ref q_o), (1, .long x1)]) hx hb d_xP_text_3 hl (by decide) rfl (fun ls hl => ?_)
  exact hL5 N x1 (0 : Int32) (0 : Int32) _ hf (lv_sub hl [2, 3, 1, 0] rfl)
set_option maxHeartbeats 4000000 in
set_option maxRecDepth 100000 in
theorem cx_xP_command_4 (l : Launch) (dC : Nat → ClassId) (dI : Nat → Nat → Nat) (q_o : Nat) (q_o_text : Nat) (q_o_written : Nat) (q_o_reader : Nat) (q_o_cover : Nat) (q_o_given : Nat) (q_o_drawing : Nat) (q_o_spare : Nat) (q_o_drawing_kinds : Nat) (q_o_drawing_numbers : Nat) (k_o_drawing_kinds : ClassId) (tt : Nat) (x1 : Int32) (v_o_drawing_count : Int32) (c_o_drawing_kinds : (Nat → Int32)) (rv : Int32) (hfl : l.flags = flags0) (hf : xP_command x1 v_o_drawing_count c_o_drawing_kinds = some (4, rv)) : kt_Met l y_xP_command w_xP_command ({ frames := 6, cells := 1, slots := 6, locals := 82 }) (va_Pc [.ref q_o, .int x1] (fun U => va_P (dC, dI) clz [(q_o, .inr (6, f_P q_o_text q_o_written q_o_reader q_o_cover q_o_given q_o_drawing q_o_spare)), (q_o_drawing, .inr (1, f_Drawing q_o_drawing_kinds q_o_drawing_numbers v_o_drawing_count)), (q_o_drawing_kinds, .inl (k_o_drawing_kinds, 150, .inl c_o_drawing_kinds))] U.heap ∧ va_K (dC, dI) clz [(k_o_drawing_kinds, .int)] U ∧ kf tt (fun _ => False) U)) "java/lang/IndexOutOfBoundsException" (fun st t => va_F (fun _ => False) st t ∧ va_P (dC, dI) clz [(q_o, .inr (6, f_P q_o_text q_o_written q_o_reader q_o_cover q_o_given q_o_drawing q_o_spare)), (q_o_drawing, .inr (1, f_Drawing q_o_drawing_kinds q_o_drawing_numbers v_o_drawing_count)), (q_o_drawing_kinds, .inl (k_o_drawing_kinds, 150, .inl c_o_drawing_kinds))] t.heap) 1 6 (fun _ => False) := by
  refine kt_ofW (cc := prog_1_method_8_code) (maxL := 2) (ret := (some .int)) (by decide +kernel) rfl ?_
  intro p e s m args below meth c s₁ B hml htab hv
  obtain ⟨hargs, hP, hK, hF⟩ := hv
  have hE := hF.1
  have hx := B.exec
  have hb := B.bytes
  have hr := B.returns
  have hts := atoms_spec (ws := w_xP_command) B.pre
  have hown : s.vm.findClass "PathTexts" = some m.cls := findClass_of_methodNamed B.named
  have hlocks := B.notSynchronized
  have hS : va_S (fun _ => False) s.heap s.heap [] := va_S.rf
  have hl := lv_entry ([.ref q_o, .int x1]) (n := 2) (Nat.le_of_ble_eq_true rfl)
  have hent : entryFrame m args 2 = F0 m 0 (lg_sl ([.ref q_o, .int x1]) ++ List.replicate (2 - (lg_sl ([.ref q_o, .int x1])).length) Slot.unset).toArray [] := by rw [hargs, lg_entry_eq]
  rw [hent]
  clear hent hargs
  generalize (lg_sl ([.ref q_o, .int x1]) ++ List.replicate (2 - (lg_sl ([.ref q_o, .int x1])).length) Slot.unset).toArray = ls at hl ⊢
  have hl : lv_has ls 2 [(0, .ref q_o), (1, .int x1)] := hl
  obtain ⟨Q, hQ⟩ : ∃ Q, Q = kt_MQ below "java/lang/IndexOutOfBoundsException" (fun st t => va_F (fun _ => False) st t ∧ va_P (dC, dI) clz [(q_o, .inr (6, f_P q_o_text q_o_written q_o_reader q_o_cover q_o_given q_o_drawing q_o_spare)), (q_o_drawing, .inr (1, f_Drawing q_o_drawing_kinds q_o_drawing_numbers v_o_drawing_count)), (q_o_drawing_kinds, .inl (k_o_drawing_kinds, 150, .inl c_o_drawing_kinds))] t.heap) s 1 6 (fun _ => False) := ⟨_, rfl⟩
  rw [← hQ]
  rw [xP_command] at hf
  refine lv_aload_n (pc := 0) hx hb d_xP_command_0 rfl (lv_at hl 0 rfl) ?_
  refine va_get (pc := 1) (D := (dC, dI)) (ci := 6) (v := .ref q_o_drawing) (C := "PathTexts") (T := F_P) (N := 7) hx hb hts (fun w h => List.mem_cons_of_mem _ (in_P w h)) hown hK hP 0 rfl rfl 5 (by decide) (hts _ (List.mem_cons_of_mem _ kw_191)) (fun _ h9 => h9) fg_P_5 d_xP_command_1 ?_
  refine lv_iload_n (pc := 4) hx hb d_xP_command_4 rfl (lv_at hl 1 rfl) ?_
  obtain ⟨r5, hz, hf⟩ := kb1_some hf
  have hPc := hP.sub (ws' := [(q_o_drawing, .inr (1, f_Drawing q_o_drawing_kinds q_o_drawing_numbers v_o_drawing_count))]) [1] rfl
  have hKc := hK.sub (tys' := []) [] rfl
  refine W.callR (g := F0 m 5 ls [.int x1, .ref q_o_drawing]) (va_Run.run (va_runV (As := [.int x1]) (rest := []) ⟨hx, hb, hml, hown, hts⟩ (cr_xDrawing_has l dC dI q_o_drawing q_o_drawing_kinds q_o_drawing_numbers x1 v_o_drawing_count r5 hz) (cwV 1 hts (kw_in4 kw_570 kw_571 kw_572 kw_7 kw_573) rfl rfl rfl (by decide +kernel) ⟨Nat.le_of_ble_eq_true rfl, Nat.le_of_ble_eq_true rfl⟩) (kr_preV hPc hKc 0 rfl rfl) rfl rfl hl.1 rfl (lv_room (Nat.le_of_ble_eq_true rfl)) d_xP_command_5 ⟨Nat.le_of_ble_eq_true rfl, Nat.le_of_ble_eq_true rfl⟩)) ?_
  refine W.eq (g2 := F0 m 8 ls [.int r5]) rfl ?_
  clear hPc hKc hz
  refine lv_if_ne (pc := 8) (tgt := 21) hx hb d_xP_command_8 (by decide) (fun hc => ?_) (fun hc => ?_)
  · rw [if_neg hc] at hf
    exfalso
    obtain ⟨-, hf⟩ := kg_some hf
    exact absurd (kr2 hf).1 (by decide)
  · rw [if_pos hc] at hf
    obtain ⟨e_0, e_1⟩ := kr2 hf
    obtain ⟨sa, hsa⟩ := hF.2.2.2.1 (91, "no such command") (List.mem_of_getElem? (i := 5) rfl)
    rw [hQ]
    exact kt_throw (pc := 11) hx hb hfl (own := "PathTexts") (text := "no such command") (names := ["java/lang/RuntimeException", "java/lang/Exception"]) (ik := 89) (is := 91) (ic := 93) hown (by decide +kernel) (by decide +kernel) (hts _ (List.mem_cons_of_mem _ kw_574)) (hts _ (List.mem_cons_of_mem _ kw_17)) (ks_any hsa.1) (oa_4 (fun w h => hts w (List.mem_cons_of_mem _ h)) (kf_sp hF) hF.2.2.2.2.1 (hts _ (List.mem_cons_of_mem _ kw_584))) htab hlocks (hl.1.trans hml.symm) d_xP_command_11 d_xP_command_14 d_xP_command_15 d_xP_command_17 d_xP_command_20 (Nat.le_of_ble_eq_true rfl) (Nat.le_of_ble_eq_true rfl) (Nat.le_of_ble_eq_true rfl) (Nat.le_of_ble_eq_true rfl) (fun t ha hz hq => ⟨⟨hz, fun q h _ => hq q h⟩, va_P.kept hP (fun k q9 hk => hq q9.1 (hP k q9 hk).lt)⟩)
set_option maxHeartbeats 4000000 in
set_option maxRecDepth 100000 in
theorem cx_xP_number_4 (l : Launch) (dC : Nat → ClassId) (dI : Nat → Nat → Nat) (q_o : Nat) (q_o_text : Nat) (q_o_written : Nat) (q_o_reader : Nat) (q_o_cover : Nat) (q_o_given : Nat) (q_o_drawing : Nat) (q_o_spare : Nat) (q_o_drawing_kinds : Nat) (q_o_drawing_numbers : Nat) (k_o_drawing_kinds : ClassId) (k_o_drawing_numbers : ClassId) (tt : Nat) (x1 : Int32) (x2 : Int32) (v_o_drawing_count : Int32) (c_o_drawing_kinds : (Nat → Int32)) (c_o_drawing_numbers : (Nat → Int32)) (rv : Int32) (hfl : l.flags = flags0) (hf : xP_number x1 x2 v_o_drawing_count c_o_drawing_kinds c_o_drawing_numbers = some (4, rv)) : kt_Met l y_xP_number w_xP_number ({ frames := 6, cells := 1, slots := 6, locals := 82 }) (va_Pc [.ref q_o, .int x1, .int x2] (fun U => va_P (dC, dI) clz [(q_o, .inr (6, f_P q_o_text q_o_written q_o_reader q_o_cover q_o_given q_o_drawing q_o_spare)), (q_o_drawing, .inr (1, f_Drawing q_o_drawing_kinds q_o_drawing_numbers v_o_drawing_count)), (q_o_drawing_kinds, .inl (k_o_drawing_kinds, 150, .inl c_o_drawing_kinds)), (q_o_drawing_numbers, .inl (k_o_drawing_numbers, 900, .inl c_o_drawing_numbers))] U.heap ∧ va_K (dC, dI) clz [(k_o_drawing_kinds, .int), (k_o_drawing_numbers, .int)] U ∧ kf tt (fun _ => False) U)) "java/lang/IndexOutOfBoundsException" (fun st t => va_F (fun _ => False) st t ∧ va_P (dC, dI) clz [(q_o, .inr (6, f_P q_o_text q_o_written q_o_reader q_o_cover q_o_given q_o_drawing q_o_spare)), (q_o_drawing, .inr (1, f_Drawing q_o_drawing_kinds q_o_drawing_numbers v_o_drawing_count)), (q_o_drawing_kinds, .inl (k_o_drawing_kinds, 150, .inl c_o_drawing_kinds)), (q_o_drawing_numbers, .inl (k_o_drawing_numbers, 900, .inl c_o_drawing_numbers))] t.heap) 1 6 (fun _ => False) := by
  refine kt_ofW (cc := prog_1_method_9_code) (maxL := 3) (ret := (some .int)) (by decide +kernel) rfl ?_
  intro p e s m args below meth c s₁ B hml htab hv
  obtain ⟨hargs, hP, hK, hF⟩ := hv
  have hE := hF.1
  have hx := B.exec
  have hb := B.bytes
  have hr := B.returns
  have hts := atoms_spec (ws := w_xP_number) B.pre
  have hown : s.vm.findClass "PathTexts" = some m.cls := findClass_of_methodNamed B.named
  have hlocks := B.notSynchronized
  have hS : va_S (fun _ => False) s.heap s.heap [] := va_S.rf
  have hl := lv_entry ([.ref q_o, .int x1, .int x2]) (n := 3) (Nat.le_of_ble_eq_true rfl)
  have hent : entryFrame m args 3 = F0 m 0 (lg_sl ([.ref q_o, .int x1, .int x2]) ++ List.replicate (3 - (lg_sl ([.ref q_o, .int x1, .int x2])).length) Slot.unset).toArray [] := by rw [hargs, lg_entry_eq]
  rw [hent]
  clear hent hargs
  generalize (lg_sl ([.ref q_o, .int x1, .int x2]) ++ List.replicate (3 - (lg_sl ([.ref q_o, .int x1, .int x2])).length) Slot.unset).toArray = ls at hl ⊢
  have hl : lv_has ls 3 [(0, .ref q_o), (1, .int x1), (2, .int x2)] := hl
  obtain ⟨Q, hQ⟩ : ∃ Q, Q = kt_MQ below "java/lang/IndexOutOfBoundsException" (fun st t => va_F (fun _ => False) st t ∧ va_P (dC, dI) clz [(q_o, .inr (6, f_P q_o_text q_o_written q_o_reader q_o_cover q_o_given q_o_drawing q_o_spare)), (q_o_drawing, .inr (1, f_Drawing q_o_drawing_kinds q_o_drawing_numbers v_o_drawing_count)), (q_o_drawing_kinds, .inl (k_o_drawing_kinds, 150, .inl c_o_drawing_kinds)), (q_o_drawing_numbers, .inl (k_o_drawing_numbers, 900, .inl c_o_drawing_numbers))] t.heap) s 1 6 (fun _ => False) := ⟨_, rfl⟩
  rw [← hQ]
  have hb31 : ∀  (ls : Array Slot), xP_number_b31  = some (4, rv) → lv_has ls 3 [] → W p l e (headSpec w_xP_number ({ frames := 6, cells := 1, slots := 6, locals := 82 })).room s m args below meth c s.heap [] 0 0 Q (F0 m 31 ls []) := by
    intro  ls hf hl
    rw [xP_number_b31] at hf
    obtain ⟨e_0, e_1⟩ := kr2 hf
    obtain ⟨sa, hsa⟩ := hF.2.2.2.1 (101, "no such number") (List.mem_of_getElem? (i := 6) rfl)
    rw [hQ]
    exact kt_throw (pc := 31) hx hb hfl (own := "PathTexts") (text := "no such number") (names := ["java/lang/RuntimeException", "java/lang/Exception"]) (ik := 89) (is := 101) (ic := 93) hown (by decide +kernel) (by decide +kernel) (hts _ (List.mem_cons_of_mem _ kw_574)) (hts _ (List.mem_cons_of_mem _ kw_17)) (ks_any hsa.1) (oa_4 (fun w h => hts w (List.mem_cons_of_mem _ h)) (kf_sp hF) hF.2.2.2.2.1 (hts _ (List.mem_cons_of_mem _ kw_584))) htab hlocks (hl.1.trans hml.symm) d_xP_number_31 d_xP_number_34 d_xP_number_35 d_xP_number_37 d_xP_number_40 (Nat.le_of_ble_eq_true rfl) (Nat.le_of_ble_eq_true rfl) (Nat.le_of_ble_eq_true rfl) (Nat.le_of_ble_eq_true rfl) (fun t ha hz hq => ⟨⟨hz, fun q h _ => hq q h⟩, va_P.kept hP (fun k q9 hk => hq q9.1 (hP k q9 hk).lt)⟩)
  rw [xP_number] at hf
  refine lv_aload_n (pc := 0) hx hb d_xP_number_0 rfl (lv_at hl 0 rfl) ?_
  refine va_get (pc := 1) (D := (dC, dI)) (ci := 6) (v := .ref q_o_drawing) (C := "PathTexts") (T := F_P) (N := 7) hx hb hts (fun w h => List.mem_cons_of_mem _ (in_P w h)) hown hK hP 0 rfl rfl 5 (by decide) (hts _ (List.mem_cons_of_mem _ kw_191)) (fun _ h9 => h9) fg_P_5 d_xP_number_1 ?_
  refine lv_iload_n (pc := 4) hx hb d_xP_number_4 rfl (lv_at hl 1 rfl) ?_
  obtain ⟨r5, hz, hf⟩ := kb1_some hf
  have hPc := hP.sub (ws' := [(q_o_drawing, .inr (1, f_Drawing q_o_drawing_kinds q_o_drawing_numbers v_o_drawing_count))]) [1] rfl
  have hKc := hK.sub (tys' := []) [] rfl
  refine W.callR (g := F0 m 5 ls [.int x1, .ref q_o_drawing]) (va_Run.run (va_runV (As := [.int x1]) (rest := []) ⟨hx, hb, hml, hown, hts⟩ (cr_xDrawing_has l dC dI q_o_drawing q_o_drawing_kinds q_o_drawing_numbers x1 v_o_drawing_count r5 hz) (cwV 1 hts (kw_in4 kw_570 kw_571 kw_572 kw_7 kw_573) rfl rfl rfl (by decide +kernel) ⟨Nat.le_of_ble_eq_true rfl, Nat.le_of_ble_eq_true rfl⟩) (kr_preV hPc hKc 0 rfl rfl) rfl rfl hl.1 rfl (lv_room (Nat.le_of_ble_eq_true rfl)) d_xP_number_5 ⟨Nat.le_of_ble_eq_true rfl, Nat.le_of_ble_eq_true rfl⟩)) ?_
  refine W.eq (g2 := F0 m 8 ls [.int r5]) rfl ?_
  clear hPc hKc hz
  refine lv_if_eq (pc := 8) (tgt := 31) hx hb d_xP_number_8 (by decide) (fun hc => ?_) (fun hc => ?_)
  · rw [if_pos hc] at hf
    exact hb31 _ hf (lv_sub hl [] rfl)
  · rw [if_neg hc] at hf
    refine lv_iload_n (pc := 11) hx hb d_xP_number_11 rfl (lv_at hl 2 rfl) ?_
    refine lv_if_lt (pc := 12) (tgt := 31) hx hb d_xP_number_12 (by decide) (fun hc => ?_) (fun hc => ?_)
    · rw [if_pos hc] at hf
      exact hb31 _ hf (lv_sub hl [] rfl)
    · rw [if_neg hc] at hf
      refine lv_iload_n (pc := 15) hx hb d_xP_number_15 rfl (lv_at hl 2 rfl) ?_
      refine lv_aload_n (pc := 16) hx hb d_xP_number_16 rfl (lv_at hl 0 rfl) ?_
      refine va_get (pc := 17) (D := (dC, dI)) (ci := 6) (v := .ref q_o_drawing) (C := "PathTexts") (T := F_P) (N := 7) hx hb hts (fun w h => List.mem_cons_of_mem _ (in_P w h)) hown hK hP 0 rfl rfl 5 (by decide) (hts _ (List.mem_cons_of_mem _ kw_191)) (fun _ h9 => h9) fg_P_5 d_xP_number_17 ?_
      refine va_get (pc := 20) (D := (dC, dI)) (ci := 1) (v := .ref q_o_drawing_kinds) (C := "PathTexts$Drawing") (T := F_Drawing) (N := 3) hx hb hts (fun w h => List.mem_cons_of_mem _ (in_Drawing w h)) hown hK hP 1 rfl rfl 0 (by decide) (hts _ (List.mem_cons_of_mem _ kw_169)) (fun _ h9 => h9) fg_Drawing_0 d_xP_number_20 ?_
      refine lv_iload_n (pc := 23) hx hb d_xP_number_23 rfl (lv_at hl 1 rfl) ?_
      obtain ⟨hg1, hf⟩ := kg_some hf
      refine va_iald (pc := 24) hx hb hK hP 2 0 rfl rfl (ki_in hg1) d_xP_number_24 ?_
      obtain ⟨r25, hz, hf⟩ := kb1_some hf
      have hPc := hP.sub (ws' := []) [] rfl
      have hKc := hK.sub (tys' := []) [] rfl
      refine W.callR (g := F0 m 25 ls [.int (c_o_drawing_kinds (x1).toNatClampNeg), .int x2]) (va_Run.run (va_runS (As := [.int (c_o_drawing_kinds (x1).toNatClampNeg)]) (rest := [.int x2]) ⟨hx, hb, hml, hown, hts⟩ (cr_xP_numbersOf l dC dI (c_o_drawing_kinds (x1).toNatClampNeg) r25 hz) (va_cwS 1 hts (kw_in3 kw_519 kw_333 kw_1 kw_334) rfl rfl rfl (by decide +kernel) ⟨Nat.le_of_ble_eq_true rfl, Nat.le_of_ble_eq_true rfl⟩) (kr_pre hPc hKc) rfl rfl hl.1 rfl (lv_room (Nat.le_of_ble_eq_true rfl)) d_xP_number_25 ⟨Nat.le_of_ble_eq_true rfl, Nat.le_of_ble_eq_true rfl⟩)) ?_
      refine W.eq (g2 := F0 m 28 ls [.int r25, .int x2]) rfl ?_
      clear hPc hKc hz
      refine lv_icmp_lt (pc := 28) (tgt := 41) hx hb d_xP_number_28 (by decide) (fun hc => ?_) (fun hc => ?_)
      · rw [if_pos hc] at hf
        exfalso
        obtain ⟨-, hf⟩ := kg_some hf
        exact absurd (kr2 hf).1 (by decide)
      · rw [if_neg hc] at hf
        exact hb31 _ hf (lv_sub hl [] rfl)
set_option maxHeartbeats 4000000 in
set_option maxRecDepth 100000 in
theorem cx_xP_charAt_4 (l : Launch) (dC : Nat → ClassId) (dI : Nat → Nat → Nat) (q_o : Nat) (q_o_text : Nat) (q_o_written : Nat) (q_o_reader : Nat) (q_o_cover : Nat) (q_o_given : Nat) (q_o_drawing : Nat) (q_o_spare : Nat) (q_o_written_characters : Nat) (k_o_written_characters : ClassId) (tt : Nat) (x1 : Int32) (v_o_written_length : Int32) (c_o_written_characters : (Nat → Int32)) (rv : Int32) (hfl : l.flags = flags0) (hf : xP_charAt x1 v_o_written_length c_o_written_characters = some (4, rv)) : kt_Met l y_xP_charAt w_xP_charAt ({ frames := 6, cells := 1, slots := 6, locals := 82 }) (va_Pc [.ref q_o, .int x1] (fun U => va_P (dC, dI) clz [(q_o, .inr (6, f_P q_o_text q_o_written q_o_reader q_o_cover q_o_given q_o_drawing q_o_spare)), (q_o_written, .inr (5, f_Row q_o_written_characters v_o_written_length)), (q_o_written_characters, .inl (k_o_written_characters, 8250, .inl c_o_written_characters))] U.heap ∧ va_K (dC, dI) clz [(k_o_written_characters, .char)] U ∧ kf tt (fun _ => False) U)) "java/lang/IndexOutOfBoundsException" (fun st t => va_F (fun _ => False) st t ∧ va_P (dC, dI) clz [(q_o, .inr (6, f_P q_o_text q_o_written q_o_reader q_o_cover q_o_given q_o_drawing q_o_spare)), (q_o_written, .inr (5, f_Row q_o_written_characters v_o_written_length)), (q_o_written_characters, .inl (k_o_written_characters, 8250, .inl c_o_written_characters))] t.heap) 1 6 (fun _ => False) := by
  refine kt_ofW (cc := prog_1_method_11_code) (maxL := 2) (ret := (some .int)) (by decide +kernel) rfl ?_
  intro p e s m args below meth c s₁ B hml htab hv
  obtain ⟨hargs, hP, hK, hF⟩ := hv
  have hE := hF.1
  have hx := B.exec
  have hb := B.bytes
  have hr := B.returns
  have hts := atoms_spec (ws := w_xP_charAt) B.pre
  have hown : s.vm.findClass "PathTexts" = some m.cls := findClass_of_methodNamed B.named
  have hlocks := B.notSynchronized
  have hS : va_S (fun _ => False) s.heap s.heap [] := va_S.rf
  have hl := lv_entry ([.ref q_o, .int x1]) (n := 2) (Nat.le_of_ble_eq_true rfl)
  have hent : entryFrame m args 2 = F0 m 0 (lg_sl ([.ref q_o, .int x1]) ++ List.replicate (2 - (lg_sl ([.ref q_o, .int x1])).length) Slot.unset).toArray [] := by rw [hargs, lg_entry_eq]
  rw [hent]
  clear hent hargs
  generalize (lg_sl ([.ref q_o, .int x1]) ++ List.replicate (2 - (lg_sl ([.ref q_o, .int x1])).length) Slot.unset).toArray = ls at hl ⊢
  have hl : lv_has ls 2 [(0, .ref q_o), (1, .int x1)] := hl
  obtain ⟨Q, hQ⟩ : ∃ Q, Q = kt_MQ below "java/lang/IndexOutOfBoundsException" (fun st t => va_F (fun _ => False) st t ∧ va_P (dC, dI) clz [(q_o, .inr (6, f_P q_o_text q_o_written q_o_reader q_o_cover q_o_given q_o_drawing q_o_spare)), (q_o_written, .inr (5, f_Row q_o_written_characters v_o_written_length)), (q_o_written_characters, .inl (k_o_written_characters, 8250, .inl c_o_written_characters))] t.heap) s 1 6 (fun _ => False) := ⟨_, rfl⟩
  rw [← hQ]
  have hb15 : ∀  (ls : Array Slot), xP_charAt_b15  = some (4, rv) → lv_has ls 2 [] → W p l e (headSpec w_xP_charAt ({ frames := 6, cells := 1, slots := 6, locals := 82 })).room s m args below meth c s.heap [] 0 0 Q (F0 m 15 ls []) := by
    intro  ls hf hl
    rw [xP_charAt_b15] at hf
    obtain ⟨e_0, e_1⟩ := kr2 hf
    obtain ⟨sa, hsa⟩ := hF.2.2.2.1 (112, "no such character") (List.mem_of_getElem? (i := 7) rfl)
    rw [hQ]
    exact kt_throw (pc := 15) hx hb hfl (own := "PathTexts") (text := "no such character") (names := ["java/lang/RuntimeException", "java/lang/Exception"]) (ik := 89) (is := 112) (ic := 93) hown (by decide +kernel) (by decide +kernel) (hts _ (List.mem_cons_of_mem _ kw_574)) (hts _ (List.mem_cons_of_mem _ kw_17)) (ks_any hsa.1) (oa_4 (fun w h => hts w (List.mem_cons_of_mem _ h)) (kf_sp hF) hF.2.2.2.2.1 (hts _ (List.mem_cons_of_mem _ kw_584))) htab hlocks (hl.1.trans hml.symm) d_xP_charAt_15 d_xP_charAt_18 d_xP_charAt_19 d_xP_charAt_21 d_xP_charAt_24 (Nat.le_of_ble_eq_true rfl) (Nat.le_of_ble_eq_true rfl) (Nat.le_of_ble_eq_true rfl) (Nat.le_of_ble_eq_true rfl) (fun t ha hz hq => ⟨⟨hz, fun q h _ => hq q h⟩, va_P.kept hP (fun k q9 hk => hq q9.1 (hP k q9 hk).lt)⟩)
  rw [xP_charAt] at hf
  refine lv_iload_n (pc := 0) hx hb d_xP_charAt_0 rfl (lv_at hl 1 rfl) ?_
  refine lv_if_lt (pc := 1) (tgt := 15) hx hb d_xP_charAt_1 (by decide) (fun hc => ?_) (fun hc => ?_)
  · rw [if_pos hc] at hf
    exact hb15 _ hf (lv_sub hl [] rfl)
  · rw [if_neg hc] at hf
    refine lv_iload_n (pc := 4) hx hb d_xP_charAt_4 rfl (lv_at hl 1 rfl) ?_
    refine lv_aload_n (pc := 5) hx hb d_xP_charAt_5 rfl (lv_at hl 0 rfl) ?_
    refine va_get (pc := 6) (D := (dC, dI)) (ci := 6) (v := .ref q_o_written) (C := "PathTexts") (T := F_P) (N := 7) hx hb hts (fun w h => List.mem_cons_of_mem _ (in_P w h)) hown hK hP 0 rfl rfl 1 (by decide) (hts _ (List.mem_cons_of_mem _ kw_187)) (fun _ h9 => h9) fg_P_1 d_xP_charAt_6 ?_
    refine va_get (pc := 9) (D := (dC, dI)) (ci := 5) (v := .int v_o_written_length) (C := "PathTexts$Row") (T := F_Row) (N := 2) hx hb hts (fun w h => List.mem_cons_of_mem _ (in_Row w h)) hown hK hP 1 rfl rfl 1 (by decide) (hts _ (List.mem_cons_of_mem _ kw_37)) (fun _ h9 => h9) fg_Row_1 d_xP_charAt_9 ?_
    refine lv_icmp_lt (pc := 12) (tgt := 25) hx hb d_xP_charAt_12 (by decide) (fun hc => ?_) (fun hc => ?_)
    · rw [if_pos hc] at hf
      exfalso
      obtain ⟨r30, -, hf⟩ := kb1_some hf
      exact absurd (kr2 hf).1 (by decide)
    · rw [if_neg hc] at hf
      exact hb15 _ hf (lv_sub hl [] rfl)
set_option maxHeartbeats 4000000 in
set_option maxRecDepth 100000 in
theorem cx_xP_render_1 (l : Launch) (dC : Nat → ClassId) (dI : Nat → Nat → Nat) (q_o : Nat) (q_o_text : Nat) (q_o_written : Nat) (q_o_reader : Nat) (q_o_cover : Nat) (q_o_given : Nat) (q_o_drawing : Nat) (q_o_spare : Nat) (q_o_cover_squares : Nat) (q_o_cover_changes : Nat) (q_o_drawing_kinds : Nat) (q_o_drawing_numbers : Nat) (k_o_cover_squares : ClassId) (k_o_cover_changes : ClassId) (k_o_drawing_kinds : ClassId) (k_o_drawing_numbers : ClassId) (tt : Nat) (N : Nat) (x1 : Int32) (x2 : Int32) (x3 : Int32) (v_o_cover_width : Int32) (v_o_cover_height : Int32) (v_o_cover_top : Int64) (v_o_cover_x : Int64) (v_o_cover_y : Int64) (v_o_cover_startX : Int64) (v_o_cover_startY : Int64) (c_o_cover_squares : (Nat → Int32)) (c_o_cover_changes : (Nat → Int32)) (v_o_drawing_count : Int32) (c_o_drawing_kinds : (Nat → Int32)) (c_o_drawing_numbers : (Nat → Int32)) (rv : Int32) (v_o_cover_width_z : Int32) (v_o_cover_height_z : Int32) (v_o_cover_top_z : Int64) (v_o_cover_x_z : Int64) (v_o_cover_y_z : Int64) (v_o_cover_startX_z : Int64) (v_o_cover_startY_z : Int64) (c_o_cover_squares_z : (Nat → Int32)) (c_o_cover_changes_z : (Nat → Int32)) (hfl : l.flags = flags0) (hf : xP_render N x1 x2 x3 v_o_cover_width v_o_cover_height v_o_cover_top v_o_cover_x v_o_cover_y v_o_cover_startX v_o_cover_startY c_o_cover_squares c_o_cover_changes v_o_drawing_count c_o_drawing_kinds c_o_drawing_numbers = some (1, rv, v_o_cover_width_z, v_o_cover_height_z, v_o_cover_top_z, v_o_cover_x_z, v_o_cover_y_z, v_o_cover_startX_z, v_o_cover_startY_z, c_o_cover_squares_z, c_o_cover_changes_z)) : kt_Met l y_xP_render w_xP_render ({ frames := 6, cells := 1, slots := 6, locals := 82 }) (va_Pc [.ref q_o, .int x1, .int x2, .int x3] (fun U => va_P (dC, dI) clz [(q_o, .inr (6, f_P q_o_text q_o_written q_o_reader q_o_cover q_o_given q_o_drawing q_o_spare)), (q_o_cover, .inr (0, f_Cover q_o_cover_squares q_o_cover_changes v_o_cover_width v_o_cover_height v_o_cover_top v_o_cover_x v_o_cover_y v_o_cover_startX v_o_cover_startY)), (q_o_cover_squares, .inl (k_o_cover_squares, 64, .inl c_o_cover_squares)), (q_o_cover_changes, .inl (k_o_cover_changes, 2048, .inl c_o_cover_changes)), (q_o_drawing, .inr (1, f_Drawing q_o_drawing_kinds q_o_drawing_numbers v_o_drawing_count)), (q_o_drawing_kinds, .inl (k_o_drawing_kinds, 150, .inl c_o_drawing_kinds)), (q_o_drawing_numbers, .inl (k_o_drawing_numbers, 900, .inl c_o_drawing_numbers))] U.heap ∧ va_K (dC, dI) clz [(k_o_cover_squares, .int), (k_o_cover_changes, .int), (k_o_drawing_kinds, .int), (k_o_drawing_numbers, .int)] U ∧ kf tt (fun _ => False) U)) "java/lang/IllegalArgumentException" (fun st t => va_F (fun _ => False) st t ∧ va_P (dC, dI) clz [(q_o, .inr (6, f_P q_o_text q_o_written q_o_reader q_o_cover q_o_given q_o_drawing q_o_spare)), (q_o_cover, .inr (0, f_Cover q_o_cover_squares q_o_cover_changes v_o_cover_width_z v_o_cover_height_z v_o_cover_top_z v_o_cover_x_z v_o_cover_y_z v_o_cover_startX_z v_o_cover_startY_z)), (q_o_cover_squares, .inl (k_o_cover_squares, 64, .inl c_o_cover_squares_z)), (q_o_cover_changes, .inl (k_o_cover_changes, 2048, .inl c_o_cover_changes_z)), (q_o_drawing, .inr (1, f_Drawing q_o_drawing_kinds q_o_drawing_numbers v_o_drawing_count)), (q_o_drawing_kinds, .inl (k_o_drawing_kinds, 150, .inl c_o_drawing_kinds)), (q_o_drawing_numbers, .inl (k_o_drawing_numbers, 900, .inl c_o_drawing_numbers))] t.heap) 1 6 (fun _ => False) := by
  refine kt_ofW (cc := prog_1_method_12_code) (maxL := 4) (ret := (some .int)) (by decide +kernel) rfl ?_
  intro p e s m args below meth c s₁ B hml htab hv
  obtain ⟨hargs, hP, hK, hF⟩ := hv
  have hE := hF.1
  have hx := B.exec
  have hb := B.bytes
  have hr := B.returns
  have hts := atoms_spec (ws := w_xP_render) B.pre
  have hown : s.vm.findClass "PathTexts" = some m.cls := findClass_of_methodNamed B.named
  have hlocks := B.notSynchronized
  have hS : va_S (fun _ => False) s.heap s.heap [] := va_S.rf
  have hl := lv_entry ([.ref q_o, .int x1, .int x2, .int x3]) (n := 4) (Nat.le_of_ble_eq_true rfl)
  have hent : entryFrame m args 4 = F0 m 0 (lg_sl ([.ref q_o, .int x1, .int x2, .int x3]) ++ List.replicate (4 - (lg_sl ([.ref q_o, .int x1, .int x2, .int x3])).length) Slot.unset).toArray [] := by rw [hargs, lg_entry_eq]
  rw [hent]
  clear hent hargs
  generalize (lg_sl ([.ref q_o, .int x1, .int x2, .int x3]) ++ List.replicate (4 - (lg_sl ([.ref q_o, .int x1, .int x2, .int x3])).length) Slot.unset).toArray = ls at hl ⊢
  have hl : lv_has ls 4 [(0, .ref q_o), (1, .int x1), (2, .int x2), (3, .int x3)] := hl
  obtain ⟨Q, hQ⟩ : ∃ Q, Q = kt_MQ below "java/lang/IllegalArgumentException" (fun st t => va_F (fun _ => False) st t ∧ va_P (dC, dI) clz [(q_o, .inr (6, f_P q_o_text q_o_written q_o_reader q_o_cover q_o_given q_o_drawing q_o_spare)), (q_o_cover, .inr (0, f_Cover q_o_cover_squares q_o_cover_changes v_o_cover_width_z v_o_cover_height_z v_o_cover_top_z v_o_cover_x_z v_o_cover_y_z v_o_cover_startX_z v_o_cover_startY_z)), (q_o_cover_squares, .inl (k_o_cover_squares, 64, .inl c_o_cover_squares_z)), (q_o_cover_changes, .inl (k_o_cover_changes, 2048, .inl c_o_cover_changes_z)), (q_o_drawing, .inr (1, f_Drawing q_o_drawing_kinds q_o_drawing_numbers v_o_drawing_count)), (q_o_drawing_kinds, .inl (k_o_drawing_kinds, 150, .inl c_o_drawing_kinds)), (q_o_drawing_numbers, .inl (k_o_drawing_numbers, 900, .inl c_o_drawing_numbers))] t.heap) s 1 6 (fun _ => False) := ⟨_, rfl⟩
  rw [← hQ]
  have hb22 : ∀  (ls : Array Slot), xP_render_b22 N v_o_cover_width v_o_cover_height v_o_cover_top v_o_cover_x v_o_cover_y v_o_cover_startX v_o_cover_startY c_o_cover_squares c_o_cover_changes = some (1, rv, v_o_cover_width_z, v_o_cover_height_z, v_o_cover_top_z, v_o_cover_x_z, v_o_cover_y_z, v_o_cover_startX_z, v_o_cover_startY_z, c_o_cover_squares_z, c_o_cover_changes_z) → lv_has ls 4 [] → W p l e (headSpec w_xP_render ({ frames := 6, cells := 1, slots := 6, locals := 82 })).room s m args below meth c s.heap [] 0 0 Q (F0 m 22 ls []) := by
    intro  ls hf hl
    rw [xP_render_b22] at hf
    obtain ⟨e_0, e_1, e_2, e_3, e_4, e_5, e_6, e_7, e_8, e_9, e_10⟩ := kr11 hf
    obtain ⟨sa, hsa⟩ := hF.2.2.2.1 (118, "a size is not 1 .. 8") (List.mem_of_getElem? (i := 8) rfl)
    rw [hQ]
    exact kt_throw (pc := 22) hx hb hfl (own := "PathTexts") (text := "a size is not 1 .. 8") (names := ["java/lang/RuntimeException", "java/lang/Exception"]) (ik := 55) (is := 118) (ic := 59) hown (by decide +kernel) (by decide +kernel) (hts _ (List.mem_cons_of_mem _ kw_422)) (hts _ (List.mem_cons_of_mem _ kw_12)) (ks_any hsa.1) (oa_1 (fun w h => hts w (List.mem_cons_of_mem _ h)) (kf_sp hF) hF.2.2.2.2.1 (hts _ (List.mem_cons_of_mem _ kw_465))) htab hlocks (hl.1.trans hml.symm) d_xP_render_22 d_xP_render_25 d_xP_render_26 d_xP_render_28 d_xP_render_31 (Nat.le_of_ble_eq_true rfl) (Nat.le_of_ble_eq_true rfl) (Nat.le_of_ble_eq_true rfl) (Nat.le_of_ble_eq_true rfl) (fun t ha hz hq => ⟨⟨hz, fun q h _ => hq q h⟩, by rw [← e_2, ← e_3, ← e_4, ← e_5, ← e_6, ← e_7, ← e_8, ← e_9, ← e_10]; exact (va_P.kept hP (fun k q9 hk => hq q9.1 (hP k q9 hk).lt))⟩)
  have nb51 : ∀ (x1 : Int32) (x2 : Int32) (x3 : Int32) (v_o_cover_top : Int64) (v_o_cover_x : Int64) (v_o_cover_y : Int64) (v_o_cover_startX : Int64) (v_o_cover_startY : Int64) (c_o_cover_squares : (Nat → Int32)) (c_o_cover_changes : (Nat → Int32)) (v_o_drawing_count : Int32) (c_o_drawing_kinds : (Nat → Int32)) (c_o_drawing_numbers : (Nat → Int32)), xP_render_b51 N x1 x2 x3 v_o_cover_top v_o_cover_x v_o_cover_y v_o_cover_startX v_o_cover_startY c_o_cover_squares c_o_cover_changes v_o_drawing_count c_o_drawing_kinds c_o_drawing_numbers = some (1, rv, v_o_cover_width_z, v_o_cover_height_z, v_o_cover_top_z, v_o_cover_x_z, v_o_cover_y_z, v_o_cover_startX_z, v_o_cover_startY_z, c_o_cover_squares_z, c_o_cover_changes_z) → False := by
    intro x1 x2 x3 v_o_cover_top v_o_cover_x v_o_cover_y v_o_cover_startX v_o_cover_startY c_o_cover_squares c_o_cover_changes v_o_drawing_count c_o_drawing_kinds c_o_drawing_numbers hf
    rw [xP_render_b51] at hf
    obtain ⟨r62, v_o_cover_width_62, v_o_cover_height_62, v_o_cover_top_62, v_o_cover_x_62, v_o_cover_y_62, v_o_cover_startX_62, v_o_cover_startY_62, c_o_cover_squares_62, c_o_cover_changes_62, -, hf⟩ := kb10_some hf
    exact absurd (kr11 hf).1 (by decide)
  rw [xP_render] at hf
  refine lv_iload_n (pc := 0) hx hb d_xP_render_0 rfl (lv_at hl 1 rfl) ?_
  refine lv_iconst (pc := 1) (v := (1 : Int32)) hx hb d_xP_render_1 (by decide) ?_
  refine lv_icmp_lt (pc := 2) (tgt := 22) hx hb d_xP_render_2 (by decide) (fun hc => ?_) (fun hc => ?_)
  · rw [if_pos hc] at hf
    exact hb22 _ hf (lv_sub hl [] rfl)
  · rw [if_neg hc] at hf
    refine lv_iload_n (pc := 5) hx hb d_xP_render_5 rfl (lv_at hl 1 rfl) ?_
    refine lv_bipush (pc := 6) (v := (8 : Int32)) hx hb d_xP_render_6 (by decide) ?_
    refine lv_icmp_gt (pc := 8) (tgt := 22) hx hb d_xP_render_8 (by decide) (fun hc => ?_) (fun hc => ?_)
    · rw [if_pos hc] at hf
      exact hb22 _ hf (lv_sub hl [] rfl)
    · rw [if_neg hc] at hf
      refine lv_iload_n (pc := 11) hx hb d_xP_render_11 rfl (lv_at hl 2 rfl) ?_
      refine lv_iconst (pc := 12) (v := (1 : Int32)) hx hb d_xP_render_12 (by decide) ?_
      refine lv_icmp_lt (pc := 13) (tgt := 22) hx hb d_xP_render_13 (by decide) (fun hc => ?_) (fun hc => ?_)
      · rw [if_pos hc] at hf
        exact hb22 _ hf (lv_sub hl [] rfl)
      · rw [if_neg hc] at hf
        refine lv_iload_n (pc := 16) hx hb d_xP_render_16 rfl (lv_at hl 2 rfl) ?_
        refine lv_bipush (pc := 17) (v := (8 : Int32)) hx hb d_xP_render_17 (by decide) ?_
        refine lv_icmp_le (pc := 19) (tgt := 32) hx hb d_xP_render_19 (by decide) (fun hc => ?_) (fun hc => ?_)
        · rw [if_pos hc] at hf
          refine lv_iload_n (pc := 32) hx hb d_xP_render_32 rfl (lv_at hl 3 rfl) ?_
          refine lv_if_eq (pc := 33) (tgt := 51) hx hb d_xP_render_33 (by decide) (fun hc => ?_) (fun hc => ?_)
          · rw [if_pos hc] at hf
            exfalso
            exact nb51 x1 x2 x3 v_o_cover_top v_o_cover_x v_o_cover_y v_o_cover_startX v_o_cover_startY c_o_cover_squares c_o_cover_changes v_o_drawing_count c_o_drawing_kinds c_o_drawing_numbers hf
          · rw [if_neg hc] at hf
            refine lv_iload_n (pc := 36) hx hb d_xP_render_36 rfl (lv_at hl 3 rfl) ?_
            refine lv_iconst (pc := 37) (v := (1 : Int32)) hx hb d_xP_render_37 (by decide) ?_
            refine lv_icmp_eq (pc := 38) (tgt := 51) hx hb d_xP_render_38 (by decide) (fun hc => ?_) (fun hc => ?_)
            · rw [if_pos hc] at hf
              exfalso
              exact nb51 x1 x2 x3 v_o_cover_top v_o_cover_x v_o_cover_y v_o_cover_startX v_o_cover_startY c_o_cover_squares c_o_cover_changes v_o_drawing_count c_o_drawing_kinds c_o_drawing_numbers hf
            · rw [if_neg hc] at hf
              obtain ⟨e_0, e_1, e_2, e_3, e_4, e_5, e_6, e_7, e_8, e_9, e_10⟩ := kr11 hf
              obtain ⟨sa, hsa⟩ := hF.2.2.2.1 (120, "the rule is not 0 or 1") (List.mem_of_getElem? (i := 9) rfl)
              rw [hQ]
              exact kt_throw (pc := 41) hx hb hfl (own := "PathTexts") (text := "the rule is not 0 or 1") (names := ["java/lang/RuntimeException", "java/lang/Exception"]) (ik := 55) (is := 120) (ic := 59) hown (by decide +kernel) (by decide +kernel) (hts _ (List.mem_cons_of_mem _ kw_422)) (hts _ (List.mem_cons_of_mem _ kw_12)) (ks_any hsa.1) (oa_1 (fun w h => hts w (List.mem_cons_of_mem _ h)) (kf_sp hF) hF.2.2.2.2.1 (hts _ (List.mem_cons_of_mem _ kw_465))) htab hlocks (hl.1.trans hml.symm) d_xP_render_41 d_xP_render_44 d_xP_render_45 d_xP_render_47 d_xP_render_50 (Nat.le_of_ble_eq_true rfl) (Nat.le_of_ble_eq_true rfl) (Nat.le_of_ble_eq_true rfl) (Nat.le_of_ble_eq_true rfl) (fun t ha hz hq => ⟨⟨hz, fun q h _ => hq q h⟩, by rw [← e_2, ← e_3, ← e_4, ← e_5, ← e_6, ← e_7, ← e_8, ← e_9, ← e_10]; exact (va_P.kept hP (fun k q9 hk => hq q9.1 (hP k q9 hk).lt))⟩)
        · rw [if_neg hc] at hf
          exact hb22 _ hf (lv_sub hl [] rfl)
set_option maxHeartbeats 4000000 in
set_option maxRecDepth 100000 in
theorem cx_xP_covered_4 (l : Launch) (dC : Nat → ClassId) (dI : Nat → Nat → Nat) (q_o : Nat) (q_o_text : Nat) (q_o_written : Nat) (q_o_reader : Nat) (q_o_cover : Nat) (q_o_given : Nat) (q_o_drawing : Nat) (q_o_spare : Nat) (q_o_cover_squares : Nat) (q_o_cover_changes : Nat) (k_o_cover_squares : ClassId) (tt : Nat) (x1 : Int32) (x2 : Int32) (v_o_cover_width : Int32) (v_o_cover_height : Int32) (v_o_cover_top : Int64) (v_o_cover_x : Int64) (v_o_cover_y : Int64) (v_o_cover_startX : Int64) (v_o_cover_startY : Int64) (c_o_cover_squares : (Nat → Int32)) (rv : Int32) (hfl : l.flags = flags0) (hf : xP_covered x1 x2 v_o_cover_width v_o_cover_height c_o_cover_squares = some (4, rv)) : kt_Met l y_xP_covered w_xP_covered ({ frames := 6, cells := 1, slots := 6, locals := 82 }) (va_Pc [.ref q_o, .int x1, .int x2] (fun U => va_P (dC, dI) clz [(q_o, .inr (6, f_P q_o_text q_o_written q_o_reader q_o_cover q_o_given q_o_drawing q_o_spare)), (q_o_cover, .inr (0, f_Cover q_o_cover_squares q_o_cover_changes v_o_cover_width v_o_cover_height v_o_cover_top v_o_cover_x v_o_cover_y v_o_cover_startX v_o_cover_startY)), (q_o_cover_squares, .inl (k_o_cover_squares, 64, .inl c_o_cover_squares))] U.heap ∧ va_K (dC, dI) clz [(k_o_cover_squares, .int)] U ∧ kf tt (fun _ => False) U)) "java/lang/IndexOutOfBoundsException" (fun st t => va_F (fun _ => False) st t ∧ va_P (dC, dI) clz [(q_o, .inr (6, f_P q_o_text q_o_written q_o_reader q_o_cover q_o_given q_o_drawing q_o_spare)), (q_o_cover, .inr (0, f_Cover q_o_cover_squares q_o_cover_changes v_o_cover_width v_o_cover_height v_o_cover_top v_o_cover_x v_o_cover_y v_o_cover_startX v_o_cover_startY)), (q_o_cover_squares, .inl (k_o_cover_squares, 64, .inl c_o_cover_squares))] t.heap) 1 6 (fun _ => False) := by
  refine kt_ofW (cc := prog_1_method_13_code) (maxL := 3) (ret := (some .int)) (by decide +kernel) rfl ?_
  intro p e s m args below meth c s₁ B hml htab hv
  obtain ⟨hargs, hP, hK, hF⟩ := hv
  have hE := hF.1
  have hx := B.exec
  have hb := B.bytes
  have hr := B.returns
  have hts := atoms_spec (ws := w_xP_covered) B.pre
  have hown : s.vm.findClass "PathTexts" = some m.cls := findClass_of_methodNamed B.named
  have hlocks := B.notSynchronized
  have hS : va_S (fun _ => False) s.heap s.heap [] := va_S.rf
  have hl := lv_entry ([.ref q_o, .int x1, .int x2]) (n := 3) (Nat.le_of_ble_eq_true rfl)
  have hent : entryFrame m args 3 = F0 m 0 (lg_sl ([.ref q_o, .int x1, .int x2]) ++ List.replicate (3 - (lg_sl ([.ref q_o, .int x1, .int x2])).length) Slot.unset).toArray [] := by rw [hargs, lg_entry_eq]
  rw [hent]
  clear hent hargs
  generalize (lg_sl ([.ref q_o, .int x1, .int x2]) ++ List.replicate (3 - (lg_sl ([.ref q_o, .int x1, .int x2])).length) Slot.unset).toArray = ls at hl ⊢
  have hl : lv_has ls 3 [(0, .ref q_o), (1, .int x1), (2, .int x2)] := hl
  obtain ⟨Q, hQ⟩ : ∃ Q, Q = kt_MQ below "java/lang/IndexOutOfBoundsException" (fun st t => va_F (fun _ => False) st t ∧ va_P (dC, dI) clz [(q_o, .inr (6, f_P q_o_text q_o_written q_o_reader q_o_cover q_o_given q_o_drawing q_o_spare)), (q_o_cover, .inr (0, f_Cover q_o_cover_squares q_o_cover_changes v_o_cover_width v_o_cover_height v_o_cover_top v_o_cover_x v_o_cover_y v_o_cover_startX v_o_cover_startY)), (q_o_cover_squares, .inl (k_o_cover_squares, 64, .inl c_o_cover_squares))] t.heap) s 1 6 (fun _ => False) := ⟨_, rfl⟩
  rw [← hQ]
  have hb30 : ∀  (ls : Array Slot), xP_covered_b30  = some (4, rv) → lv_has ls 3 [] → W p l e (headSpec w_xP_covered ({ frames := 6, cells := 1, slots := 6, locals := 82 })).room s m args below meth c s.heap [] 0 0 Q (F0 m 30 ls []) := by
    intro  ls hf hl
    rw [xP_covered_b30] at hf
    obtain ⟨e_0, e_1⟩ := kr2 hf
    obtain ⟨sa, hsa⟩ := hF.2.2.2.1 (132, "no such square") (List.mem_of_getElem? (i := 10) rfl)
    rw [hQ]
    exact kt_throw (pc := 30) hx hb hfl (own := "PathTexts") (text := "no such square") (names := ["java/lang/RuntimeException", "java/lang/Exception"]) (ik := 89) (is := 132) (ic := 93) hown (by decide +kernel) (by decide +kernel) (hts _ (List.mem_cons_of_mem _ kw_574)) (hts _ (List.mem_cons_of_mem _ kw_17)) (ks_any hsa.1) (oa_4 (fun w h => hts w (List.mem_cons_of_mem _ h)) (kf_sp hF) hF.2.2.2.2.1 (hts _ (List.mem_cons_of_mem _ kw_584))) htab hlocks (hl.1.trans hml.symm) d_xP_covered_30 d_xP_covered_33 d_xP_covered_34 d_xP_covered_36 d_xP_covered_39 (Nat.le_of_ble_eq_true rfl) (Nat.le_of_ble_eq_true rfl) (Nat.le_of_ble_eq_true rfl) (Nat.le_of_ble_eq_true rfl) (fun t ha hz hq => ⟨⟨hz, fun q h _ => hq q h⟩, va_P.kept hP (fun k q9 hk => hq q9.1 (hP k q9 hk).lt)⟩)
  rw [xP_covered] at hf
  refine lv_iload_n (pc := 0) hx hb d_xP_covered_0 rfl (lv_at hl 1 rfl) ?_
  refine lv_if_lt (pc := 1) (tgt := 30) hx hb d_xP_covered_1 (by decide) (fun hc => ?_) (fun hc => ?_)
  · rw [if_pos hc] at hf
    exact hb30 _ hf (lv_sub hl [] rfl)
  · rw [if_neg hc] at hf
    refine lv_iload_n (pc := 4) hx hb d_xP_covered_4 rfl (lv_at hl 1 rfl) ?_
    refine lv_aload_n (pc := 5) hx hb d_xP_covered_5 rfl (lv_at hl 0 rfl) ?_
    refine va_get (pc := 6) (D := (dC, dI)) (ci := 6) (v := .ref q_o_cover) (C := "PathTexts") (T := F_P) (N := 7) hx hb hts (fun w h => List.mem_cons_of_mem _ (in_P w h)) hown hK hP 0 rfl rfl 3 (by decide) (hts _ (List.mem_cons_of_mem _ kw_189)) (fun _ h9 => h9) fg_P_3 d_xP_covered_6 ?_
    refine va_get (pc := 9) (D := (dC, dI)) (ci := 0) (v := .int v_o_cover_width) (C := "PathTexts$Cover") (T := F_Cover) (N := 9) hx hb hts (fun w h => List.mem_cons_of_mem _ (in_Cover w h)) hown hK hP 1 rfl rfl 2 (by decide) (hts _ (List.mem_cons_of_mem _ kw_132)) (fun _ h9 => h9) fg_Cover_2 d_xP_covered_9 ?_
    refine lv_icmp_ge (pc := 12) (tgt := 30) hx hb d_xP_covered_12 (by decide) (fun hc => ?_) (fun hc => ?_)
    · rw [if_pos hc] at hf
      exact hb30 _ hf (lv_sub hl [] rfl)
    · rw [if_neg hc] at hf
      refine lv_iload_n (pc := 15) hx hb d_xP_covered_15 rfl (lv_at hl 2 rfl) ?_
      refine lv_if_lt (pc := 16) (tgt := 30) hx hb d_xP_covered_16 (by decide) (fun hc => ?_) (fun hc => ?_)
      · rw [if_pos hc] at hf
        exact hb30 _ hf (lv_sub hl [] rfl)
      · rw [if_neg hc] at hf
        refine lv_iload_n (pc := 19) hx hb d_xP_covered_19 rfl (lv_at hl 2 rfl) ?_
        refine lv_aload_n (pc := 20) hx hb d_xP_covered_20 rfl (lv_at hl 0 rfl) ?_
        refine va_get (pc := 21) (D := (dC, dI)) (ci := 6) (v := .ref q_o_cover) (C := "PathTexts") (T := F_P) (N := 7) hx hb hts (fun w h => List.mem_cons_of_mem _ (in_P w h)) hown hK hP 0 rfl rfl 3 (by decide) (hts _ (List.mem_cons_of_mem _ kw_189)) (fun _ h9 => h9) fg_P_3 d_xP_covered_21 ?_
        refine va_get (pc := 24) (D := (dC, dI)) (ci := 0) (v := .int v_o_cover_height) (C := "PathTexts$Cover") (T := F_Cover) (N := 9) hx hb hts (fun w h => List.mem_cons_of_mem _ (in_Cover w h)) hown hK hP 1 rfl rfl 3 (by decide) (hts _ (List.mem_cons_of_mem _ kw_134)) (fun _ h9 => h9) fg_Cover_3 d_xP_covered_24 ?_
        refine lv_icmp_lt (pc := 27) (tgt := 40) hx hb d_xP_covered_27 (by decide) (fun hc => ?_) (fun hc => ?_)
        · rw [if_pos hc] at hf
          exfalso
          obtain ⟨-, hf⟩ := kg_some hf
          exact absurd (kr2 hf).1 (by decide)
        · rw [if_neg hc] at hf
          exact hb30 _ hf (lv_sub hl [] rfl)
