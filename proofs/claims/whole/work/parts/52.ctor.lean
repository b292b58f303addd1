theorem kw_24 : (Jvm.Cond.methodLink "PathTexts" (3 : Nat) ({ cls := "java/lang/Object", name := "<init>", desc := "()V" } : Jvm.MethodName)) ∈ kw := kt_1 (List.mem_of_getElem? (i := 24) rfl) rfl
theorem kw_27 : (Jvm.Cond.classLink "PathTexts" (9 : Nat) "PathTexts$Row") ∈ kw := kt_1 (List.mem_of_getElem? (i := 27) rfl) rfl
theorem kw_28 : (Jvm.Cond.instantiable "PathTexts$Row" (2 : Nat)) ∈ kw := kt_1 (List.mem_of_getElem? (i := 28) rfl) rfl
theorem kw_29 : (Jvm.Cond.methodLink "PathTexts" (11 : Nat) ({ cls := "PathTexts$Row", name := "<init>", desc := "(I)V" } : Jvm.MethodName)) ∈ kw := kt_1 (List.mem_of_getElem? (i := 29) rfl) rfl
theorem kw_30 : (Jvm.Cond.instanceMethod ({ cls := "PathTexts$Row", name := "<init>", desc := "(I)V" } : Jvm.MethodName)) ∈ kw := kt_1 (List.mem_of_getElem? (i := 30) rfl) rfl
theorem kw_31 : (Jvm.Cond.code ({ cls := "PathTexts$Row", name := "<init>", desc := "(I)V" } : Jvm.MethodName) prog_7_method_1_code (2 : Nat) (Option.none : Option Jvm.ClassFile.FieldType)) ∈ kw := kt_1 (List.mem_of_getElem? (i := 31) rfl) rfl
theorem kw_32 : (Jvm.Cond.methodLink "PathTexts$Row" (1 : Nat) ({ cls := "java/lang/Object", name := "<init>", desc := "()V" } : Jvm.MethodName)) ∈ kw := kt_1 (List.mem_of_getElem? (i := 32) rfl) rfl
theorem kw_43 : (Jvm.Cond.arrayClass Jvm.ClassFile.FieldType.char) ∈ kw := kt_1 (List.mem_of_getElem? (i := 43) rfl) rfl
theorem kw_44 : (Jvm.Cond.classLink "PathTexts" (21 : Nat) "PathTexts$Reader") ∈ kw := kt_1 (List.mem_of_getElem? (i := 44) rfl) rfl
theorem kw_45 : (Jvm.Cond.instantiable "PathTexts$Reader" (6 : Nat)) ∈ kw := kt_1 (List.mem_of_getElem? (i := 45) rfl) rfl
theorem kw_46 : (Jvm.Cond.methodLink "PathTexts" (23 : Nat) ({ cls := "PathTexts$Reader", name := "<init>", desc := "(LPathTexts$Row;)V" } : Jvm.MethodName)) ∈ kw := kt_1 (List.mem_of_getElem? (i := 46) rfl) rfl
theorem kw_47 : (Jvm.Cond.instanceMethod ({ cls := "PathTexts$Reader", name := "<init>", desc := "(LPathTexts$Row;)V" } : Jvm.MethodName)) ∈ kw := kt_1 (List.mem_of_getElem? (i := 47) rfl) rfl
theorem kw_48 : (Jvm.Cond.code ({ cls := "PathTexts$Reader", name := "<init>", desc := "(LPathTexts$Row;)V" } : Jvm.MethodName) prog_6_method_1_code (2 : Nat) (Option.none : Option Jvm.ClassFile.FieldType)) ∈ kw := kt_1 (List.mem_of_getElem? (i := 48) rfl) rfl
theorem kw_49 : (Jvm.Cond.methodLink "PathTexts$Reader" (3 : Nat) ({ cls := "java/lang/Object", name := "<init>", desc := "()V" } : Jvm.MethodName)) ∈ kw := kt_1 (List.mem_of_getElem? (i := 49) rfl) rfl
theorem kw_50 : (Jvm.Cond.classLink "PathTexts$Reader" (9 : Nat) "PathTexts$Pen") ∈ kw := kt_1 (List.mem_of_getElem? (i := 50) rfl) rfl
theorem kw_51 : (Jvm.Cond.instantiable "PathTexts$Pen" (10 : Nat)) ∈ kw := kt_1 (List.mem_of_getElem? (i := 51) rfl) rfl
theorem kw_53 : (Jvm.Cond.instanceMethod ({ cls := "PathTexts$Pen", name := "<init>", desc := "()V" } : Jvm.MethodName)) ∈ kw := kt_1 (List.mem_of_getElem? (i := 53) rfl) rfl
theorem kw_54 : (Jvm.Cond.code ({ cls := "PathTexts$Pen", name := "<init>", desc := "()V" } : Jvm.MethodName) prog_5_method_1_code (1 : Nat) (Option.none : Option Jvm.ClassFile.FieldType)) ∈ kw := kt_1 (List.mem_of_getElem? (i := 54) rfl) rfl
theorem kw_55 : (Jvm.Cond.methodLink "PathTexts$Pen" (3 : Nat) ({ cls := "java/lang/Object", name := "<init>", desc := "()V" } : Jvm.MethodName)) ∈ kw := kt_1 (List.mem_of_getElem? (i := 55) rfl) rfl
theorem kw_56 : (Jvm.Cond.classLink "PathTexts$Pen" (9 : Nat) "PathTexts$Matrices") ∈ kw := kt_1 (List.mem_of_getElem? (i := 56) rfl) rfl
theorem kw_57 : (Jvm.Cond.instantiable "PathTexts$Matrices" (2 : Nat)) ∈ kw := kt_1 (List.mem_of_getElem? (i := 57) rfl) rfl
theorem kw_59 : (Jvm.Cond.instanceMethod ({ cls := "PathTexts$Matrices", name := "<init>", desc := "()V" } : Jvm.MethodName)) ∈ kw := kt_1 (List.mem_of_getElem? (i := 59) rfl) rfl
theorem kw_60 : (Jvm.Cond.code ({ cls := "PathTexts$Matrices", name := "<init>", desc := "()V" } : Jvm.MethodName) prog_4_method_1_code (1 : Nat) (Option.none : Option Jvm.ClassFile.FieldType)) ∈ kw := kt_1 (List.mem_of_getElem? (i := 60) rfl) rfl
theorem kw_61 : (Jvm.Cond.methodLink "PathTexts$Matrices" (3 : Nat) ({ cls := "java/lang/Object", name := "<init>", desc := "()V" } : Jvm.MethodName)) ∈ kw := kt_1 (List.mem_of_getElem? (i := 61) rfl) rfl
theorem kw_70 : (Jvm.Cond.arrayClass Jvm.ClassFile.FieldType.long) ∈ kw := kt_1 (List.mem_of_getElem? (i := 70) rfl) rfl
theorem kw_122 : (Jvm.Cond.classLink "PathTexts" (30 : Nat) "PathTexts$Cover") ∈ kw := kt_1 (List.mem_of_getElem? (i := 122) rfl) rfl
theorem kw_123 : (Jvm.Cond.instantiable "PathTexts$Cover" (9 : Nat)) ∈ kw := kt_1 (List.mem_of_getElem? (i := 123) rfl) rfl
theorem kw_125 : (Jvm.Cond.instanceMethod ({ cls := "PathTexts$Cover", name := "<init>", desc := "()V" } : Jvm.MethodName)) ∈ kw := kt_1 (List.mem_of_getElem? (i := 125) rfl) rfl
theorem kw_126 : (Jvm.Cond.code ({ cls := "PathTexts$Cover", name := "<init>", desc := "()V" } : Jvm.MethodName) prog_2_method_1_code (1 : Nat) (Option.none : Option Jvm.ClassFile.FieldType)) ∈ kw := kt_1 (List.mem_of_getElem? (i := 126) rfl) rfl
theorem kw_127 : (Jvm.Cond.methodLink "PathTexts$Cover" (3 : Nat) ({ cls := "java/lang/Object", name := "<init>", desc := "()V" } : Jvm.MethodName)) ∈ kw := kt_1 (List.mem_of_getElem? (i := 127) rfl) rfl
theorem kw_159 : (Jvm.Cond.arrayClass Jvm.ClassFile.FieldType.int) ∈ kw := kt_1 (List.mem_of_getElem? (i := 159) rfl) rfl
theorem kw_160 : (Jvm.Cond.classLink "PathTexts" (41 : Nat) "PathTexts$Drawing") ∈ kw := kt_1 (List.mem_of_getElem? (i := 160) rfl) rfl
theorem kw_161 : (Jvm.Cond.instantiable "PathTexts$Drawing" (3 : Nat)) ∈ kw := kt_1 (List.mem_of_getElem? (i := 161) rfl) rfl
theorem kw_163 : (Jvm.Cond.instanceMethod ({ cls := "PathTexts$Drawing", name := "<init>", desc := "()V" } : Jvm.MethodName)) ∈ kw := kt_1 (List.mem_of_getElem? (i := 163) rfl) rfl
theorem kw_164 : (Jvm.Cond.code ({ cls := "PathTexts$Drawing", name := "<init>", desc := "()V" } : Jvm.MethodName) prog_3_method_1_code (1 : Nat) (Option.none : Option Jvm.ClassFile.FieldType)) ∈ kw := kt_1 (List.mem_of_getElem? (i := 164) rfl) rfl
theorem kw_165 : (Jvm.Cond.methodLink "PathTexts$Drawing" (3 : Nat) ({ cls := "java/lang/Object", name := "<init>", desc := "()V" } : Jvm.MethodName)) ∈ kw := kt_1 (List.mem_of_getElem? (i := 165) rfl) rfl
theorem kw_670 : (Jvm.Cond.methodLink "PathTextsModel" (1 : Nat) ({ cls := "java/lang/Object", name := "<init>", desc := "()V" } : Jvm.MethodName)) ∈ kw := kt_3 (List.mem_of_getElem? (i := 190) rfl) rfl
abbrev y_iRow_1200 : MethodName := ⟨"PathTexts$Row", "<init>", "(I)V"⟩
abbrev w_iRow_1200 : List Cond := .code y_iRow_1200 prog_7_method_1_code 2 none :: kw
theorem d_iRow_1200_0 : decode prog_7_method_1_code 0 = .ok (.aload_n 0, 1) := by decide +kernel
theorem d_iRow_1200_1 : decode prog_7_method_1_code 1 = .ok (.invokespecial 1, 3) := by decide +kernel
theorem d_iRow_1200_4 : decode prog_7_method_1_code 4 = .ok (.aload_n 0, 1) := by decide +kernel
theorem d_iRow_1200_5 : decode prog_7_method_1_code 5 = .ok (.iload_n 1, 1) := by decide +kernel
theorem d_iRow_1200_6 : decode prog_7_method_1_code 6 = .ok (.ifCond .ge 7, 3) := by decide +kernel
theorem d_iRow_1200_9 : decode prog_7_method_1_code 9 = .ok (.iconst 0, 1) := by decide +kernel
theorem d_iRow_1200_10 : decode prog_7_method_1_code 10 = .ok (.goto 4, 3) := by decide +kernel
theorem d_iRow_1200_13 : decode prog_7_method_1_code 13 = .ok (.iload_n 1, 1) := by decide +kernel
theorem d_iRow_1200_14 : decode prog_7_method_1_code 14 = .ok (.newarray .char, 2) := by decide +kernel
theorem d_iRow_1200_16 : decode prog_7_method_1_code 16 = .ok (.putfield 7, 3) := by decide +kernel
theorem d_iRow_1200_19 : decode prog_7_method_1_code 19 = .ok (.return_, 1) := by decide +kernel
set_option maxHeartbeats 4000000 in
set_option maxRecDepth 100000 in
theorem ct_iRow_1200 (l : Launch) (dC : Nat → ClassId) (dI : Nat → Nat → Nat) (q_o : Nat) (sz : Nat) : Met l y_iRow_1200 w_iRow_1200 ({ frames := 1, cells := 1, slots := 1200, locals := 12 }) (va_Pc [.ref q_o, .int (1200 : Int32)] (fun U => U.heap.size = sz ∧ va_P (dC, dI) clz [(q_o, .inr (5, [.null, .int 0]))] U.heap ∧ va_K (dC, dI) clz [] U ∧ va_D (fun _ => True) [(q_o, .inr (5, [.null, .int 0]))])) (va_Qv (fun _ : Unit => True) (fun _ t => ∃ (q14 : Nat) (k14 : ClassId), va_P (dC, dI) clz [(q_o, .inr (5, f_Row q14 0)), (q14, .inl (k14, 1200, .inl (fun _ => 0)))] t.heap ∧ va_K (dC, dI) clz [(k14, .char)] t ∧ va_D (va_A [(q_o, .inr (5, [.null, .int 0]))] sz) [(q_o, .inr (5, f_Row q14 0)), (q14, .inl (k14, 1200, .inl (fun _ => 0)))]) (va_A [(q_o, .inr (5, [.null, .int 0]))] sz)) 1 1200 (va_A [(q_o, .inr (5, [.null, .int 0]))] sz) := by
  refine Met.ofW (cc := prog_7_method_1_code) (maxL := 2) (ret := none) (by decide +kernel) rfl ?_
  intro p e s m args below meth c s₁ B hml hv
  obtain ⟨hargs, hsz, hP, hK, hD0⟩ := hv
  have hx := B.exec
  have hb := B.bytes
  have hr := B.returns
  have hts := atoms_spec (ws := w_iRow_1200) B.pre
  have hown : s.vm.findClass "PathTexts$Row" = some m.cls := findClass_of_methodNamed B.named
  have hlocks := B.notSynchronized
  have hin : meth.name = "<init>" := (name_of_methodNamed B.named B.method).1
  subst hsz
  have hD := hD0.self (sz := s.heap.size)
  generalize hAe : va_A [(q_o, .inr (5, [.null, .int 0]))] s.heap.size = A at hD ⊢
  have hA : ∀ q : Nat, s.heap.size ≤ q → A q := fun q h => by rw [← hAe]; exact Or.inr h
  clear hAe hD0
  have hS : va_S A s.heap s.heap [] := va_S.rf
  have hl := lv_entry ([.ref q_o, .int (1200 : Int32)]) (n := 2) (Nat.le_of_ble_eq_true rfl)
  have hent : entryFrame m args 2 = F0 m 0 (lg_sl ([.ref q_o, .int (1200 : Int32)]) ++ List.replicate (2 - (lg_sl ([.ref q_o, .int (1200 : Int32)])).length) Slot.unset).toArray [] := by rw [hargs, lg_entry_eq]
  rw [hent]
  clear hent hargs
  generalize (lg_sl ([.ref q_o, .int (1200 : Int32)]) ++ List.replicate (2 - (lg_sl ([.ref q_o, .int (1200 : Int32)])).length) Slot.unset).toArray = ls at hl ⊢
  have hl : lv_has ls 2 [(0, .ref q_o), (1, .int (1200 : Int32))] := hl
  refine lv_aload_n (pc := 0) hx hb d_iRow_1200_0 rfl (lv_at hl 0 rfl) ?_
  refine W.objInit hx hb hown (hts _ (List.mem_cons_of_mem _ kw_32)) (hts _ (List.mem_cons_of_mem _ kw_25)) (hts _ (List.mem_cons_of_mem _ kw_26)) rfl (by rw [hml]; exact hl.1) rfl d_iRow_1200_1 (Nat.le_of_ble_eq_true rfl) (Nat.le_of_ble_eq_true rfl) ?_
  refine W.eq (g2 := F0 m 4 ls []) rfl ?_
  refine lv_aload_n (pc := 4) hx hb d_iRow_1200_4 rfl (lv_at hl 0 rfl) ?_
  refine lv_iload_n (pc := 5) hx hb d_iRow_1200_5 rfl (lv_at hl 1 rfl) ?_
  refine lv_if_ge (pc := 6) (tgt := 13) hx hb d_iRow_1200_6 (by decide) (fun hc => ?_) (fun hc => absurd (by decide) hc)
  refine lv_iload_n (pc := 13) hx hb d_iRow_1200_13 rfl (lv_at hl 1 rfl) ?_
  refine va_newa (pc := 14) (atype := .char) (ty := .char) (a0 := (1200, .inl (fun _ => 0))) hx hb (hts _ (List.mem_cons_of_mem _ kw_43)) rfl hK hP hD hS hA (fun _ => rfl) (by decide) (N' := 1200) (by decide) (by decide) (Nat.le_of_ble_eq_true rfl) (Nat.le_of_ble_eq_true rfl) d_iRow_1200_14 (fun q14 k14 H hK hP hD hS => ?_)
  have hP : va_P (dC, dI) clz [(q_o, .inr (5, [.null, .int 0])), (q14, .inl (k14, 1200, .inl (fun _ => 0)))] H := hP
  have hD : va_D A [(q_o, .inr (5, [.null, .int 0])), (q14, .inl (k14, 1200, .inl (fun _ => 0)))] := hD
  have hK : va_K (dC, dI) clz [(k14, .char)] s := hK
  refine va_putF (pc := 16) (D := (dC, dI)) (ci := 5) (v := .ref q14) (ty := .array .char) (C := "PathTexts$Row") (T := F_Row) (N := 2) hx hb hts (fun w h => List.mem_cons_of_mem _ (in_Row w h)) t_Row tk_Row n_Row hown hK hP hD hS 0 rfl rfl 0 (by decide) (hts _ (List.mem_cons_of_mem _ kw_33)) (fun _ h9 => h9) rfl hin rfl (tk_Row 0 (by decide)) rfl rfl (Nat.le_of_ble_eq_true rfl) d_iRow_1200_16 (fun H locs hP hD hS => ?_)
  have hP : va_P (dC, dI) clz [(q_o, .inr (5, [.ref q14, .int 0])), (q14, .inl (k14, 1200, .inl (fun _ => 0)))] H := hP
  have hD : va_D A [(q_o, .inr (5, [.ref q14, .int 0])), (q14, .inl (k14, 1200, .inl (fun _ => 0)))] := hD
  refine W.widen (k := 1) (n := 1200) (Nat.le_of_ble_eq_true rfl) (Nat.le_of_ble_eq_true rfl) ?_
  exact W.vret hx hb hr (fun t ht hW => ⟨⟨(), rfl, trivial, q14, k14, by rw [ht]; exact hP, va_K.moved hW.alike hK, hD⟩, hS.F ht⟩) hS.2.2 d_iRow_1200_19
abbrev y_iRow_8250 : MethodName := ⟨"PathTexts$Row", "<init>", "(I)V"⟩
abbrev w_iRow_8250 : List Cond := .code y_iRow_8250 prog_7_method_1_code 2 none :: kw
theorem d_iRow_8250_0 : decode prog_7_method_1_code 0 = .ok (.aload_n 0, 1) := by decide +kernel
theorem d_iRow_8250_1 : decode prog_7_method_1_code 1 = .ok (.invokespecial 1, 3) := by decide +kernel
theorem d_iRow_8250_4 : decode prog_7_method_1_code 4 = .ok (.aload_n 0, 1) := by decide +kernel
theorem d_iRow_8250_5 : decode prog_7_method_1_code 5 = .ok (.iload_n 1, 1) := by decide +kernel
theorem d_iRow_8250_6 : decode prog_7_method_1_code 6 = .ok (.ifCond .ge 7, 3) := by decide +kernel
theorem d_iRow_8250_9 : decode prog_7_method_1_code 9 = .ok (.iconst 0, 1) := by decide +kernel
theorem d_iRow_8250_10 : decode prog_7_method_1_code 10 = .ok (.goto 4, 3) := by decide +kernel
theorem d_iRow_8250_13 : decode prog_7_method_1_code 13 = .ok (.iload_n 1, 1) := by decide +kernel
theorem d_iRow_8250_14 : decode prog_7_method_1_code 14 = .ok (.newarray .char, 2) := by decide +kernel
theorem d_iRow_8250_16 : decode prog_7_method_1_code 16 = .ok (.putfield 7, 3) := by decide +kernel
theorem d_iRow_8250_19 : decode prog_7_method_1_code 19 = .ok (.return_, 1) := by decide +kernel
set_option maxHeartbeats 4000000 in
set_option maxRecDepth 100000 in
theorem ct_iRow_8250 (l : Launch) (dC : Nat → ClassId) (dI : Nat → Nat → Nat) (q_o : Nat) (sz : Nat) : Met l y_iRow_8250 w_iRow_8250 ({ frames := 1, cells := 1, slots := 8250, locals := 12 }) (va_Pc [.ref q_o, .int (8250 : Int32)] (fun U => U.heap.size = sz ∧ va_P (dC, dI) clz [(q_o, .inr (5, [.null, .int 0]))] U.heap ∧ va_K (dC, dI) clz [] U ∧ va_D (fun _ => True) [(q_o, .inr (5, [.null, .int 0]))])) (va_Qv (fun _ : Unit => True) (fun _ t => ∃ (q14 : Nat) (k14 : ClassId), va_P (dC, dI) clz [(q_o, .inr (5, f_Row q14 0)), (q14, .inl (k14, 8250, .inl (fun _ => 0)))] t.heap ∧ va_K (dC, dI) clz [(k14, .char)] t ∧ va_D (va_A [(q_o, .inr (5, [.null, .int 0]))] sz) [(q_o, .inr (5, f_Row q14 0)), (q14, .inl (k14, 8250, .inl (fun _ => 0)))]) (va_A [(q_o, .inr (5, [.null, .int 0]))] sz)) 1 8250 (va_A [(q_o, .inr (5, [.null, .int 0]))] sz) := by
  refine Met.ofW (cc := prog_7_method_1_code) (maxL := 2) (ret := none) (by decide +kernel) rfl ?_
  intro p e s m args below meth c s₁ B hml hv
  obtain ⟨hargs, hsz, hP, hK, hD0⟩ := hv
  have hx := B.exec
  have hb := B.bytes
  have hr := B.returns
  have hts := atoms_spec (ws := w_iRow_8250) B.pre
  have hown : s.vm.findClass "PathTexts$Row" = some m.cls := findClass_of_methodNamed B.named
  have hlocks := B.notSynchronized
  have hin : meth.name = "<init>" := (name_of_methodNamed B.named B.method).1
  subst hsz
  have hD := hD0.self (sz := s.heap.size)
  generalize hAe : va_A [(q_o, .inr (5, [.null, .int 0]))] s.heap.size = A at hD ⊢
  have hA : ∀ q : Nat, s.heap.size ≤ q → A q := fun q h => by rw [← hAe]; exact Or.inr h
  clear hAe hD0
  have hS : va_S A s.heap s.heap [] := va_S.rf
  have hl := lv_entry ([.ref q_o, .int (8250 : Int32)]) (n := 2) (Nat.le_of_ble_eq_true rfl)
  have hent : entryFrame m args 2 = F0 m 0 (lg_sl ([.ref q_o, .int (8250 : Int32)]) ++ List.replicate (2 - (lg_sl ([.ref q_o, .int (8250 : Int32)])).length) Slot.unset).toArray [] := by rw [hargs, lg_entry_eq]
  rw [hent]
  clear hent hargs
  generalize (lg_sl ([.ref q_o, .int (8250 : Int32)]) ++ List.replicate (2 - (lg_sl ([.ref q_o, .int (8250 : Int32)])).length) Slot.unset).toArray = ls at hl ⊢
  have hl : lv_has ls 2 [(0, .ref q_o), (1, .int (8250 : Int32))] := hl
  refine lv_aload_n (pc := 0) hx hb d_iRow_8250_0 rfl (lv_at hl 0 rfl) ?_
  refine W.objInit hx hb hown (hts _ (List.mem_cons_of_mem _ kw_32)) (hts _ (List.mem_cons_of_mem _ kw_25)) (hts _ (List.mem_cons_of_mem _ kw_26)) rfl (by rw [hml]; exact hl.1) rfl d_iRow_8250_1 (Nat.le_of_ble_eq_true rfl) (Nat.le_of_ble_eq_true rfl) ?_
  refine W.eq (g2 := F0 m 4 ls []) rfl ?_
  refine lv_aload_n (pc := 4) hx hb d_iRow_8250_4 rfl (lv_at hl 0 rfl) ?_
  refine lv_iload_n (pc := 5) hx hb d_iRow_8250_5 rfl (lv_at hl 1 rfl) ?_
  refine lv_if_ge (pc := 6) (tgt := 13) hx hb d_iRow_8250_6 (by decide) (fun hc => ?_) (fun hc => absurd (by decide) hc)
  refine lv_iload_n (pc := 13) hx hb d_iRow_8250_13 rfl (lv_at hl 1 rfl) ?_
  refine va_newa (pc := 14) (atype := .char) (ty := .char) (a0 := (8250, .inl (fun _ => 0))) hx hb (hts _ (List.mem_cons_of_mem _ kw_43)) rfl hK hP hD hS hA (fun _ => rfl) (by decide) (N' := 8250) (by decide) (by decide) (Nat.le_of_ble_eq_true rfl) (Nat.le_of_ble_eq_true rfl) d_iRow_8250_14 (fun q14 k14 H hK hP hD hS => ?_)
  have hP : va_P (dC, dI) clz [(q_o, .inr (5, [.null, .int 0])), (q14, .inl (k14, 8250, .inl (fun _ => 0)))] H := hP
  have hD : va_D A [(q_o, .inr (5, [.null, .int 0])), (q14, .inl (k14, 8250, .inl (fun _ => 0)))] := hD
  have hK : va_K (dC, dI) clz [(k14, .char)] s := hK
  refine va_putF (pc := 16) (D := (dC, dI)) (ci := 5) (v := .ref q14) (ty := .array .char) (C := "PathTexts$Row") (T := F_Row) (N := 2) hx hb hts (fun w h => List.mem_cons_of_mem _ (in_Row w h)) t_Row tk_Row n_Row hown hK hP hD hS 0 rfl rfl 0 (by decide) (hts _ (List.mem_cons_of_mem _ kw_33)) (fun _ h9 => h9) rfl hin rfl (tk_Row 0 (by decide)) rfl rfl (Nat.le_of_ble_eq_true rfl) d_iRow_8250_16 (fun H locs hP hD hS => ?_)
  have hP : va_P (dC, dI) clz [(q_o, .inr (5, [.ref q14, .int 0])), (q14, .inl (k14, 8250, .inl (fun _ => 0)))] H := hP
  have hD : va_D A [(q_o, .inr (5, [.ref q14, .int 0])), (q14, .inl (k14, 8250, .inl (fun _ => 0)))] := hD
  refine W.widen (k := 1) (n := 8250) (Nat.le_of_ble_eq_true rfl) (Nat.le_of_ble_eq_true rfl) ?_
  exact W.vret hx hb hr (fun t ht hW => ⟨⟨(), rfl, trivial, q14, k14, by rw [ht]; exact hP, va_K.moved hW.alike hK, hD⟩, hS.F ht⟩) hS.2.2 d_iRow_8250_19
abbrev y_iCover : MethodName := ⟨"PathTexts$Cover", "<init>", "()V"⟩
abbrev w_iCover : List Cond := .code y_iCover prog_2_method_1_code 1 none :: kw
theorem d_iCover_0 : decode prog_2_method_1_code 0 = .ok (.aload_n 0, 1) := by decide +kernel
theorem d_iCover_1 : decode prog_2_method_1_code 1 = .ok (.invokespecial 3, 3) := by decide +kernel
theorem d_iCover_4 : decode prog_2_method_1_code 4 = .ok (.aload_n 0, 1) := by decide +kernel
theorem d_iCover_5 : decode prog_2_method_1_code 5 = .ok (.bipush 64, 2) := by decide +kernel
theorem d_iCover_7 : decode prog_2_method_1_code 7 = .ok (.newarray .int, 2) := by decide +kernel
theorem d_iCover_9 : decode prog_2_method_1_code 9 = .ok (.putfield 9, 3) := by decide +kernel
theorem d_iCover_12 : decode prog_2_method_1_code 12 = .ok (.aload_n 0, 1) := by decide +kernel
theorem d_iCover_13 : decode prog_2_method_1_code 13 = .ok (.sipush 2048, 3) := by decide +kernel
theorem d_iCover_16 : decode prog_2_method_1_code 16 = .ok (.newarray .int, 2) := by decide +kernel
theorem d_iCover_18 : decode prog_2_method_1_code 18 = .ok (.putfield 15, 3) := by decide +kernel
theorem d_iCover_21 : decode prog_2_method_1_code 21 = .ok (.return_, 1) := by decide +kernel
set_option maxHeartbeats 4000000 in
set_option maxRecDepth 100000 in
theorem ct_iCover (l : Launch) (dC : Nat → ClassId) (dI : Nat → Nat → Nat) (q_o : Nat) (sz : Nat) : Met l y_iCover w_iCover ({ frames := 1, cells := 2, slots := 2112, locals := 12 }) (va_Pc [.ref q_o] (fun U => U.heap.size = sz ∧ va_P (dC, dI) clz [(q_o, .inr (0, [.null, .null, .int 0, .int 0, .long 0, .long 0, .long 0, .long 0, .long 0]))] U.heap ∧ va_K (dC, dI) clz [] U ∧ va_D (fun _ => True) [(q_o, .inr (0, [.null, .null, .int 0, .int 0, .long 0, .long 0, .long 0, .long 0, .long 0]))])) (va_Qv (fun _ : Unit => True) (fun _ t => ∃ (q7 q16 : Nat) (k7 k16 : ClassId), va_P (dC, dI) clz [(q_o, .inr (0, f_Cover q7 q16 0 0 0 0 0 0 0)), (q7, .inl (k7, 64, .inl (fun _ => 0))), (q16, .inl (k16, 2048, .inl (fun _ => 0)))] t.heap ∧ va_K (dC, dI) clz [(k7, .int), (k16, .int)] t ∧ va_D (va_A [(q_o, .inr (0, [.null, .null, .int 0, .int 0, .long 0, .long 0, .long 0, .long 0, .long 0]))] sz) [(q_o, .inr (0, f_Cover q7 q16 0 0 0 0 0 0 0)), (q7, .inl (k7, 64, .inl (fun _ => 0))), (q16, .inl (k16, 2048, .inl (fun _ => 0)))]) (va_A [(q_o, .inr (0, [.null, .null, .int 0, .int 0, .long 0, .long 0, .long 0, .long 0, .long 0]))] sz)) 2 2112 (va_A [(q_o, .inr (0, [.null, .null, .int 0, .int 0, .long 0, .long 0, .long 0, .long 0, .long 0]))] sz) := by
  refine Met.ofW (cc := prog_2_method_1_code) (maxL := 1) (ret := none) (by decide +kernel) rfl ?_
  intro p e s m args below meth c s₁ B hml hv
  obtain ⟨hargs, hsz, hP, hK, hD0⟩ := hv
  have hx := B.exec
  have hb := B.bytes
  have hr := B.returns
  have hts := atoms_spec (ws := w_iCover) B.pre
  have hown : s.vm.findClass "PathTexts$Cover" = some m.cls := findClass_of_methodNamed B.named
  have hlocks := B.notSynchronized
  have hin : meth.name = "<init>" := (name_of_methodNamed B.named B.method).1
  subst hsz
  have hD := hD0.self (sz := s.heap.size)
  generalize hAe : va_A [(q_o, .inr (0, [.null, .null, .int 0, .int 0, .long 0, .long 0, .long 0, .long 0, .long 0]))] s.heap.size = A at hD ⊢
  have hA : ∀ q : Nat, s.heap.size ≤ q → A q := fun q h => by rw [← hAe]; exact Or.inr h
  clear hAe hD0
  have hS : va_S A s.heap s.heap [] := va_S.rf
  have hl := lv_entry ([.ref q_o]) (n := 1) (Nat.le_of_ble_eq_true rfl)
  have hent : entryFrame m args 1 = F0 m 0 (lg_sl ([.ref q_o]) ++ List.replicate (1 - (lg_sl ([.ref q_o])).length) Slot.unset).toArray [] := by rw [hargs, lg_entry_eq]
  rw [hent]
  clear hent hargs
  generalize (lg_sl ([.ref q_o]) ++ List.replicate (1 - (lg_sl ([.ref q_o])).length) Slot.unset).toArray = ls at hl ⊢
  have hl : lv_has ls 1 [(0, .ref q_o)] := hl
  refine lv_aload_n (pc := 0) hx hb d_iCover_0 rfl (lv_at hl 0 rfl) ?_
  refine W.objInit hx hb hown (hts _ (List.mem_cons_of_mem _ kw_127)) (hts _ (List.mem_cons_of_mem _ kw_25)) (hts _ (List.mem_cons_of_mem _ kw_26)) rfl (by rw [hml]; exact hl.1) rfl d_iCover_1 (Nat.le_of_ble_eq_true rfl) (Nat.le_of_ble_eq_true rfl) ?_
  refine W.eq (g2 := F0 m 4 ls []) rfl ?_
  refine lv_aload_n (pc := 4) hx hb d_iCover_4 rfl (lv_at hl 0 rfl) ?_
  refine lv_bipush (pc := 5) (v := (64 : Int32)) hx hb d_iCover_5 (by decide) ?_
  refine va_newa (pc := 7) (atype := .int) (ty := .int) (a0 := (64, .inl (fun _ => 0))) hx hb (hts _ (List.mem_cons_of_mem _ kw_159)) rfl hK hP hD hS hA (fun _ => rfl) (by decide) (N' := 64) (by decide) (by decide) (Nat.le_of_ble_eq_true rfl) (Nat.le_of_ble_eq_true rfl) d_iCover_7 (fun q7 k7 H hK hP hD hS => ?_)
  have hP : va_P (dC, dI) clz [(q_o, .inr (0, [.null, .null, .int 0, .int 0, .long 0, .long 0, .long 0, .long 0, .long 0])), (q7, .inl (k7, 64, .inl (fun _ => 0)))] H := hP
  have hD : va_D A [(q_o, .inr (0, [.null, .null, .int 0, .int 0, .long 0, .long 0, .long 0, .long 0, .long 0])), (q7, .inl (k7, 64, .inl (fun _ => 0)))] := hD
  have hK : va_K (dC, dI) clz [(k7, .int)] s := hK
  refine va_putF (pc := 9) (D := (dC, dI)) (ci := 0) (v := .ref q7) (ty := .array .int) (C := "PathTexts$Cover") (T := F_Cover) (N := 9) hx hb hts (fun w h => List.mem_cons_of_mem _ (in_Cover w h)) t_Cover tk_Cover n_Cover hown hK hP hD hS 0 rfl rfl 0 (by decide) (hts _ (List.mem_cons_of_mem _ kw_128)) (fun _ h9 => h9) rfl hin rfl (tk_Cover 0 (by decide)) rfl rfl (Nat.le_of_ble_eq_true rfl) d_iCover_9 (fun H locs hP hD hS => ?_)
  have hP : va_P (dC, dI) clz [(q_o, .inr (0, [.ref q7, .null, .int 0, .int 0, .long 0, .long 0, .long 0, .long 0, .long 0])), (q7, .inl (k7, 64, .inl (fun _ => 0)))] H := hP
  have hD : va_D A [(q_o, .inr (0, [.ref q7, .null, .int 0, .int 0, .long 0, .long 0, .long 0, .long 0, .long 0])), (q7, .inl (k7, 64, .inl (fun _ => 0)))] := hD
  refine lv_aload_n (pc := 12) hx hb d_iCover_12 rfl (lv_at hl 0 rfl) ?_
  refine lv_sipush (pc := 13) (v := (2048 : Int32)) hx hb d_iCover_13 (by decide) ?_
  refine va_newa (pc := 16) (atype := .int) (ty := .int) (a0 := (2048, .inl (fun _ => 0))) hx hb (hts _ (List.mem_cons_of_mem _ kw_159)) rfl hK hP hD hS hA (fun _ => rfl) (by decide) (N' := 2048) (by decide) (by decide) (Nat.le_of_ble_eq_true rfl) (Nat.le_of_ble_eq_true rfl) d_iCover_16 (fun q16 k16 H hK hP hD hS => ?_)
  have hP : va_P (dC, dI) clz [(q_o, .inr (0, [.ref q7, .null, .int 0, .int 0, .long 0, .long 0, .long 0, .long 0, .long 0])), (q7, .inl (k7, 64, .inl (fun _ => 0))), (q16, .inl (k16, 2048, .inl (fun _ => 0)))] H := hP
  have hD : va_D A [(q_o, .inr (0, [.ref q7, .null, .int 0, .int 0, .long 0, .long 0, .long 0, .long 0, .long 0])), (q7, .inl (k7, 64, .inl (fun _ => 0))), (q16, .inl (k16, 2048, .inl (fun _ => 0)))] := hD
  have hK : va_K (dC, dI) clz [(k7, .int), (k16, .int)] s := hK
  refine va_putF (pc := 18) (D := (dC, dI)) (ci := 0) (v := .ref q16) (ty := .array .int) (C := "PathTexts$Cover") (T := F_Cover) (N := 9) hx hb hts (fun w h => List.mem_cons_of_mem _ (in_Cover w h)) t_Cover tk_Cover n_Cover hown hK hP hD hS 0 rfl rfl 1 (by decide) (hts _ (List.mem_cons_of_mem _ kw_130)) (fun _ h9 => h9) rfl hin rfl (tk_Cover 1 (by decide)) rfl rfl (Nat.le_of_ble_eq_true rfl) d_iCover_18 (fun H locs hP hD hS => ?_)
  have hP : va_P (dC, dI) clz [(q_o, .inr (0, [.ref q7, .ref q16, .int 0, .int 0, .long 0, .long 0, .long 0, .long 0, .long 0])), (q7, .inl (k7, 64, .inl (fun _ => 0))), (q16, .inl (k16, 2048, .inl (fun _ => 0)))] H := hP
  have hD : va_D A [(q_o, .inr (0, [.ref q7, .ref q16, .int 0, .int 0, .long 0, .long 0, .long 0, .long 0, .long 0])), (q7, .inl (k7, 64, .inl (fun _ => 0))), (q16, .inl (k16, 2048, .inl (fun _ => 0)))] := hD
  refine W.widen (k := 2) (n := 2112) (Nat.le_of_ble_eq_true rfl) (Nat.le_of_ble_eq_true rfl) ?_
  exact W.vret hx hb hr (fun t ht hW => ⟨⟨(), rfl, trivial, q7, q16, k7, k16, by rw [ht]; exact hP, va_K.moved hW.alike hK, hD⟩, hS.F ht⟩) hS.2.2 d_iCover_21
abbrev y_iDrawing : MethodName := ⟨"PathTexts$Drawing", "<init>", "()V"⟩
abbrev w_iDrawing : List Cond := .code y_iDrawing prog_3_method_1_code 1 none :: kw
theorem d_iDrawing_0 : decode prog_3_method_1_code 0 = .ok (.aload_n 0, 1) := by decide +kernel
theorem d_iDrawing_1 : decode prog_3_method_1_code 1 = .ok (.invokespecial 3, 3) := by decide +kernel
theorem d_iDrawing_4 : decode prog_3_method_1_code 4 = .ok (.aload_n 0, 1) := by decide +kernel
theorem d_iDrawing_5 : decode prog_3_method_1_code 5 = .ok (.sipush 150, 3) := by decide +kernel
theorem d_iDrawing_8 : decode prog_3_method_1_code 8 = .ok (.newarray .int, 2) := by decide +kernel
theorem d_iDrawing_10 : decode prog_3_method_1_code 10 = .ok (.putfield 9, 3) := by decide +kernel
theorem d_iDrawing_13 : decode prog_3_method_1_code 13 = .ok (.aload_n 0, 1) := by decide +kernel
theorem d_iDrawing_14 : decode prog_3_method_1_code 14 = .ok (.sipush 900, 3) := by decide +kernel
theorem d_iDrawing_17 : decode prog_3_method_1_code 17 = .ok (.newarray .int, 2) := by decide +kernel
theorem d_iDrawing_19 : decode prog_3_method_1_code 19 = .ok (.putfield 15, 3) := by decide +kernel
theorem d_iDrawing_22 : decode prog_3_method_1_code 22 = .ok (.return_, 1) := by decide +kernel
set_option maxHeartbeats 4000000 in
set_option maxRecDepth 100000 in
theorem ct_iDrawing (l : Launch) (dC : Nat → ClassId) (dI : Nat → Nat → Nat) (q_o : Nat) (sz : Nat) : Met l y_iDrawing w_iDrawing ({ frames := 1, cells := 2, slots := 1050, locals := 12 }) (va_Pc [.ref q_o] (fun U => U.heap.size = sz ∧ va_P (dC, dI) clz [(q_o, .inr (1, [.null, .null, .int 0]))] U.heap ∧ va_K (dC, dI) clz [] U ∧ va_D (fun _ => True) [(q_o, .inr (1, [.null, .null, .int 0]))])) (va_Qv (fun _ : Unit => True) (fun _ t => ∃ (q8 q17 : Nat) (k8 k17 : ClassId), va_P (dC, dI) clz [(q_o, .inr (1, f_Drawing q8 q17 0)), (q8, .inl (k8, 150, .inl (fun _ => 0))), (q17, .inl (k17, 900, .inl (fun _ => 0)))] t.heap ∧ va_K (dC, dI) clz [(k8, .int), (k17, .int)] t ∧ va_D (va_A [(q_o, .inr (1, [.null, .null, .int 0]))] sz) [(q_o, .inr (1, f_Drawing q8 q17 0)), (q8, .inl (k8, 150, .inl (fun _ => 0))), (q17, .inl (k17, 900, .inl (fun _ => 0)))]) (va_A [(q_o, .inr (1, [.null, .null, .int 0]))] sz)) 2 1050 (va_A [(q_o, .inr (1, [.null, .null, .int 0]))] sz) := by
  refine Met.ofW (cc := prog_3_method_1_code) (maxL := 1) (ret := none) (by decide +kernel) rfl ?_
  intro p e s m args below meth c s₁ B hml hv
  obtain ⟨hargs, hsz, hP, hK, hD0⟩ := hv
  have hx := B.exec
  have hb := B.bytes
  have hr := B.returns
  have hts := atoms_spec (ws := w_iDrawing) B.pre
  have hown : s.vm.findClass "PathTexts$Drawing" = some m.cls := findClass_of_methodNamed B.named
  have hlocks := B.notSynchronized
  have hin : meth.name = "<init>" := (name_of_methodNamed B.named B.method).1
  subst hsz
  have hD := hD0.self (sz := s.heap.size)
  generalize hAe : va_A [(q_o, .inr (1, [.null, .null, .int 0]))] s.heap.size = A at hD ⊢
  have hA : ∀ q : Nat, s.heap.size ≤ q → A q := fun q h => by rw [← hAe]; exact Or.inr h
  clear hAe hD0
  have hS : va_S A s.heap s.heap [] := va_S.rf
  have hl := lv_entry ([.ref q_o]) (n := 1) (Nat.le_of_ble_eq_true rfl)
  have hent : entryFrame m args 1 = F0 m 0 (lg_sl ([.ref q_o]) ++ List.replicate (1 - (lg_sl ([.ref q_o])).length) Slot.unset).toArray [] := by rw [hargs, lg_entry_eq]
  rw [hent]
  clear hent hargs
  generalize (lg_sl ([.ref q_o]) ++ List.replicate (1 - (lg_sl ([.ref q_o])).length) Slot.unset).toArray = ls at hl ⊢
  have hl : lv_has ls 1 [(0, .ref q_o)] := hl
  refine lv_aload_n (pc := 0) hx hb d_iDrawing_0 rfl (lv_at hl 0 rfl) ?_
  refine W.objInit hx hb hown (hts _ (List.mem_cons_of_mem _ kw_165)) (hts _ (List.mem_cons_of_mem _ kw_25)) (hts _ (List.mem_cons_of_mem _ kw_26)) rfl (by rw [hml]; exact hl.1) rfl d_iDrawing_1 (Nat.le_of_ble_eq_true rfl) (Nat.le_of_ble_eq_true rfl) ?_
  refine W.eq (g2 := F0 m 4 ls []) rfl ?_
  refine lv_aload_n (pc := 4) hx hb d_iDrawing_4 rfl (lv_at hl 0 rfl) ?_
  refine lv_sipush (pc := 5) (v := (150 : Int32)) hx hb d_iDrawing_5 (by decide) ?_
  refine va_newa (pc := 8) (atype := .int) (ty := .int) (a0 := (150, .inl (fun _ => 0))) hx hb (hts _ (List.mem_cons_of_mem _ kw_159)) rfl hK hP hD hS hA (fun _ => rfl) (by decide) (N' := 150) (by decide) (by decide) (Nat.le_of_ble_eq_true rfl) (Nat.le_of_ble_eq_true rfl) d_iDrawing_8 (fun q8 k8 H hK hP hD hS => ?_)
  have hP : va_P (dC, dI) clz [(q_o, .inr (1, [.null, .null, .int 0])), (q8, .inl (k8, 150, .inl (fun _ => 0)))] H := hP
  have hD : va_D A [(q_o, .inr (1, [.null, .null, .int 0])), (q8, .inl (k8, 150, .inl (fun _ => 0)))] := hD
  have hK : va_K (dC, dI) clz [(k8, .int)] s := hK
  refine va_putF (pc := 10) (D := (dC, dI)) (ci := 1) (v := .ref q8) (ty := .array .int) (C := "PathTexts$Drawing") (T := F_Drawing) (N := 3) hx hb hts (fun w h => List.mem_cons_of_mem _ (in_Drawing w h)) t_Drawing tk_Drawing n_Drawing hown hK hP hD hS 0 rfl rfl 0 (by decide) (hts _ (List.mem_cons_of_mem _ kw_166)) (fun _ h9 => h9) rfl hin rfl (tk_Drawing 0 (by decide)) rfl rfl (Nat.le_of_ble_eq_true rfl) d_iDrawing_10 (fun H locs hP hD hS => ?_)
  have hP : va_P (dC, dI) clz [(q_o, .inr (1, [.ref q8, .null, .int 0])), (q8, .inl (k8, 150, .inl (fun _ => 0)))] H := hP
  have hD : va_D A [(q_o, .inr (1, [.ref q8, .null, .int 0])), (q8, .inl (k8, 150, .inl (fun _ => 0)))] := hD
  refine lv_aload_n (pc := 13) hx hb d_iDrawing_13 rfl (lv_at hl 0 rfl) ?_
  refine lv_sipush (pc := 14) (v := (900 : Int32)) hx hb d_iDrawing_14 (by decide) ?_
  refine va_newa (pc := 17) (atype := .int) (ty := .int) (a0 := (900, .inl (fun _ => 0))) hx hb (hts _ (List.mem_cons_of_mem _ kw_159)) rfl hK hP hD hS hA (fun _ => rfl) (by decide) (N' := 900) (by decide) (by decide) (Nat.le_of_ble_eq_true rfl) (Nat.le_of_ble_eq_true rfl) d_iDrawing_17 (fun q17 k17 H hK hP hD hS => ?_)
  have hP : va_P (dC, dI) clz [(q_o, .inr (1, [.ref q8, .null, .int 0])), (q8, .inl (k8, 150, .inl (fun _ => 0))), (q17, .inl (k17, 900, .inl (fun _ => 0)))] H := hP
  have hD : va_D A [(q_o, .inr (1, [.ref q8, .null, .int 0])), (q8, .inl (k8, 150, .inl (fun _ => 0))), (q17, .inl (k17, 900, .inl (fun _ => 0)))] := hD
  have hK : va_K (dC, dI) clz [(k8, .int), (k17, .int)] s := hK
  refine va_putF (pc := 19) (D := (dC, dI)) (ci := 1) (v := .ref q17) (ty := .array .int) (C := "PathTexts$Drawing") (T := F_Drawing) (N := 3) hx hb hts (fun w h => List.mem_cons_of_mem _ (in_Drawing w h)) t_Drawing tk_Drawing n_Drawing hown hK hP hD hS 0 rfl rfl 1 (by decide) (hts _ (List.mem_cons_of_mem _ kw_170)) (fun _ h9 => h9) rfl hin rfl (tk_Drawing 1 (by decide)) rfl rfl (Nat.le_of_ble_eq_true rfl) d_iDrawing_19 (fun H locs hP hD hS => ?_)
  have hP : va_P (dC, dI) clz [(q_o, .inr (1, [.ref q8, .ref q17, .int 0])), (q8, .inl (k8, 150, .inl (fun _ => 0))), (q17, .inl (k17, 900, .inl (fun _ => 0)))] H := hP
  have hD : va_D A [(q_o, .inr (1, [.ref q8, .ref q17, .int 0])), (q8, .inl (k8, 150, .inl (fun _ => 0))), (q17, .inl (k17, 900, .inl (fun _ => 0)))] := hD
  refine W.widen (k := 2) (n := 1050) (Nat.le_of_ble_eq_true rfl) (Nat.le_of_ble_eq_true rfl) ?_
  exact W.vret hx hb hr (fun t ht hW => ⟨⟨(), rfl, trivial, q8, q17, k8, k17, by rw [ht]; exact hP, va_K.moved hW.alike hK, hD⟩, hS.F ht⟩) hS.2.2 d_iDrawing_22
abbrev y_iMatrices : MethodName := ⟨"PathTexts$Matrices", "<init>", "()V"⟩
abbrev w_iMatrices : List Cond := .code y_iMatrices prog_4_method_1_code 1 none :: kw
theorem d_iMatrices_0 : decode prog_4_method_1_code 0 = .ok (.aload_n 0, 1) := by decide +kernel
theorem d_iMatrices_1 : decode prog_4_method_1_code 1 = .ok (.invokespecial 3, 3) := by decide +kernel
theorem d_iMatrices_4 : decode prog_4_method_1_code 4 = .ok (.aload_n 0, 1) := by decide +kernel
theorem d_iMatrices_5 : decode prog_4_method_1_code 5 = .ok (.bipush 54, 2) := by decide +kernel
theorem d_iMatrices_7 : decode prog_4_method_1_code 7 = .ok (.newarray .long, 2) := by decide +kernel
theorem d_iMatrices_9 : decode prog_4_method_1_code 9 = .ok (.putfield 9, 3) := by decide +kernel
theorem d_iMatrices_12 : decode prog_4_method_1_code 12 = .ok (.return_, 1) := by decide +kernel
set_option maxHeartbeats 4000000 in
set_option maxRecDepth 100000 in
theorem ct_iMatrices (l : Launch) (dC : Nat → ClassId) (dI : Nat → Nat → Nat) (q_o : Nat) (sz : Nat) : Met l y_iMatrices w_iMatrices ({ frames := 1, cells := 1, slots := 54, locals := 12 }) (va_Pc [.ref q_o] (fun U => U.heap.size = sz ∧ va_P (dC, dI) clz [(q_o, .inr (2, [.null, .int 0]))] U.heap ∧ va_K (dC, dI) clz [] U ∧ va_D (fun _ => True) [(q_o, .inr (2, [.null, .int 0]))])) (va_Qv (fun _ : Unit => True) (fun _ t => ∃ (q7 : Nat) (k7 : ClassId), va_P (dC, dI) clz [(q_o, .inr (2, f_Matrices q7 0)), (q7, .inl (k7, 54, .inr (.inl (fun _ => 0))))] t.heap ∧ va_K (dC, dI) clz [(k7, .long)] t ∧ va_D (va_A [(q_o, .inr (2, [.null, .int 0]))] sz) [(q_o, .inr (2, f_Matrices q7 0)), (q7, .inl (k7, 54, .inr (.inl (fun _ => 0))))]) (va_A [(q_o, .inr (2, [.null, .int 0]))] sz)) 1 54 (va_A [(q_o, .inr (2, [.null, .int 0]))] sz) := by
  refine Met.ofW (cc := prog_4_method_1_code) (maxL := 1) (ret := none) (by decide +kernel) rfl ?_
  intro p e s m args below meth c s₁ B hml hv
  obtain ⟨hargs, hsz, hP, hK, hD0⟩ := hv
  have hx := B.exec
  have hb := B.bytes
  have hr := B.returns
  have hts := atoms_spec (ws := w_iMatrices) B.pre
  have hown : s.vm.findClass "PathTexts$Matrices" = some m.cls := findClass_of_methodNamed B.named
  have hlocks := B.notSynchronized
  have hin : meth.name = "<init>" := (name_of_methodNamed B.named B.method).1
  subst hsz
  have hD := hD0.self (sz := s.heap.size)
  generalize hAe : va_A [(q_o, .inr (2, [.null, .int 0]))] s.heap.size = A at hD ⊢
  have hA : ∀ q : Nat, s.heap.size ≤ q → A q := fun q h => by rw [← hAe]; exact Or.inr h
  clear hAe hD0
  have hS : va_S A s.heap s.heap [] := va_S.rf
  have hl := lv_entry ([.ref q_o]) (n := 1) (Nat.le_of_ble_eq_true rfl)
  have hent : entryFrame m args 1 = F0 m 0 (lg_sl ([.ref q_o]) ++ List.replicate (1 - (lg_sl ([.ref q_o])).length) Slot.unset).toArray [] := by rw [hargs, lg_entry_eq]
  rw [hent]
  clear hent hargs
  generalize (lg_sl ([.ref q_o]) ++ List.replicate (1 - (lg_sl ([.ref q_o])).length) Slot.unset).toArray = ls at hl ⊢
  have hl : lv_has ls 1 [(0, .ref q_o)] := hl
  refine lv_aload_n (pc := 0) hx hb d_iMatrices_0 rfl (lv_at hl 0 rfl) ?_
  refine W.objInit hx hb hown (hts _ (List.mem_cons_of_mem _ kw_61)) (hts _ (List.mem_cons_of_mem _ kw_25)) (hts _ (List.mem_cons_of_mem _ kw_26)) rfl (by rw [hml]; exact hl.1) rfl d_iMatrices_1 (Nat.le_of_ble_eq_true rfl) (Nat.le_of_ble_eq_true rfl) ?_
  refine W.eq (g2 := F0 m 4 ls []) rfl ?_
  refine lv_aload_n (pc := 4) hx hb d_iMatrices_4 rfl (lv_at hl 0 rfl) ?_
  refine lv_bipush (pc := 5) (v := (54 : Int32)) hx hb d_iMatrices_5 (by decide) ?_
  refine va_newa (pc := 7) (atype := .long) (ty := .long) (a0 := (54, .inr (.inl (fun _ => 0)))) hx hb (hts _ (List.mem_cons_of_mem _ kw_70)) rfl hK hP hD hS hA (fun _ => rfl) (by decide) (N' := 54) (by decide) (by decide) (Nat.le_of_ble_eq_true rfl) (Nat.le_of_ble_eq_true rfl) d_iMatrices_7 (fun q7 k7 H hK hP hD hS => ?_)
  have hP : va_P (dC, dI) clz [(q_o, .inr (2, [.null, .int 0])), (q7, .inl (k7, 54, .inr (.inl (fun _ => 0))))] H := hP
  have hD : va_D A [(q_o, .inr (2, [.null, .int 0])), (q7, .inl (k7, 54, .inr (.inl (fun _ => 0))))] := hD
  have hK : va_K (dC, dI) clz [(k7, .long)] s := hK
  refine va_putF (pc := 9) (D := (dC, dI)) (ci := 2) (v := .ref q7) (ty := .array .long) (C := "PathTexts$Matrices") (T := F_Matrices) (N := 2) hx hb hts (fun w h => List.mem_cons_of_mem _ (in_Matrices w h)) t_Matrices tk_Matrices n_Matrices hown hK hP hD hS 0 rfl rfl 0 (by decide) (hts _ (List.mem_cons_of_mem _ kw_62)) (fun _ h9 => h9) rfl hin rfl (tk_Matrices 0 (by decide)) rfl rfl (Nat.le_of_ble_eq_true rfl) d_iMatrices_9 (fun H locs hP hD hS => ?_)
  have hP : va_P (dC, dI) clz [(q_o, .inr (2, [.ref q7, .int 0])), (q7, .inl (k7, 54, .inr (.inl (fun _ => 0))))] H := hP
  have hD : va_D A [(q_o, .inr (2, [.ref q7, .int 0])), (q7, .inl (k7, 54, .inr (.inl (fun _ => 0))))] := hD
  refine W.widen (k := 1) (n := 54) (Nat.le_of_ble_eq_true rfl) (Nat.le_of_ble_eq_true rfl) ?_
  exact W.vret hx hb hr (fun t ht hW => ⟨⟨(), rfl, trivial, q7, k7, by rw [ht]; exact hP, va_K.moved hW.alike hK, hD⟩, hS.F ht⟩) hS.2.2 d_iMatrices_12
abbrev y_iPen : MethodName := ⟨"PathTexts$Pen", "<init>", "()V"⟩
abbrev w_iPen : List Cond := .code y_iPen prog_5_method_1_code 1 none :: kw
theorem d_iPen_0 : decode prog_5_method_1_code 0 = .ok (.aload_n 0, 1) := by decide +kernel
theorem d_iPen_1 : decode prog_5_method_1_code 1 = .ok (.invokespecial 3, 3) := by decide +kernel
theorem d_iPen_4 : decode prog_5_method_1_code 4 = .ok (.aload_n 0, 1) := by decide +kernel
theorem d_iPen_5 : decode prog_5_method_1_code 5 = .ok (.new 9, 3) := by decide +kernel
theorem d_iPen_8 : decode prog_5_method_1_code 8 = .ok (.dup, 1) := by decide +kernel
theorem d_iPen_9 : decode prog_5_method_1_code 9 = .ok (.invokespecial 11, 3) := by decide +kernel
theorem d_iPen_12 : decode prog_5_method_1_code 12 = .ok (.putfield 12, 3) := by decide +kernel
theorem d_iPen_15 : decode prog_5_method_1_code 15 = .ok (.aload_n 0, 1) := by decide +kernel
theorem d_iPen_16 : decode prog_5_method_1_code 16 = .ok (.bipush 6, 2) := by decide +kernel
theorem d_iPen_18 : decode prog_5_method_1_code 18 = .ok (.newarray .long, 2) := by decide +kernel
theorem d_iPen_20 : decode prog_5_method_1_code 20 = .ok (.putfield 18, 3) := by decide +kernel
theorem d_iPen_23 : decode prog_5_method_1_code 23 = .ok (.aload_n 0, 1) := by decide +kernel
theorem d_iPen_24 : decode prog_5_method_1_code 24 = .ok (.bipush 6, 2) := by decide +kernel
theorem d_iPen_26 : decode prog_5_method_1_code 26 = .ok (.newarray .long, 2) := by decide +kernel
theorem d_iPen_28 : decode prog_5_method_1_code 28 = .ok (.putfield 22, 3) := by decide +kernel
theorem d_iPen_31 : decode prog_5_method_1_code 31 = .ok (.return_, 1) := by decide +kernel
set_option maxHeartbeats 4000000 in
set_option maxRecDepth 100000 in
theorem ct_iPen (l : Launch) (dC : Nat → ClassId) (dI : Nat → Nat → Nat) (q_o : Nat) (sz : Nat) (tt : Nat) : Met l y_iPen w_iPen ({ frames := 2, cells := 4, slots := 68, locals := 32 }) (va_Pc [.ref q_o] (fun U => U.heap.size = sz ∧ va_P (dC, dI) clz [(q_o, .inr (3, [.null, .null, .null, .long 0, .long 0, .long 0, .long 0, .long 0, .long 0, .int 0]))] U.heap ∧ va_K (dC, dI) clz [] U ∧ va_D (fun _ => True) [(q_o, .inr (3, [.null, .null, .null, .long 0, .long 0, .long 0, .long 0, .long 0, .long 0, .int 0]))] ∧ ke tt (va_A [(q_o, .inr (3, [.null, .null, .null, .long 0, .long 0, .long 0, .long 0, .long 0, .long 0, .int 0]))] sz) U)) (va_Qv (fun _ : Unit => True) (fun _ t => ∃ (q5 q7_9 q18 q26 : Nat) (k7_9 k18 k26 : ClassId), va_P (dC, dI) clz [(q_o, .inr (3, f_Pen q5 q18 q26 0 0 0 0 0 0 0)), (q5, .inr (2, f_Matrices q7_9 0)), (q7_9, .inl (k7_9, 54, .inr (.inl (fun _ => 0)))), (q18, .inl (k18, 6, .inr (.inl (fun _ => 0)))), (q26, .inl (k26, 6, .inr (.inl (fun _ => 0))))] t.heap ∧ va_K (dC, dI) clz [(k7_9, .long), (k18, .long), (k26, .long)] t ∧ va_D (va_A [(q_o, .inr (3, [.null, .null, .null, .long 0, .long 0, .long 0, .long 0, .long 0, .long 0, .int 0]))] sz) [(q_o, .inr (3, f_Pen q5 q18 q26 0 0 0 0 0 0 0)), (q5, .inr (2, f_Matrices q7_9 0)), (q7_9, .inl (k7_9, 54, .inr (.inl (fun _ => 0)))), (q18, .inl (k18, 6, .inr (.inl (fun _ => 0)))), (q26, .inl (k26, 6, .inr (.inl (fun _ => 0))))]) (va_A [(q_o, .inr (3, [.null, .null, .null, .long 0, .long 0, .long 0, .long 0, .long 0, .long 0, .int 0]))] sz)) 4 68 (va_A [(q_o, .inr (3, [.null, .null, .null, .long 0, .long 0, .long 0, .long 0, .long 0, .long 0, .int 0]))] sz) := by
  refine Met.ofW (cc := prog_5_method_1_code) (maxL := 1) (ret := none) (by decide +kernel) rfl ?_
  intro p e s m args below meth c s₁ B hml hv
  obtain ⟨hargs, hsz, hP, hK, hD0, hE⟩ := hv
  have hx := B.exec
  have hb := B.bytes
  have hr := B.returns
  have hts := atoms_spec (ws := w_iPen) B.pre
  have hown : s.vm.findClass "PathTexts$Pen" = some m.cls := findClass_of_methodNamed B.named
  have hlocks := B.notSynchronized
  have hin : meth.name = "<init>" := (name_of_methodNamed B.named B.method).1
  subst hsz
  have hD := hD0.self (sz := s.heap.size)
  generalize hAe : va_A [(q_o, .inr (3, [.null, .null, .null, .long 0, .long 0, .long 0, .long 0, .long 0, .long 0, .int 0]))] s.heap.size = A at hD hE ⊢
  have hA : ∀ q : Nat, s.heap.size ≤ q → A q := fun q h => by rw [← hAe]; exact Or.inr h
  clear hAe hD0
  have hS : va_S A s.heap s.heap [] := va_S.rf
  have hl := lv_entry ([.ref q_o]) (n := 1) (Nat.le_of_ble_eq_true rfl)
  have hent : entryFrame m args 1 = F0 m 0 (lg_sl ([.ref q_o]) ++ List.replicate (1 - (lg_sl ([.ref q_o])).length) Slot.unset).toArray [] := by rw [hargs, lg_entry_eq]
  rw [hent]
  clear hent hargs
  generalize (lg_sl ([.ref q_o]) ++ List.replicate (1 - (lg_sl ([.ref q_o])).length) Slot.unset).toArray = ls at hl ⊢
  have hl : lv_has ls 1 [(0, .ref q_o)] := hl
  refine lv_aload_n (pc := 0) hx hb d_iPen_0 rfl (lv_at hl 0 rfl) ?_
  refine W.objInit hx hb hown (hts _ (List.mem_cons_of_mem _ kw_55)) (hts _ (List.mem_cons_of_mem _ kw_25)) (hts _ (List.mem_cons_of_mem _ kw_26)) rfl (by rw [hml]; exact hl.1) rfl d_iPen_1 (Nat.le_of_ble_eq_true rfl) (Nat.le_of_ble_eq_true rfl) ?_
  refine W.eq (g2 := F0 m 4 ls []) rfl ?_
  refine lv_aload_n (pc := 4) hx hb d_iPen_4 rfl (lv_at hl 0 rfl) ?_
  refine va_new (pc := 5) (ci := 2) (fs := [.null, .int 0]) (C := "PathTexts$Matrices") (T := F_Matrices) (N := 2) hx hb hts (fun w h => List.mem_cons_of_mem _ (in_Matrices w h)) t_Matrices tk_Matrices hown (hts _ (List.mem_cons_of_mem _ kw_56)) (hts _ (List.mem_cons_of_mem _ kw_57)) (hts _ (List.mem_cons_of_mem _ kw_5)) hK hP hD hS hA rfl (fun j hj => (by decide : ∀ j, j < 2 → defaultValue (t_Matrices j) = vp_V [.null, .int 0] j) j hj) (Nat.le_of_ble_eq_true rfl) (Nat.le_of_ble_eq_true rfl) d_iPen_5 (fun q5 H hP hD hS => ?_)
  have hP : va_P (dC, dI) clz [(q_o, .inr (3, [.null, .null, .null, .long 0, .long 0, .long 0, .long 0, .long 0, .long 0, .int 0])), (q5, .inr (2, [.null, .int 0]))] H := hP
  have hD : va_D A [(q_o, .inr (3, [.null, .null, .null, .long 0, .long 0, .long 0, .long 0, .long 0, .long 0, .int 0])), (q5, .inr (2, [.null, .int 0]))] := hD
  refine lv_dup (pc := 8) hx hb d_iPen_8 rfl ?_
  have hPc := hP.sub (ws' := [(q5, .inr (2, [.null, .int 0]))]) [1] rfl
  have hDc := hD.sub (ws' := [(q5, .inr (2, [.null, .int 0]))]) [1] (by decide) rfl
  have hKc := hK.sub (tys' := []) [] rfl
  have hFc := va_free (wc := [(q5, .inr (2, [.null, .int 0]))]) hD hS hA [1] rfl
  refine va_callv (pc := 9) (va_runIN (As := []) (rest := [.ref q5, .ref q_o]) ⟨hx, hb, hml, hown, hts⟩ (ct_iMatrices l dC dI q5 _) ⟨va_cnB 0 hts (kw_in kw_60) rfl rfl rfl (hE.1 _ kn_1) (hts _ (List.mem_cons_of_mem _ kw_5)) (by decide +kernel) ⟨Nat.le_of_ble_eq_true rfl, Nat.le_of_ble_eq_true rfl⟩, rfl, hts _ (List.mem_cons_of_mem _ kw_59)⟩ (kx_pre hPc hKc hDc) rfl rfl hl.1 rfl (lv_room (Nat.le_of_ble_eq_true rfl)) d_iPen_9 ⟨Nat.le_of_ble_eq_true rfl, Nat.le_of_ble_eq_true rfl⟩) hS (fun q _ h => hFc q h) hFc (fun u t H1 locs ht hvm hw hB hz1 hk1 hS => ?_)
  obtain ⟨q7_9, k7_9, hP1, hK1, hD1⟩ := hB
  rw [ht] at hP1
  have hK1 := va_K.moved hvm.symm hK1
  obtain ⟨hP, hD⟩ := va_join (wr := [(q_o, .inr (3, [.null, .null, .null, .long 0, .long 0, .long 0, .long 0, .long 0, .long 0, .int 0]))]) (w1 := [(q5, .inr (2, f_Matrices q7_9 0)), (q7_9, .inl (k7_9, 54, .inr (.inl (fun _ => 0))))]) hP hD [1] [0] rfl rfl (by decide) (by decide) hk1 hFc hP1 hD1
  have hK := hK.app hK1
  clear hP1 hK1 hD1 hk1 hPc hDc hKc hFc hz1 hvm ht hw
  generalize H1 = H at hP hS ⊢
  have hP : va_P (dC, dI) clz [(q_o, .inr (3, [.null, .null, .null, .long 0, .long 0, .long 0, .long 0, .long 0, .long 0, .int 0])), (q5, .inr (2, f_Matrices q7_9 0)), (q7_9, .inl (k7_9, 54, .inr (.inl (fun _ => 0))))] H := hP
  have hD : va_D A [(q_o, .inr (3, [.null, .null, .null, .long 0, .long 0, .long 0, .long 0, .long 0, .long 0, .int 0])), (q5, .inr (2, f_Matrices q7_9 0)), (q7_9, .inl (k7_9, 54, .inr (.inl (fun _ => 0))))] := hD
  have hK : va_K (dC, dI) clz [(k7_9, .long)] s := hK
  refine va_putF (pc := 12) (D := (dC, dI)) (ci := 3) (v := .ref q5) (ty := .object "PathTexts$Matrices") (C := "PathTexts$Pen") (T := F_Pen) (N := 10) hx hb hts (fun w h => List.mem_cons_of_mem _ (in_Pen w h)) t_Pen tk_Pen n_Pen hown hK hP hD hS 0 rfl rfl 0 (by decide) (hts _ (List.mem_cons_of_mem _ kw_71)) (fun _ h9 => h9) rfl hin rfl (tk_Pen 0 (by decide)) rfl rfl (Nat.le_of_ble_eq_true rfl) d_iPen_12 (fun H locs hP hD hS => ?_)
  have hP : va_P (dC, dI) clz [(q_o, .inr (3, [.ref q5, .null, .null, .long 0, .long 0, .long 0, .long 0, .long 0, .long 0, .int 0])), (q5, .inr (2, f_Matrices q7_9 0)), (q7_9, .inl (k7_9, 54, .inr (.inl (fun _ => 0))))] H := hP
  have hD : va_D A [(q_o, .inr (3, [.ref q5, .null, .null, .long 0, .long 0, .long 0, .long 0, .long 0, .long 0, .int 0])), (q5, .inr (2, f_Matrices q7_9 0)), (q7_9, .inl (k7_9, 54, .inr (.inl (fun _ => 0))))] := hD
  refine lv_aload_n (pc := 15) hx hb d_iPen_15 rfl (lv_at hl 0 rfl) ?_
  refine lv_bipush (pc := 16) (v := (6 : Int32)) hx hb d_iPen_16 (by decide) ?_
  refine va_newa (pc := 18) (atype := .long) (ty := .long) (a0 := (6, .inr (.inl (fun _ => 0)))) hx hb (hts _ (List.mem_cons_of_mem _ kw_70)) rfl hK hP hD hS hA (fun _ => rfl) (by decide) (N' := 6) (by decide) (by decide) (Nat.le_of_ble_eq_true rfl) (Nat.le_of_ble_eq_true rfl) d_iPen_18 (fun q18 k18 H hK hP hD hS => ?_)
  have hP : va_P (dC, dI) clz [(q_o, .inr (3, [.ref q5, .null, .null, .long 0, .long 0, .long 0, .long 0, .long 0, .long 0, .int 0])), (q5, .inr (2, f_Matrices q7_9 0)), (q7_9, .inl (k7_9, 54, .inr (.inl (fun _ => 0)))), (q18, .inl (k18, 6, .inr (.inl (fun _ => 0))))] H := hP
  have hD : va_D A [(q_o, .inr (3, [.ref q5, .null, .null, .long 0, .long 0, .long 0, .long 0, .long 0, .long 0, .int 0])), (q5, .inr (2, f_Matrices q7_9 0)), (q7_9, .inl (k7_9, 54, .inr (.inl (fun _ => 0)))), (q18, .inl (k18, 6, .inr (.inl (fun _ => 0))))] := hD
  have hK : va_K (dC, dI) clz [(k7_9, .long), (k18, .long)] s := hK
  refine va_putF (pc := 20) (D := (dC, dI)) (ci := 3) (v := .ref q18) (ty := .array .long) (C := "PathTexts$Pen") (T := F_Pen) (N := 10) hx hb hts (fun w h => List.mem_cons_of_mem _ (in_Pen w h)) t_Pen tk_Pen n_Pen hown hK hP hD hS 0 rfl rfl 1 (by decide) (hts _ (List.mem_cons_of_mem _ kw_73)) (fun _ h9 => h9) rfl hin rfl (tk_Pen 1 (by decide)) rfl rfl (Nat.le_of_ble_eq_true rfl) d_iPen_20 (fun H locs hP hD hS => ?_)
  have hP : va_P (dC, dI) clz [(q_o, .inr (3, [.ref q5, .ref q18, .null, .long 0, .long 0, .long 0, .long 0, .long 0, .long 0, .int 0])), (q5, .inr (2, f_Matrices q7_9 0)), (q7_9, .inl (k7_9, 54, .inr (.inl (fun _ => 0)))), (q18, .inl (k18, 6, .inr (.inl (fun _ => 0))))] H := hP
  have hD : va_D A [(q_o, .inr (3, [.ref q5, .ref q18, .null, .long 0, .long 0, .long 0, .long 0, .long 0, .long 0, .int 0])), (q5, .inr (2, f_Matrices q7_9 0)), (q7_9, .inl (k7_9, 54, .inr (.inl (fun _ => 0)))), (q18, .inl (k18, 6, .inr (.inl (fun _ => 0))))] := hD
  refine lv_aload_n (pc := 23) hx hb d_iPen_23 rfl (lv_at hl 0 rfl) ?_
  refine lv_bipush (pc := 24) (v := (6 : Int32)) hx hb d_iPen_24 (by decide) ?_
  refine va_newa (pc := 26) (atype := .long) (ty := .long) (a0 := (6, .inr (.inl (fun _ => 0)))) hx hb (hts _ (List.mem_cons_of_mem _ kw_70)) rfl hK hP hD hS hA (fun _ => rfl) (by decide) (N' := 6) (by decide) (by decide) (Nat.le_of_ble_eq_true rfl) (Nat.le_of_ble_eq_true rfl) d_iPen_26 (fun q26 k26 H hK hP hD hS => ?_)
  have hP : va_P (dC, dI) clz [(q_o, .inr (3, [.ref q5, .ref q18, .null, .long 0, .long 0, .long 0, .long 0, .long 0, .long 0, .int 0])), (q5, .inr (2, f_Matrices q7_9 0)), (q7_9, .inl (k7_9, 54, .inr (.inl (fun _ => 0)))), (q18, .inl (k18, 6, .inr (.inl (fun _ => 0)))), (q26, .inl (k26, 6, .inr (.inl (fun _ => 0))))] H := hP
  have hD : va_D A [(q_o, .inr (3, [.ref q5, .ref q18, .null, .long 0, .long 0, .long 0, .long 0, .long 0, .long 0, .int 0])), (q5, .inr (2, f_Matrices q7_9 0)), (q7_9, .inl (k7_9, 54, .inr (.inl (fun _ => 0)))), (q18, .inl (k18, 6, .inr (.inl (fun _ => 0)))), (q26, .inl (k26, 6, .inr (.inl (fun _ => 0))))] := hD
  have hK : va_K (dC, dI) clz [(k7_9, .long), (k18, .long), (k26, .long)] s := hK
  refine va_putF (pc := 28) (D := (dC, dI)) (ci := 3) (v := .ref q26) (ty := .array .long) (C := "PathTexts$Pen") (T := F_Pen) (N := 10) hx hb hts (fun w h => List.mem_cons_of_mem _ (in_Pen w h)) t_Pen tk_Pen n_Pen hown hK hP hD hS 0 rfl rfl 2 (by decide) (hts _ (List.mem_cons_of_mem _ kw_74)) (fun _ h9 => h9) rfl hin rfl (tk_Pen 2 (by decide)) rfl rfl (Nat.le_of_ble_eq_true rfl) d_iPen_28 (fun H locs hP hD hS => ?_)
  have hP : va_P (dC, dI) clz [(q_o, .inr (3, [.ref q5, .ref q18, .ref q26, .long 0, .long 0, .long 0, .long 0, .long 0, .long 0, .int 0])), (q5, .inr (2, f_Matrices q7_9 0)), (q7_9, .inl (k7_9, 54, .inr (.inl (fun _ => 0)))), (q18, .inl (k18, 6, .inr (.inl (fun _ => 0)))), (q26, .inl (k26, 6, .inr (.inl (fun _ => 0))))] H := hP
  have hD : va_D A [(q_o, .inr (3, [.ref q5, .ref q18, .ref q26, .long 0, .long 0, .long 0, .long 0, .long 0, .long 0, .int 0])), (q5, .inr (2, f_Matrices q7_9 0)), (q7_9, .inl (k7_9, 54, .inr (.inl (fun _ => 0)))), (q18, .inl (k18, 6, .inr (.inl (fun _ => 0)))), (q26, .inl (k26, 6, .inr (.inl (fun _ => 0))))] := hD
  refine W.widen (k := 4) (n := 68) (Nat.le_of_ble_eq_true rfl) (Nat.le_of_ble_eq_true rfl) ?_
  exact W.vret hx hb hr (fun t ht hW => ⟨⟨(), rfl, trivial, q5, q7_9, q18, q26, k7_9, k18, k26, by rw [ht]; exact hP, va_K.moved hW.alike hK, hD⟩, hS.F ht⟩) hS.2.2 d_iPen_31
abbrev y_iReader : MethodName := ⟨"PathTexts$Reader", "<init>", "(LPathTexts$Row;)V"⟩
abbrev w_iReader : List Cond := .code y_iReader prog_6_method_1_code 2 none :: kw
theorem d_iReader_0 : decode prog_6_method_1_code 0 = .ok (.aload_n 0, 1) := by decide +kernel
theorem d_iReader_1 : decode prog_6_method_1_code 1 = .ok (.invokespecial 3, 3) := by decide +kernel
theorem d_iReader_4 : decode prog_6_method_1_code 4 = .ok (.aload_n 0, 1) := by decide +kernel
theorem d_iReader_5 : decode prog_6_method_1_code 5 = .ok (.new 9, 3) := by decide +kernel
theorem d_iReader_8 : decode prog_6_method_1_code 8 = .ok (.dup, 1) := by decide +kernel
theorem d_iReader_9 : decode prog_6_method_1_code 9 = .ok (.invokespecial 11, 3) := by decide +kernel
theorem d_iReader_12 : decode prog_6_method_1_code 12 = .ok (.putfield 12, 3) := by decide +kernel
theorem d_iReader_15 : decode prog_6_method_1_code 15 = .ok (.aload_n 0, 1) := by decide +kernel
theorem d_iReader_16 : decode prog_6_method_1_code 16 = .ok (.bipush 6, 2) := by decide +kernel
theorem d_iReader_18 : decode prog_6_method_1_code 18 = .ok (.newarray .long, 2) := by decide +kernel
theorem d_iReader_20 : decode prog_6_method_1_code 20 = .ok (.putfield 18, 3) := by decide +kernel
theorem d_iReader_23 : decode prog_6_method_1_code 23 = .ok (.aload_n 0, 1) := by decide +kernel
theorem d_iReader_24 : decode prog_6_method_1_code 24 = .ok (.aload_n 1, 1) := by decide +kernel
theorem d_iReader_25 : decode prog_6_method_1_code 25 = .ok (.putfield 22, 3) := by decide +kernel
theorem d_iReader_28 : decode prog_6_method_1_code 28 = .ok (.return_, 1) := by decide +kernel
set_option maxHeartbeats 4000000 in
set_option maxRecDepth 100000 in
theorem ct_iReader (l : Launch) (dC : Nat → ClassId) (dI : Nat → Nat → Nat) (q_o : Nat) (q_p1 : Nat) (sz : Nat) (tt : Nat) : Met l y_iReader w_iReader ({ frames := 3, cells := 6, slots := 84, locals := 52 }) (va_Pc [.ref q_o, .ref q_p1] (fun U => U.heap.size = sz ∧ va_P (dC, dI) clz [(q_o, .inr (4, [.null, .null, .null, .int 0, .int 0, .int 0]))] U.heap ∧ va_K (dC, dI) clz [] U ∧ va_D (fun _ => True) [(q_o, .inr (4, [.null, .null, .null, .int 0, .int 0, .int 0]))] ∧ ke tt (va_A [(q_o, .inr (4, [.null, .null, .null, .int 0, .int 0, .int 0]))] sz) U)) (va_Qv (fun _ : Unit => True) (fun _ t => ∃ (q5 q5_9 q7_9_9 q18_9 q26_9 q18 : Nat) (k7_9_9 k18_9 k26_9 k18 : ClassId), va_P (dC, dI) clz [(q_o, .inr (4, f_Reader q_p1 q5 q18 0 0 0)), (q5, .inr (3, f_Pen q5_9 q18_9 q26_9 0 0 0 0 0 0 0)), (q5_9, .inr (2, f_Matrices q7_9_9 0)), (q7_9_9, .inl (k7_9_9, 54, .inr (.inl (fun _ => 0)))), (q18_9, .inl (k18_9, 6, .inr (.inl (fun _ => 0)))), (q26_9, .inl (k26_9, 6, .inr (.inl (fun _ => 0)))), (q18, .inl (k18, 6, .inr (.inl (fun _ => 0))))] t.heap ∧ va_K (dC, dI) clz [(k7_9_9, .long), (k18_9, .long), (k26_9, .long), (k18, .long)] t ∧ va_D (va_A [(q_o, .inr (4, [.null, .null, .null, .int 0, .int 0, .int 0]))] sz) [(q_o, .inr (4, f_Reader q_p1 q5 q18 0 0 0)), (q5, .inr (3, f_Pen q5_9 q18_9 q26_9 0 0 0 0 0 0 0)), (q5_9, .inr (2, f_Matrices q7_9_9 0)), (q7_9_9, .inl (k7_9_9, 54, .inr (.inl (fun _ => 0)))), (q18_9, .inl (k18_9, 6, .inr (.inl (fun _ => 0)))), (q26_9, .inl (k26_9, 6, .inr (.inl (fun _ => 0)))), (q18, .inl (k18, 6, .inr (.inl (fun _ => 0))))]) (va_A [(q_o, .inr (4, [.null, .null, .null, .int 0, .int 0, .int 0]))] sz)) 6 84 (va_A [(q_o, .inr (4, [.null, .null, .null, .int 0, .int 0, .int 0]))] sz) := by
  refine Met.ofW (cc := prog_6_method_1_code) (maxL := 2) (ret := none) (by decide +kernel) rfl ?_
  intro p e s m args below meth c s₁ B hml hv
  obtain ⟨hargs, hsz, hP, hK, hD0, hE⟩ := hv
  have hx := B.exec
  have hb := B.bytes
  have hr := B.returns
  have hts := atoms_spec (ws := w_iReader) B.pre
  have hown : s.vm.findClass "PathTexts$Reader" = some m.cls := findClass_of_methodNamed B.named
  have hlocks := B.notSynchronized
  have hin : meth.name = "<init>" := (name_of_methodNamed B.named B.method).1
  subst hsz
  have hD := hD0.self (sz := s.heap.size)
  generalize hAe : va_A [(q_o, .inr (4, [.null, .null, .null, .int 0, .int 0, .int 0]))] s.heap.size = A at hD hE ⊢
  have hA : ∀ q : Nat, s.heap.size ≤ q → A q := fun q h => by rw [← hAe]; exact Or.inr h
  clear hAe hD0
  have hS : va_S A s.heap s.heap [] := va_S.rf
  have hl := lv_entry ([.ref q_o, .ref q_p1]) (n := 2) (Nat.le_of_ble_eq_true rfl)
  have hent : entryFrame m args 2 = F0 m 0 (lg_sl ([.ref q_o, .ref q_p1]) ++ List.replicate (2 - (lg_sl ([.ref q_o, .ref q_p1])).length) Slot.unset).toArray [] := by rw [hargs, lg_entry_eq]
  rw [hent]
  clear hent hargs
  generalize (lg_sl ([.ref q_o, .ref q_p1]) ++ List.replicate (2 - (lg_sl ([.ref q_o, .ref q_p1])).length) Slot.unset).toArray = ls at hl ⊢
  have hl : lv_has ls 2 [(0, .ref q_o), (1, .ref q_p1)] := hl
  refine lv_aload_n (pc := 0) hx hb d_iReader_0 rfl (lv_at hl 0 rfl) ?_
  refine W.objInit hx hb hown (hts _ (List.mem_cons_of_mem _ kw_49)) (hts _ (List.mem_cons_of_mem _ kw_25)) (hts _ (List.mem_cons_of_mem _ kw_26)) rfl (by rw [hml]; exact hl.1) rfl d_iReader_1 (Nat.le_of_ble_eq_true rfl) (Nat.le_of_ble_eq_true rfl) ?_
  refine W.eq (g2 := F0 m 4 ls []) rfl ?_
  refine lv_aload_n (pc := 4) hx hb d_iReader_4 rfl (lv_at hl 0 rfl) ?_
  refine va_new (pc := 5) (ci := 3) (fs := [.null, .null, .null, .long 0, .long 0, .long 0, .long 0, .long 0, .long 0, .int 0]) (C := "PathTexts$Pen") (T := F_Pen) (N := 10) hx hb hts (fun w h => List.mem_cons_of_mem _ (in_Pen w h)) t_Pen tk_Pen hown (hts _ (List.mem_cons_of_mem _ kw_50)) (hts _ (List.mem_cons_of_mem _ kw_51)) (hts _ (List.mem_cons_of_mem _ kw_4)) hK hP hD hS hA rfl (fun j hj => (by decide : ∀ j, j < 10 → defaultValue (t_Pen j) = vp_V [.null, .null, .null, .long 0, .long 0, .long 0, .long 0, .long 0, .long 0, .int 0] j) j hj) (Nat.le_of_ble_eq_true rfl) (Nat.le_of_ble_eq_true rfl) d_iReader_5 (fun q5 H hP hD hS => ?_)
  have hP : va_P (dC, dI) clz [(q_o, .inr (4, [.null, .null, .null, .int 0, .int 0, .int 0])), (q5, .inr (3, [.null, .null, .null, .long 0, .long 0, .long 0, .long 0, .long 0, .long 0, .int 0]))] H := hP
  have hD : va_D A [(q_o, .inr (4, [.null, .null, .null, .int 0, .int 0, .int 0])), (q5, .inr (3, [.null, .null, .null, .long 0, .long 0, .long 0, .long 0, .long 0, .long 0, .int 0]))] := hD
  refine lv_dup (pc := 8) hx hb d_iReader_8 rfl ?_
  have hPc := hP.sub (ws' := [(q5, .inr (3, [.null, .null, .null, .long 0, .long 0, .long 0, .long 0, .long 0, .long 0, .int 0]))]) [1] rfl
  have hDc := hD.sub (ws' := [(q5, .inr (3, [.null, .null, .null, .long 0, .long 0, .long 0, .long 0, .long 0, .long 0, .int 0]))]) [1] (by decide) rfl
  have hKc := hK.sub (tys' := []) [] rfl
  have hFc := va_free (wc := [(q5, .inr (3, [.null, .null, .null, .long 0, .long 0, .long 0, .long 0, .long 0, .long 0, .int 0]))]) hD hS hA [1] rfl
  refine va_callv (pc := 9) (va_runIN (As := []) (rest := [.ref q5, .ref q_o]) ⟨hx, hb, hml, hown, hts⟩ (ct_iPen l dC dI q5 _ tt) ⟨va_cnB 0 hts (kw_in kw_54) rfl rfl rfl (hE.1 _ kn_0) (hts _ (List.mem_cons_of_mem _ kw_4)) (by decide +kernel) ⟨Nat.le_of_ble_eq_true rfl, Nat.le_of_ble_eq_true rfl⟩, rfl, hts _ (List.mem_cons_of_mem _ kw_53)⟩ (ke_pre hPc hKc hDc hE hS hFc) rfl rfl hl.1 rfl (lv_room (Nat.le_of_ble_eq_true rfl)) d_iReader_9 ⟨Nat.le_of_ble_eq_true rfl, Nat.le_of_ble_eq_true rfl⟩) hS (fun q _ h => hFc q h) hFc (fun u t H1 locs ht hvm hw hB hz1 hk1 hS => ?_)
  obtain ⟨q5_9, q7_9_9, q18_9, q26_9, k7_9_9, k18_9, k26_9, hP1, hK1, hD1⟩ := hB
  rw [ht] at hP1
  have hK1 := va_K.moved hvm.symm hK1
  obtain ⟨hP, hD⟩ := va_join (wr := [(q_o, .inr (4, [.null, .null, .null, .int 0, .int 0, .int 0]))]) (w1 := [(q5, .inr (3, f_Pen q5_9 q18_9 q26_9 0 0 0 0 0 0 0)), (q5_9, .inr (2, f_Matrices q7_9_9 0)), (q7_9_9, .inl (k7_9_9, 54, .inr (.inl (fun _ => 0)))), (q18_9, .inl (k18_9, 6, .inr (.inl (fun _ => 0)))), (q26_9, .inl (k26_9, 6, .inr (.inl (fun _ => 0))))]) hP hD [1] [0] rfl rfl (by decide) (by decide) hk1 hFc hP1 hD1
  have hK := hK.app hK1
  clear hP1 hK1 hD1 hk1 hPc hDc hKc hFc hz1 hvm ht hw
  generalize H1 = H at hP hS ⊢
  have hP : va_P (dC, dI) clz [(q_o, .inr (4, [.null, .null, .null, .int 0, .int 0, .int 0])), (q5, .inr (3, f_Pen q5_9 q18_9 q26_9 0 0 0 0 0 0 0)), (q5_9, .inr (2, f_Matrices q7_9_9 0)), (q7_9_9, .inl (k7_9_9, 54, .inr (.inl (fun _ => 0)))), (q18_9, .inl (k18_9, 6, .inr (.inl (fun _ => 0)))), (q26_9, .inl (k26_9, 6, .inr (.inl (fun _ => 0))))] H := hP
  have hD : va_D A [(q_o, .inr (4, [.null, .null, .null, .int 0, .int 0, .int 0])), (q5, .inr (3, f_Pen q5_9 q18_9 q26_9 0 0 0 0 0 0 0)), (q5_9, .inr (2, f_Matrices q7_9_9 0)), (q7_9_9, .inl (k7_9_9, 54, .inr (.inl (fun _ => 0)))), (q18_9, .inl (k18_9, 6, .inr (.inl (fun _ => 0)))), (q26_9, .inl (k26_9, 6, .inr (.inl (fun _ => 0))))] := hD
  have hK : va_K (dC, dI) clz [(k7_9_9, .long), (k18_9, .long), (k26_9, .long)] s := hK
  refine va_putF (pc := 12) (D := (dC, dI)) (ci := 4) (v := .ref q5) (ty := .object "PathTexts$Pen") (C := "PathTexts$Reader") (T := F_Reader) (N := 6) hx hb hts (fun w h => List.mem_cons_of_mem _ (in_Reader w h)) t_Reader tk_Reader n_Reader hown hK hP hD hS 0 rfl rfl 1 (by decide) (hts _ (List.mem_cons_of_mem _ kw_104)) (fun _ h9 => h9) rfl hin rfl (tk_Reader 1 (by decide)) rfl rfl (Nat.le_of_ble_eq_true rfl) d_iReader_12 (fun H locs hP hD hS => ?_)
  have hP : va_P (dC, dI) clz [(q_o, .inr (4, [.null, .ref q5, .null, .int 0, .int 0, .int 0])), (q5, .inr (3, f_Pen q5_9 q18_9 q26_9 0 0 0 0 0 0 0)), (q5_9, .inr (2, f_Matrices q7_9_9 0)), (q7_9_9, .inl (k7_9_9, 54, .inr (.inl (fun _ => 0)))), (q18_9, .inl (k18_9, 6, .inr (.inl (fun _ => 0)))), (q26_9, .inl (k26_9, 6, .inr (.inl (fun _ => 0))))] H := hP
  have hD : va_D A [(q_o, .inr (4, [.null, .ref q5, .null, .int 0, .int 0, .int 0])), (q5, .inr (3, f_Pen q5_9 q18_9 q26_9 0 0 0 0 0 0 0)), (q5_9, .inr (2, f_Matrices q7_9_9 0)), (q7_9_9, .inl (k7_9_9, 54, .inr (.inl (fun _ => 0)))), (q18_9, .inl (k18_9, 6, .inr (.inl (fun _ => 0)))), (q26_9, .inl (k26_9, 6, .inr (.inl (fun _ => 0))))] := hD
  refine lv_aload_n (pc := 15) hx hb d_iReader_15 rfl (lv_at hl 0 rfl) ?_
  refine lv_bipush (pc := 16) (v := (6 : Int32)) hx hb d_iReader_16 (by decide) ?_
  refine va_newa (pc := 18) (atype := .long) (ty := .long) (a0 := (6, .inr (.inl (fun _ => 0)))) hx hb (hts _ (List.mem_cons_of_mem _ kw_70)) rfl hK hP hD hS hA (fun _ => rfl) (by decide) (N' := 6) (by decide) (by decide) (Nat.le_of_ble_eq_true rfl) (Nat.le_of_ble_eq_true rfl) d_iReader_18 (fun q18 k18 H hK hP hD hS => ?_)
  have hP : va_P (dC, dI) clz [(q_o, .inr (4, [.null, .ref q5, .null, .int 0, .int 0, .int 0])), (q5, .inr (3, f_Pen q5_9 q18_9 q26_9 0 0 0 0 0 0 0)), (q5_9, .inr (2, f_Matrices q7_9_9 0)), (q7_9_9, .inl (k7_9_9, 54, .inr (.inl (fun _ => 0)))), (q18_9, .inl (k18_9, 6, .inr (.inl (fun _ => 0)))), (q26_9, .inl (k26_9, 6, .inr (.inl (fun _ => 0)))), (q18, .inl (k18, 6, .inr (.inl (fun _ => 0))))] H := hP
  have hD : va_D A [(q_o, .inr (4, [.null, .ref q5, .null, .int 0, .int 0, .int 0])), (q5, .inr (3, f_Pen q5_9 q18_9 q26_9 0 0 0 0 0 0 0)), (q5_9, .inr (2, f_Matrices q7_9_9 0)), (q7_9_9, .inl (k7_9_9, 54, .inr (.inl (fun _ => 0)))), (q18_9, .inl (k18_9, 6, .inr (.inl (fun _ => 0)))), (q26_9, .inl (k26_9, 6, .inr (.inl (fun _ => 0)))), (q18, .inl (k18, 6, .inr (.inl (fun _ => 0))))] := hD
  have hK : va_K (dC, dI) clz [(k7_9_9, .long), (k18_9, .long), (k26_9, .long), (k18, .long)] s := hK
  refine va_putF (pc := 20) (D := (dC, dI)) (ci := 4) (v := .ref q18) (ty := .array .long) (C := "PathTexts$Reader") (T := F_Reader) (N := 6) hx hb hts (fun w h => List.mem_cons_of_mem _ (in_Reader w h)) t_Reader tk_Reader n_Reader hown hK hP hD hS 0 rfl rfl 2 (by decide) (hts _ (List.mem_cons_of_mem _ kw_105)) (fun _ h9 => h9) rfl hin rfl (tk_Reader 2 (by decide)) rfl rfl (Nat.le_of_ble_eq_true rfl) d_iReader_20 (fun H locs hP hD hS => ?_)
  have hP : va_P (dC, dI) clz [(q_o, .inr (4, [.null, .ref q5, .ref q18, .int 0, .int 0, .int 0])), (q5, .inr (3, f_Pen q5_9 q18_9 q26_9 0 0 0 0 0 0 0)), (q5_9, .inr (2, f_Matrices q7_9_9 0)), (q7_9_9, .inl (k7_9_9, 54, .inr (.inl (fun _ => 0)))), (q18_9, .inl (k18_9, 6, .inr (.inl (fun _ => 0)))), (q26_9, .inl (k26_9, 6, .inr (.inl (fun _ => 0)))), (q18, .inl (k18, 6, .inr (.inl (fun _ => 0))))] H := hP
  have hD : va_D A [(q_o, .inr (4, [.null, .ref q5, .ref q18, .int 0, .int 0, .int 0])), (q5, .inr (3, f_Pen q5_9 q18_9 q26_9 0 0 0 0 0 0 0)), (q5_9, .inr (2, f_Matrices q7_9_9 0)), (q7_9_9, .inl (k7_9_9, 54, .inr (.inl (fun _ => 0)))), (q18_9, .inl (k18_9, 6, .inr (.inl (fun _ => 0)))), (q26_9, .inl (k26_9, 6, .inr (.inl (fun _ => 0)))), (q18, .inl (k18, 6, .inr (.inl (fun _ => 0))))] := hD
  refine lv_aload_n (pc := 23) hx hb d_iReader_23 rfl (lv_at hl 0 rfl) ?_
  refine lv_aload_n (pc := 24) hx hb d_iReader_24 rfl (lv_at hl 1 rfl) ?_
  refine va_putF (pc := 25) (D := (dC, dI)) (ci := 4) (v := .ref q_p1) (ty := .object "PathTexts$Row") (C := "PathTexts$Reader") (T := F_Reader) (N := 6) hx hb hts (fun w h => List.mem_cons_of_mem _ (in_Reader w h)) t_Reader tk_Reader n_Reader hown hK hP hD hS 0 rfl rfl 0 (by decide) (hts _ (List.mem_cons_of_mem _ kw_103)) (fun _ h9 => h9) rfl hin rfl (tk_Reader 0 (by decide)) rfl rfl (Nat.le_of_ble_eq_true rfl) d_iReader_25 (fun H locs hP hD hS => ?_)
  have hP : va_P (dC, dI) clz [(q_o, .inr (4, [.ref q_p1, .ref q5, .ref q18, .int 0, .int 0, .int 0])), (q5, .inr (3, f_Pen q5_9 q18_9 q26_9 0 0 0 0 0 0 0)), (q5_9, .inr (2, f_Matrices q7_9_9 0)), (q7_9_9, .inl (k7_9_9, 54, .inr (.inl (fun _ => 0)))), (q18_9, .inl (k18_9, 6, .inr (.inl (fun _ => 0)))), (q26_9, .inl (k26_9, 6, .inr (.inl (fun _ => 0)))), (q18, .inl (k18, 6, .inr (.inl (fun _ => 0))))] H := hP
  have hD : va_D A [(q_o, .inr (4, [.ref q_p1, .ref q5, .ref q18, .int 0, .int 0, .int 0])), (q5, .inr (3, f_Pen q5_9 q18_9 q26_9 0 0 0 0 0 0 0)), (q5_9, .inr (2, f_Matrices q7_9_9 0)), (q7_9_9, .inl (k7_9_9, 54, .inr (.inl (fun _ => 0)))), (q18_9, .inl (k18_9, 6, .inr (.inl (fun _ => 0)))), (q26_9, .inl (k26_9, 6, .inr (.inl (fun _ => 0)))), (q18, .inl (k18, 6, .inr (.inl (fun _ => 0))))] := hD
  refine W.widen (k := 6) (n := 84) (Nat.le_of_ble_eq_true rfl) (Nat.le_of_ble_eq_true rfl) ?_
  exact W.vret hx hb hr (fun t ht hW => ⟨⟨(), rfl, trivial, q5, q5_9, q7_9_9, q18_9, q26_9, q18, k7_9_9, k18_9, k26_9, k18, by rw [ht]; exact hP, va_K.moved hW.alike hK, hD⟩, hS.F ht⟩) hS.2.2 d_iReader_28
abbrev y_iP : MethodName := ⟨"PathTexts", "<init>", "()V"⟩
abbrev w_iP : List Cond := .code y_iP prog_1_method_1_code 1 none :: kw
theorem d_iP_0 : decode prog_1_method_1_code 0 = .ok (.aload_n 0, 1) := by decide +kernel
theorem d_iP_1 : decode prog_1_method_1_code 1 = .ok (.invokespecial 3, 3) := by decide +kernel
theorem d_iP_4 : decode prog_1_method_1_code 4 = .ok (.aload_n 0, 1) := by decide +kernel
theorem d_iP_5 : decode prog_1_method_1_code 5 = .ok (.new 9, 3) := by decide +kernel
theorem d_iP_8 : decode prog_1_method_1_code 8 = .ok (.dup, 1) := by decide +kernel
theorem d_iP_9 : decode prog_1_method_1_code 9 = .ok (.sipush 1200, 3) := by decide +kernel
theorem d_iP_12 : decode prog_1_method_1_code 12 = .ok (.invokespecial 11, 3) := by decide +kernel
theorem d_iP_15 : decode prog_1_method_1_code 15 = .ok (.putfield 14, 3) := by decide +kernel
theorem d_iP_18 : decode prog_1_method_1_code 18 = .ok (.aload_n 0, 1) := by decide +kernel
theorem d_iP_19 : decode prog_1_method_1_code 19 = .ok (.new 9, 3) := by decide +kernel
theorem d_iP_22 : decode prog_1_method_1_code 22 = .ok (.dup, 1) := by decide +kernel
theorem d_iP_23 : decode prog_1_method_1_code 23 = .ok (.sipush 8250, 3) := by decide +kernel
theorem d_iP_26 : decode prog_1_method_1_code 26 = .ok (.invokespecial 11, 3) := by decide +kernel
theorem d_iP_29 : decode prog_1_method_1_code 29 = .ok (.putfield 18, 3) := by decide +kernel
theorem d_iP_32 : decode prog_1_method_1_code 32 = .ok (.aload_n 0, 1) := by decide +kernel
theorem d_iP_33 : decode prog_1_method_1_code 33 = .ok (.new 21, 3) := by decide +kernel
theorem d_iP_36 : decode prog_1_method_1_code 36 = .ok (.dup, 1) := by decide +kernel
theorem d_iP_37 : decode prog_1_method_1_code 37 = .ok (.aload_n 0, 1) := by decide +kernel
theorem d_iP_38 : decode prog_1_method_1_code 38 = .ok (.getfield 14, 3) := by decide +kernel
theorem d_iP_41 : decode prog_1_method_1_code 41 = .ok (.invokespecial 23, 3) := by decide +kernel
theorem d_iP_44 : decode prog_1_method_1_code 44 = .ok (.putfield 26, 3) := by decide +kernel
theorem d_iP_47 : decode prog_1_method_1_code 47 = .ok (.aload_n 0, 1) := by decide +kernel
theorem d_iP_48 : decode prog_1_method_1_code 48 = .ok (.new 30, 3) := by decide +kernel
theorem d_iP_51 : decode prog_1_method_1_code 51 = .ok (.dup, 1) := by decide +kernel
theorem d_iP_52 : decode prog_1_method_1_code 52 = .ok (.invokespecial 32, 3) := by decide +kernel
theorem d_iP_55 : decode prog_1_method_1_code 55 = .ok (.putfield 33, 3) := by decide +kernel
theorem d_iP_58 : decode prog_1_method_1_code 58 = .ok (.aload_n 0, 1) := by decide +kernel
theorem d_iP_59 : decode prog_1_method_1_code 59 = .ok (.bipush 6, 2) := by decide +kernel
theorem d_iP_61 : decode prog_1_method_1_code 61 = .ok (.newarray .long, 2) := by decide +kernel
theorem d_iP_63 : decode prog_1_method_1_code 63 = .ok (.putfield 37, 3) := by decide +kernel
theorem d_iP_66 : decode prog_1_method_1_code 66 = .ok (.aload_n 0, 1) := by decide +kernel
theorem d_iP_67 : decode prog_1_method_1_code 67 = .ok (.new 41, 3) := by decide +kernel
theorem d_iP_70 : decode prog_1_method_1_code 70 = .ok (.dup, 1) := by decide +kernel
theorem d_iP_71 : decode prog_1_method_1_code 71 = .ok (.invokespecial 43, 3) := by decide +kernel
theorem d_iP_74 : decode prog_1_method_1_code 74 = .ok (.putfield 44, 3) := by decide +kernel
theorem d_iP_77 : decode prog_1_method_1_code 77 = .ok (.aload_n 0, 1) := by decide +kernel
theorem d_iP_78 : decode prog_1_method_1_code 78 = .ok (.new 41, 3) := by decide +kernel
theorem d_iP_81 : decode prog_1_method_1_code 81 = .ok (.dup, 1) := by decide +kernel
theorem d_iP_82 : decode prog_1_method_1_code 82 = .ok (.invokespecial 43, 3) := by decide +kernel
theorem d_iP_85 : decode prog_1_method_1_code 85 = .ok (.putfield 48, 3) := by decide +kernel
theorem d_iP_88 : decode prog_1_method_1_code 88 = .ok (.return_, 1) := by decide +kernel
set_option maxHeartbeats 4000000 in
set_option maxRecDepth 100000 in
theorem ct_iP (l : Launch) (dC : Nat → ClassId) (dI : Nat → Nat → Nat) (q_o : Nat) (sz : Nat) (tt : Nat) : Met l y_iP w_iP ({ frames := 4, cells := 21, slots := 13777, locals := 73 }) (va_Pc [.ref q_o] (fun U => U.heap.size = sz ∧ va_P (dC, dI) clz [(q_o, .inr (6, [.null, .null, .null, .null, .null, .null, .null]))] U.heap ∧ va_K (dC, dI) clz [] U ∧ va_D (fun _ => True) [(q_o, .inr (6, [.null, .null, .null, .null, .null, .null, .null]))] ∧ ke tt (va_A [(q_o, .inr (6, [.null, .null, .null, .null, .null, .null, .null]))] sz) U)) (va_Qv (fun _ : Unit => True) (fun _ t => ∃ (q5 q14_12 q19 q14_26 q33 q5_41 q5_9_41 q7_9_9_41 q18_9_41 q26_9_41 q18_41 q48 q7_52 q16_52 q61 q67 q8_71 q17_71 q78 q8_82 q17_82 : Nat) (k14_12 k14_26 k7_9_9_41 k18_9_41 k26_9_41 k18_41 k7_52 k16_52 k61 k8_71 k17_71 k8_82 k17_82 : ClassId), va_P (dC, dI) clz [(q_o, .inr (6, f_P q5 q19 q33 q48 q61 q67 q78)), (q5, .inr (5, f_Row q14_12 0)), (q14_12, .inl (k14_12, 1200, .inl (fun _ => 0))), (q19, .inr (5, f_Row q14_26 0)), (q14_26, .inl (k14_26, 8250, .inl (fun _ => 0))), (q33, .inr (4, f_Reader q5 q5_41 q18_41 0 0 0)), (q5_41, .inr (3, f_Pen q5_9_41 q18_9_41 q26_9_41 0 0 0 0 0 0 0)), (q5_9_41, .inr (2, f_Matrices q7_9_9_41 0)), (q7_9_9_41, .inl (k7_9_9_41, 54, .inr (.inl (fun _ => 0)))), (q18_9_41, .inl (k18_9_41, 6, .inr (.inl (fun _ => 0)))), (q26_9_41, .inl (k26_9_41, 6, .inr (.inl (fun _ => 0)))), (q18_41, .inl (k18_41, 6, .inr (.inl (fun _ => 0)))), (q48, .inr (0, f_Cover q7_52 q16_52 0 0 0 0 0 0 0)), (q7_52, .inl (k7_52, 64, .inl (fun _ => 0))), (q16_52, .inl (k16_52, 2048, .inl (fun _ => 0))), (q61, .inl (k61, 6, .inr (.inl (fun _ => 0)))), (q67, .inr (1, f_Drawing q8_71 q17_71 0)), (q8_71, .inl (k8_71, 150, .inl (fun _ => 0))), (q17_71, .inl (k17_71, 900, .inl (fun _ => 0))), (q78, .inr (1, f_Drawing q8_82 q17_82 0)), (q8_82, .inl (k8_82, 150, .inl (fun _ => 0))), (q17_82, .inl (k17_82, 900, .inl (fun _ => 0)))] t.heap ∧ va_K (dC, dI) clz [(k14_12, .char), (k14_26, .char), (k7_9_9_41, .long), (k18_9_41, .long), (k26_9_41, .long), (k18_41, .long), (k7_52, .int), (k16_52, .int), (k61, .long), (k8_71, .int), (k17_71, .int), (k8_82, .int), (k17_82, .int)] t ∧ va_D (va_A [(q_o, .inr (6, [.null, .null, .null, .null, .null, .null, .null]))] sz) [(q_o, .inr (6, f_P q5 q19 q33 q48 q61 q67 q78)), (q5, .inr (5, f_Row q14_12 0)), (q14_12, .inl (k14_12, 1200, .inl (fun _ => 0))), (q19, .inr (5, f_Row q14_26 0)), (q14_26, .inl (k14_26, 8250, .inl (fun _ => 0))), (q33, .inr (4, f_Reader q5 q5_41 q18_41 0 0 0)), (q5_41, .inr (3, f_Pen q5_9_41 q18_9_41 q26_9_41 0 0 0 0 0 0 0)), (q5_9_41, .inr (2, f_Matrices q7_9_9_41 0)), (q7_9_9_41, .inl (k7_9_9_41, 54, .inr (.inl (fun _ => 0)))), (q18_9_41, .inl (k18_9_41, 6, .inr (.inl (fun _ => 0)))), (q26_9_41, .inl (k26_9_41, 6, .inr (.inl (fun _ => 0)))), (q18_41, .inl (k18_41, 6, .inr (.inl (fun _ => 0)))), (q48, .inr (0, f_Cover q7_52 q16_52 0 0 0 0 0 0 0)), (q7_52, .inl (k7_52, 64, .inl (fun _ => 0))), (q16_52, .inl (k16_52, 2048, .inl (fun _ => 0))), (q61, .inl (k61, 6, .inr (.inl (fun _ => 0)))), (q67, .inr (1, f_Drawing q8_71 q17_71 0)), (q8_71, .inl (k8_71, 150, .inl (fun _ => 0))), (q17_71, .inl (k17_71, 900, .inl (fun _ => 0))), (q78, .inr (1, f_Drawing q8_82 q17_82 0)), (q8_82, .inl (k8_82, 150, .inl (fun _ => 0))), (q17_82, .inl (k17_82, 900, .inl (fun _ => 0)))]) (va_A [(q_o, .inr (6, [.null, .null, .null, .null, .null, .null, .null]))] sz)) 21 13777 (va_A [(q_o, .inr (6, [.null, .null, .null, .null, .null, .null, .null]))] sz) := by
  refine Met.ofW (cc := prog_1_method_1_code) (maxL := 1) (ret := none) (by decide +kernel) rfl ?_
  intro p e s m args below meth c s₁ B hml hv
  obtain ⟨hargs, hsz, hP, hK, hD0, hE⟩ := hv
  have hx := B.exec
  have hb := B.bytes
  have hr := B.returns
  have hts := atoms_spec (ws := w_iP) B.pre
  have hown : s.vm.findClass "PathTexts" = some m.cls := findClass_of_methodNamed B.named
  have hlocks := B.notSynchronized
  have hin : meth.name = "<init>" := (name_of_methodNamed B.named B.method).1
  subst hsz
  have hD := hD0.self (sz := s.heap.size)
  generalize hAe : va_A [(q_o, .inr (6, [.null, .null, .null, .null, .null, .null, .null]))] s.heap.size = A at hD hE ⊢
  have hA : ∀ q : Nat, s.heap.size ≤ q → A q := fun q h => by rw [← hAe]; exact Or.inr h
  clear hAe hD0
  have hS : va_S A s.heap s.heap [] := va_S.rf
  have hl := lv_entry ([.ref q_o]) (n := 1) (Nat.le_of_ble_eq_true rfl)
  have hent : entryFrame m args 1 = F0 m 0 (lg_sl ([.ref q_o]) ++ List.replicate (1 - (lg_sl ([.ref q_o])).length) Slot.unset).toArray [] := by rw [hargs, lg_entry_eq]
  rw [hent]
  clear hent hargs
  generalize (lg_sl ([.ref q_o]) ++ List.replicate (1 - (lg_sl ([.ref q_o])).length) Slot.unset).toArray = ls at hl ⊢
  have hl : lv_has ls 1 [(0, .ref q_o)] := hl
  refine lv_aload_n (pc := 0) hx hb d_iP_0 rfl (lv_at hl 0 rfl) ?_
  refine W.objInit hx hb hown (hts _ (List.mem_cons_of_mem _ kw_24)) (hts _ (List.mem_cons_of_mem _ kw_25)) (hts _ (List.mem_cons_of_mem _ kw_26)) rfl (by rw [hml]; exact hl.1) rfl d_iP_1 (Nat.le_of_ble_eq_true rfl) (Nat.le_of_ble_eq_true rfl) ?_
  refine W.eq (g2 := F0 m 4 ls []) rfl ?_
  refine lv_aload_n (pc := 4) hx hb d_iP_4 rfl (lv_at hl 0 rfl) ?_
  refine va_new (pc := 5) (ci := 5) (fs := [.null, .int 0]) (C := "PathTexts$Row") (T := F_Row) (N := 2) hx hb hts (fun w h => List.mem_cons_of_mem _ (in_Row w h)) t_Row tk_Row hown (hts _ (List.mem_cons_of_mem _ kw_27)) (hts _ (List.mem_cons_of_mem _ kw_28)) (hts _ (List.mem_cons_of_mem _ kw_2)) hK hP hD hS hA rfl (fun j hj => (by decide : ∀ j, j < 2 → defaultValue (t_Row j) = vp_V [.null, .int 0] j) j hj) (Nat.le_of_ble_eq_true rfl) (Nat.le_of_ble_eq_true rfl) d_iP_5 (fun q5 H hP hD hS => ?_)
  have hP : va_P (dC, dI) clz [(q_o, .inr (6, [.null, .null, .null, .null, .null, .null, .null])), (q5, .inr (5, [.null, .int 0]))] H := hP
  have hD : va_D A [(q_o, .inr (6, [.null, .null, .null, .null, .null, .null, .null])), (q5, .inr (5, [.null, .int 0]))] := hD
  refine lv_dup (pc := 8) hx hb d_iP_8 rfl ?_
  refine lv_sipush (pc := 9) (v := (1200 : Int32)) hx hb d_iP_9 (by decide) ?_
  have hPc := hP.sub (ws' := [(q5, .inr (5, [.null, .int 0]))]) [1] rfl
  have hDc := hD.sub (ws' := [(q5, .inr (5, [.null, .int 0]))]) [1] (by decide) rfl
  have hKc := hK.sub (tys' := []) [] rfl
  have hFc := va_free (wc := [(q5, .inr (5, [.null, .int 0]))]) hD hS hA [1] rfl
  refine va_callv (pc := 12) (va_runI (As := [.int (1200 : Int32)]) (rest := [.ref q5, .ref q_o]) ⟨hx, hb, hml, hown, hts⟩ (ct_iRow_1200 l dC dI q5 _) (cwI 1 hts (kw_in kw_31) rfl rfl rfl (hts _ (List.mem_cons_of_mem _ kw_2)) (hts _ (List.mem_cons_of_mem _ kw_29)) (hts _ (List.mem_cons_of_mem _ kw_30)) rfl (by decide +kernel) ⟨Nat.le_of_ble_eq_true rfl, Nat.le_of_ble_eq_true rfl⟩) (kx_pre hPc hKc hDc) rfl rfl hl.1 rfl (lv_room (Nat.le_of_ble_eq_true rfl)) d_iP_12 ⟨Nat.le_of_ble_eq_true rfl, Nat.le_of_ble_eq_true rfl⟩) hS (fun q _ h => hFc q h) hFc (fun u t H1 locs ht hvm hw hB hz1 hk1 hS => ?_)
  obtain ⟨q14_12, k14_12, hP1, hK1, hD1⟩ := hB
  rw [ht] at hP1
  have hK1 := va_K.moved hvm.symm hK1
  obtain ⟨hP, hD⟩ := va_join (wr := [(q_o, .inr (6, [.null, .null, .null, .null, .null, .null, .null]))]) (w1 := [(q5, .inr (5, f_Row q14_12 0)), (q14_12, .inl (k14_12, 1200, .inl (fun _ => 0)))]) hP hD [1] [0] rfl rfl (by decide) (by decide) hk1 hFc hP1 hD1
  have hK := hK.app hK1
  clear hP1 hK1 hD1 hk1 hPc hDc hKc hFc hz1 hvm ht hw
  generalize H1 = H at hP hS ⊢
  have hP : va_P (dC, dI) clz [(q_o, .inr (6, [.null, .null, .null, .null, .null, .null, .null])), (q5, .inr (5, f_Row q14_12 0)), (q14_12, .inl (k14_12, 1200, .inl (fun _ => 0)))] H := hP
  have hD : va_D A [(q_o, .inr (6, [.null, .null, .null, .null, .null, .null, .null])), (q5, .inr (5, f_Row q14_12 0)), (q14_12, .inl (k14_12, 1200, .inl (fun _ => 0)))] := hD
  have hK : va_K (dC, dI) clz [(k14_12, .char)] s := hK
  refine va_putF (pc := 15) (D := (dC, dI)) (ci := 6) (v := .ref q5) (ty := .object "PathTexts$Row") (C := "PathTexts") (T := F_P) (N := 7) hx hb hts (fun w h => List.mem_cons_of_mem _ (in_P w h)) t_P tk_P n_P hown hK hP hD hS 0 rfl rfl 0 (by decide) (hts _ (List.mem_cons_of_mem _ kw_186)) (fun _ h9 => h9) rfl hin rfl (tk_P 0 (by decide)) rfl rfl (Nat.le_of_ble_eq_true rfl) d_iP_15 (fun H locs hP hD hS => ?_)
  have hP : va_P (dC, dI) clz [(q_o, .inr (6, [.ref q5, .null, .null, .null, .null, .null, .null])), (q5, .inr (5, f_Row q14_12 0)), (q14_12, .inl (k14_12, 1200, .inl (fun _ => 0)))] H := hP
  have hD : va_D A [(q_o, .inr (6, [.ref q5, .null, .null, .null, .null, .null, .null])), (q5, .inr (5, f_Row q14_12 0)), (q14_12, .inl (k14_12, 1200, .inl (fun _ => 0)))] := hD
  refine lv_aload_n (pc := 18) hx hb d_iP_18 rfl (lv_at hl 0 rfl) ?_
  refine va_new (pc := 19) (ci := 5) (fs := [.null, .int 0]) (C := "PathTexts$Row") (T := F_Row) (N := 2) hx hb hts (fun w h => List.mem_cons_of_mem _ (in_Row w h)) t_Row tk_Row hown (hts _ (List.mem_cons_of_mem _ kw_27)) (hts _ (List.mem_cons_of_mem _ kw_28)) (hts _ (List.mem_cons_of_mem _ kw_2)) hK hP hD hS hA rfl (fun j hj => (by decide : ∀ j, j < 2 → defaultValue (t_Row j) = vp_V [.null, .int 0] j) j hj) (Nat.le_of_ble_eq_true rfl) (Nat.le_of_ble_eq_true rfl) d_iP_19 (fun q19 H hP hD hS => ?_)
  have hP : va_P (dC, dI) clz [(q_o, .inr (6, [.ref q5, .null, .null, .null, .null, .null, .null])), (q5, .inr (5, f_Row q14_12 0)), (q14_12, .inl (k14_12, 1200, .inl (fun _ => 0))), (q19, .inr (5, [.null, .int 0]))] H := hP
  have hD : va_D A [(q_o, .inr (6, [.ref q5, .null, .null, .null, .null, .null, .null])), (q5, .inr (5, f_Row q14_12 0)), (q14_12, .inl (k14_12, 1200, .inl (fun _ => 0))), (q19, .inr (5, [.null, .int 0]))] := hD
  refine lv_dup (pc := 22) hx hb d_iP_22 rfl ?_
  refine lv_sipush (pc := 23) (v := (8250 : Int32)) hx hb d_iP_23 (by decide) ?_
  have hPc := hP.sub (ws' := [(q19, .inr (5, [.null, .int 0]))]) [3] rfl
  have hDc := hD.sub (ws' := [(q19, .inr (5, [.null, .int 0]))]) [3] (by decide) rfl
  have hKc := hK.sub (tys' := []) [] rfl
  have hFc := va_free (wc := [(q19, .inr (5, [.null, .int 0]))]) hD hS hA [3] rfl
  refine va_callv (pc := 26) (va_runI (As := [.int (8250 : Int32)]) (rest := [.ref q19, .ref q_o]) ⟨hx, hb, hml, hown, hts⟩ (ct_iRow_8250 l dC dI q19 _) (cwI 1 hts (kw_in kw_31) rfl rfl rfl (hts _ (List.mem_cons_of_mem _ kw_2)) (hts _ (List.mem_cons_of_mem _ kw_29)) (hts _ (List.mem_cons_of_mem _ kw_30)) rfl (by decide +kernel) ⟨Nat.le_of_ble_eq_true rfl, Nat.le_of_ble_eq_true rfl⟩) (kx_pre hPc hKc hDc) rfl rfl hl.1 rfl (lv_room (Nat.le_of_ble_eq_true rfl)) d_iP_26 ⟨Nat.le_of_ble_eq_true rfl, Nat.le_of_ble_eq_true rfl⟩) hS (fun q _ h => hFc q h) hFc (fun u t H1 locs ht hvm hw hB hz1 hk1 hS => ?_)
  obtain ⟨q14_26, k14_26, hP1, hK1, hD1⟩ := hB
  rw [ht] at hP1
  have hK1 := va_K.moved hvm.symm hK1
  obtain ⟨hP, hD⟩ := va_join (wr := [(q_o, .inr (6, [.ref q5, .null, .null, .null, .null, .null, .null])), (q5, .inr (5, f_Row q14_12 0)), (q14_12, .inl (k14_12, 1200, .inl (fun _ => 0)))]) (w1 := [(q19, .inr (5, f_Row q14_26 0)), (q14_26, .inl (k14_26, 8250, .inl (fun _ => 0)))]) hP hD [3] [0, 1, 2] rfl rfl (by decide) (by decide) hk1 hFc hP1 hD1
  have hK := hK.app hK1
  clear hP1 hK1 hD1 hk1 hPc hDc hKc hFc hz1 hvm ht hw
  generalize H1 = H at hP hS ⊢
  have hP : va_P (dC, dI) clz [(q_o, .inr (6, [.ref q5, .null, .null, .null, .null, .null, .null])), (q5, .inr (5, f_Row q14_12 0)), (q14_12, .inl (k14_12, 1200, .inl (fun _ => 0))), (q19, .inr (5, f_Row q14_26 0)), (q14_26, .inl (k14_26, 8250, .inl (fun _ => 0)))] H := hP
  have hD : va_D A [(q_o, .inr (6, [.ref q5, .null, .null, .null, .null, .null, .null])), (q5, .inr (5, f_Row q14_12 0)), (q14_12, .inl (k14_12, 1200, .inl (fun _ => 0))), (q19, .inr (5, f_Row q14_26 0)), (q14_26, .inl (k14_26, 8250, .inl (fun _ => 0)))] := hD
  have hK : va_K (dC, dI) clz [(k14_12, .char), (k14_26, .char)] s := hK
  refine va_putF (pc := 29) (D := (dC, dI)) (ci := 6) (v := .ref q19) (ty := .object "PathTexts$Row") (C := "PathTexts") (T := F_P) (N := 7) hx hb hts (fun w h => List.mem_cons_of_mem _ (in_P w h)) t_P tk_P n_P hown hK hP hD hS 0 rfl rfl 1 (by decide) (hts _ (List.mem_cons_of_mem _ kw_187)) (fun _ h9 => h9) rfl hin rfl (tk_P 1 (by decide)) rfl rfl (Nat.le_of_ble_eq_true rfl) d_iP_29 (fun H locs hP hD hS => ?_)
  have hP : va_P (dC, dI) clz [(q_o, .inr (6, [.ref q5, .ref q19, .null, .null, .null, .null, .null])), (q5, .inr (5, f_Row q14_12 0)), (q14_12, .inl (k14_12, 1200, .inl (fun _ => 0))), (q19, .inr (5, f_Row q14_26 0)), (q14_26, .inl (k14_26, 8250, .inl (fun _ => 0)))] H := hP
  have hD : va_D A [(q_o, .inr (6, [.ref q5, .ref q19, .null, .null, .null, .null, .null])), (q5, .inr (5, f_Row q14_12 0)), (q14_12, .inl (k14_12, 1200, .inl (fun _ => 0))), (q19, .inr (5, f_Row q14_26 0)), (q14_26, .inl (k14_26, 8250, .inl (fun _ => 0)))] := hD
  refine lv_aload_n (pc := 32) hx hb d_iP_32 rfl (lv_at hl 0 rfl) ?_
  refine va_new (pc := 33) (ci := 4) (fs := [.null, .null, .null, .int 0, .int 0, .int 0]) (C := "PathTexts$Reader") (T := F_Reader) (N := 6) hx hb hts (fun w h => List.mem_cons_of_mem _ (in_Reader w h)) t_Reader tk_Reader hown (hts _ (List.mem_cons_of_mem _ kw_44)) (hts _ (List.mem_cons_of_mem _ kw_45)) (hts _ (List.mem_cons_of_mem _ kw_3)) hK hP hD hS hA rfl (fun j hj => (by decide : ∀ j, j < 6 → defaultValue (t_Reader j) = vp_V [.null, .null, .null, .int 0, .int 0, .int 0] j) j hj) (Nat.le_of_ble_eq_true rfl) (Nat.le_of_ble_eq_true rfl) d_iP_33 (fun q33 H hP hD hS => ?_)
  have hP : va_P (dC, dI) clz [(q_o, .inr (6, [.ref q5, .ref q19, .null, .null, .null, .null, .null])), (q5, .inr (5, f_Row q14_12 0)), (q14_12, .inl (k14_12, 1200, .inl (fun _ => 0))), (q19, .inr (5, f_Row q14_26 0)), (q14_26, .inl (k14_26, 8250, .inl (fun _ => 0))), (q33, .inr (4, [.null, .null, .null, .int 0, .int 0, .int 0]))] H := hP
  have hD : va_D A [(q_o, .inr (6, [.ref q5, .ref q19, .null, .null, .null, .null, .null])), (q5, .inr (5, f_Row q14_12 0)), (q14_12, .inl (k14_12, 1200, .inl (fun _ => 0))), (q19, .inr (5, f_Row q14_26 0)), (q14_26, .inl (k14_26, 8250, .inl (fun _ => 0))), (q33, .inr (4, [.null, .null, .null, .int 0, .int 0, .int 0]))] := hD
  refine lv_dup (pc := 36) hx hb d_iP_36 rfl ?_
  refine lv_aload_n (pc := 37) hx hb d_iP_37 rfl (lv_at hl 0 rfl) ?_
  refine va_get (pc := 38) (D := (dC, dI)) (ci := 6) (v := .ref q5) (C := "PathTexts") (T := F_P) (N := 7) hx hb hts (fun w h => List.mem_cons_of_mem _ (in_P w h)) hown hK hP 0 rfl rfl 0 (by decide) (hts _ (List.mem_cons_of_mem _ kw_186)) (fun _ h9 => h9) rfl d_iP_38 ?_
  have hPc := hP.sub (ws' := [(q33, .inr (4, [.null, .null, .null, .int 0, .int 0, .int 0]))]) [5] rfl
  have hDc := hD.sub (ws' := [(q33, .inr (4, [.null, .null, .null, .int 0, .int 0, .int 0]))]) [5] (by decide) rfl
  have hKc := hK.sub (tys' := []) [] rfl
  have hFc := va_free (wc := [(q33, .inr (4, [.null, .null, .null, .int 0, .int 0, .int 0]))]) hD hS hA [5] rfl
  refine va_callv (pc := 41) (va_runI (As := [.ref q5]) (rest := [.ref q33, .ref q_o]) ⟨hx, hb, hml, hown, hts⟩ (ct_iReader l dC dI q33 q5 _ tt) (cwI 1 hts (kw_in kw_48) rfl rfl rfl (hts _ (List.mem_cons_of_mem _ kw_3)) (hts _ (List.mem_cons_of_mem _ kw_46)) (hts _ (List.mem_cons_of_mem _ kw_47)) rfl (by decide +kernel) ⟨Nat.le_of_ble_eq_true rfl, Nat.le_of_ble_eq_true rfl⟩) (ke_pre hPc hKc hDc hE hS hFc) rfl rfl hl.1 rfl (lv_room (Nat.le_of_ble_eq_true rfl)) d_iP_41 ⟨Nat.le_of_ble_eq_true rfl, Nat.le_of_ble_eq_true rfl⟩) hS (fun q _ h => hFc q h) hFc (fun u t H1 locs ht hvm hw hB hz1 hk1 hS => ?_)
  obtain ⟨q5_41, q5_9_41, q7_9_9_41, q18_9_41, q26_9_41, q18_41, k7_9_9_41, k18_9_41, k26_9_41, k18_41, hP1, hK1, hD1⟩ := hB
  rw [ht] at hP1
  have hK1 := va_K.moved hvm.symm hK1
  obtain ⟨hP, hD⟩ := va_join (wr := [(q_o, .inr (6, [.ref q5, .ref q19, .null, .null, .null, .null, .null])), (q5, .inr (5, f_Row q14_12 0)), (q14_12, .inl (k14_12, 1200, .inl (fun _ => 0))), (q19, .inr (5, f_Row q14_26 0)), (q14_26, .inl (k14_26, 8250, .inl (fun _ => 0)))]) (w1 := [(q33, .inr (4, f_Reader q5 q5_41 q18_41 0 0 0)), (q5_41, .inr (3, f_Pen q5_9_41 q18_9_41 q26_9_41 0 0 0 0 0 0 0)), (q5_9_41, .inr (2, f_Matrices q7_9_9_41 0)), (q7_9_9_41, .inl (k7_9_9_41, 54, .inr (.inl (fun _ => 0)))), (q18_9_41, .inl (k18_9_41, 6, .inr (.inl (fun _ => 0)))), (q26_9_41, .inl (k26_9_41, 6, .inr (.inl (fun _ => 0)))), (q18_41, .inl (k18_41, 6, .inr (.inl (fun _ => 0))))]) hP hD [5] [0, 1, 2, 3, 4] rfl rfl (by decide) (by decide) hk1 hFc hP1 hD1
  have hK := hK.app hK1
  clear hP1 hK1 hD1 hk1 hPc hDc hKc hFc hz1 hvm ht hw
  generalize H1 = H at hP hS ⊢
  have hP : va_P (dC, dI) clz [(q_o, .inr (6, [.ref q5, .ref q19, .null, .null, .null, .null, .null])), (q5, .inr (5, f_Row q14_12 0)), (q14_12, .inl (k14_12, 1200, .inl (fun _ => 0))), (q19, .inr (5, f_Row q14_26 0)), (q14_26, .inl (k14_26, 8250, .inl (fun _ => 0))), (q33, .inr (4, f_Reader q5 q5_41 q18_41 0 0 0)), (q5_41, .inr (3, f_Pen q5_9_41 q18_9_41 q26_9_41 0 0 0 0 0 0 0)), (q5_9_41, .inr (2, f_Matrices q7_9_9_41 0)), (q7_9_9_41, .inl (k7_9_9_41, 54, .inr (.inl (fun _ => 0)))), (q18_9_41, .inl (k18_9_41, 6, .inr (.inl (fun _ => 0)))), (q26_9_41, .inl (k26_9_41, 6, .inr (.inl (fun _ => 0)))), (q18_41, .inl (k18_41, 6, .inr (.inl (fun _ => 0))))] H := hP
  have hD : va_D A [(q_o, .inr (6, [.ref q5, .ref q19, .null, .null, .null, .null, .null])), (q5, .inr (5, f_Row q14_12 0)), (q14_12, .inl (k14_12, 1200, .inl (fun _ => 0))), (q19, .inr (5, f_Row q14_26 0)), (q14_26, .inl (k14_26, 8250, .inl (fun _ => 0))), (q33, .inr (4, f_Reader q5 q5_41 q18_41 0 0 0)), (q5_41, .inr (3, f_Pen q5_9_41 q18_9_41 q26_9_41 0 0 0 0 0 0 0)), (q5_9_41, .inr (2, f_Matrices q7_9_9_41 0)), (q7_9_9_41, .inl (k7_9_9_41, 54, .inr (.inl (fun _ => 0)))), (q18_9_41, .inl (k18_9_41, 6, .inr (.inl (fun _ => 0)))), (q26_9_41, .inl (k26_9_41, 6, .inr (.inl (fun _ => 0)))), (q18_41, .inl (k18_41, 6, .inr (.inl (fun _ => 0))))] := hD
  have hK : va_K (dC, dI) clz [(k14_12, .char), (k14_26, .char), (k7_9_9_41, .long), (k18_9_41, .long), (k26_9_41, .long), (k18_41, .long)] s := hK
  refine va_putF (pc := 44) (D := (dC, dI)) (ci := 6) (v := .ref q33) (ty := .object "PathTexts$Reader") (C := "PathTexts") (T := F_P) (N := 7) hx hb hts (fun w h => List.mem_cons_of_mem _ (in_P w h)) t_P tk_P n_P hown hK hP hD hS 0 rfl rfl 2 (by decide) (hts _ (List.mem_cons_of_mem _ kw_188)) (fun _ h9 => h9) rfl hin rfl (tk_P 2 (by decide)) rfl rfl (Nat.le_of_ble_eq_true rfl) d_iP_44 (fun H locs hP hD hS => ?_)
  have hP : va_P (dC, dI) clz [(q_o, .inr (6, [.ref q5, .ref q19, .ref q33, .null, .null, .null, .null])), (q5, .inr (5, f_Row q14_12 0)), (q14_12, .inl (k14_12, 1200, .inl (fun _ => 0))), (q19, .inr (5, f_Row q14_26 0)), (q14_26, .inl (k14_26, 8250, .inl (fun _ => 0))), (q33, .inr (4, f_Reader q5 q5_41 q18_41 0 0 0)), (q5_41, .inr (3, f_Pen q5_9_41 q18_9_41 q26_9_41 0 0 0 0 0 0 0)), (q5_9_41, .inr (2, f_Matrices q7_9_9_41 0)), (q7_9_9_41, .inl (k7_9_9_41, 54, .inr (.inl (fun _ => 0)))), (q18_9_41, .inl (k18_9_41, 6, .inr (.inl (fun _ => 0)))), (q26_9_41, .inl (k26_9_41, 6, .inr (.inl (fun _ => 0)))), (q18_41, .inl (k18_41, 6, .inr (.inl (fun _ => 0))))] H := hP
  have hD : va_D A [(q_o, .inr (6, [.ref q5, .ref q19, .ref q33, .null, .null, .null, .null])), (q5, .inr (5, f_Row q14_12 0)), (q14_12, .inl (k14_12, 1200, .inl (fun _ => 0))), (q19, .inr (5, f_Row q14_26 0)), (q14_26, .inl (k14_26, 8250, .inl (fun _ => 0))), (q33, .inr (4, f_Reader q5 q5_41 q18_41 0 0 0)), (q5_41, .inr (3, f_Pen q5_9_41 q18_9_41 q26_9_41 0 0 0 0 0 0 0)), (q5_9_41, .inr (2, f_Matrices q7_9_9_41 0)), (q7_9_9_41, .inl (k7_9_9_41, 54, .inr (.inl (fun _ => 0)))), (q18_9_41, .inl (k18_9_41, 6, .inr (.inl (fun _ => 0)))), (q26_9_41, .inl (k26_9_41, 6, .inr (.inl (fun _ => 0)))), (q18_41, .inl (k18_41, 6, .inr (.inl (fun _ => 0))))] := hD
  refine lv_aload_n (pc := 47) hx hb d_iP_47 rfl (lv_at hl 0 rfl) ?_
  refine va_new (pc := 48) (ci := 0) (fs := [.null, .null, .int 0, .int 0, .long 0, .long 0, .long 0, .long 0, .long 0]) (C := "PathTexts$Cover") (T := F_Cover) (N := 9) hx hb hts (fun w h => List.mem_cons_of_mem _ (in_Cover w h)) t_Cover tk_Cover hown (hts _ (List.mem_cons_of_mem _ kw_122)) (hts _ (List.mem_cons_of_mem _ kw_123)) (hts _ (List.mem_cons_of_mem _ kw_6)) hK hP hD hS hA rfl (fun j hj => (by decide : ∀ j, j < 9 → defaultValue (t_Cover j) = vp_V [.null, .null, .int 0, .int 0, .long 0, .long 0, .long 0, .long 0, .long 0] j) j hj) (Nat.le_of_ble_eq_true rfl) (Nat.le_of_ble_eq_true rfl) d_iP_48 (fun q48 H hP hD hS => ?_)
  have hP : va_P (dC, dI) clz [(q_o, .inr (6, [.ref q5, .ref q19, .ref q33, .null, .null, .null, .null])), (q5, .inr (5, f_Row q14_12 0)), (q14_12, .inl (k14_12, 1200, .inl (fun _ => 0))), (q19, .inr (5, f_Row q14_26 0)), (q14_26, .inl (k14_26, 8250, .inl (fun _ => 0))), (q33, .inr (4, f_Reader q5 q5_41 q18_41 0 0 0)), (q5_41, .inr (3, f_Pen q5_9_41 q18_9_41 q26_9_41 0 0 0 0 0 0 0)), (q5_9_41, .inr (2, f_Matrices q7_9_9_41 0)), (q7_9_9_41, .inl (k7_9_9_41, 54, .inr (.inl (fun _ => 0)))), (q18_9_41, .inl (k18_9_41, 6, .inr (.inl (fun _ => 0)))), (q26_9_41, .inl (k26_9_41, 6, .inr (.inl (fun _ => 0)))), (q18_41, .inl (k18_41, 6, .inr (.inl (fun _ => 0)))), (q48, .inr (0, [.null, .null, .int 0, .int 0, .long 0, .long 0, .long 0, .long 0, .long 0]))] H := hP
  have hD : va_D A [(q_o, .inr (6, [.ref q5, .ref q19, .ref q33, .null, .null, .null, .null])), (q5, .inr (5, f_Row q14_12 0)), (q14_12, .inl (k14_12, 1200, .inl (fun _ => 0))), (q19, .inr (5, f_Row q14_26 0)), (q14_26, .inl (k14_26, 8250, .inl (fun _ => 0))), (q33, .inr (4, f_Reader q5 q5_41 q18_41 0 0 0)), (q5_41, .inr (3, f_Pen q5_9_41 q18_9_41 q26_9_41 0 0 0 0 0 0 0)), (q5_9_41, .inr (2, f_Matrices q7_9_9_41 0)), (q7_9_9_41, .inl (k7_9_9_41, 54, .inr (.inl (fun _ => 0)))), (q18_9_41, .inl (k18_9_41, 6, .inr (.inl (fun _ => 0)))), (q26_9_41, .inl (k26_9_41, 6, .inr (.inl (fun _ => 0)))), (q18_41, .inl (k18_41, 6, .inr (.inl (fun _ => 0)))), (q48, .inr (0, [.null, .null, .int 0, .int 0, .long 0, .long 0, .long 0, .long 0, .long 0]))] := hD
  refine lv_dup (pc := 51) hx hb d_iP_51 rfl ?_
  have hPc := hP.sub (ws' := [(q48, .inr (0, [.null, .null, .int 0, .int 0, .long 0, .long 0, .long 0, .long 0, .long 0]))]) [12] rfl
  have hDc := hD.sub (ws' := [(q48, .inr (0, [.null, .null, .int 0, .int 0, .long 0, .long 0, .long 0, .long 0, .long 0]))]) [12] (by decide) rfl
  have hKc := hK.sub (tys' := []) [] rfl
  have hFc := va_free (wc := [(q48, .inr (0, [.null, .null, .int 0, .int 0, .long 0, .long 0, .long 0, .long 0, .long 0]))]) hD hS hA [12] rfl
  refine va_callv (pc := 52) (va_runIN (As := []) (rest := [.ref q48, .ref q_o]) ⟨hx, hb, hml, hown, hts⟩ (ct_iCover l dC dI q48 _) ⟨va_cnB 0 hts (kw_in kw_126) rfl rfl rfl (hE.1 _ kn_2) (hts _ (List.mem_cons_of_mem _ kw_6)) (by decide +kernel) ⟨Nat.le_of_ble_eq_true rfl, Nat.le_of_ble_eq_true rfl⟩, rfl, hts _ (List.mem_cons_of_mem _ kw_125)⟩ (kx_pre hPc hKc hDc) rfl rfl hl.1 rfl (lv_room (Nat.le_of_ble_eq_true rfl)) d_iP_52 ⟨Nat.le_of_ble_eq_true rfl, Nat.le_of_ble_eq_true rfl⟩) hS (fun q _ h => hFc q h) hFc (fun u t H1 locs ht hvm hw hB hz1 hk1 hS => ?_)
  obtain ⟨q7_52, q16_52, k7_52, k16_52, hP1, hK1, hD1⟩ := hB
  rw [ht] at hP1
  have hK1 := va_K.moved hvm.symm hK1
  obtain ⟨hP, hD⟩ := va_join (wr := [(q_o, .inr (6, [.ref q5, .ref q19, .ref q33, .null, .null, .null, .null])), (q5, .inr (5, f_Row q14_12 0)), (q14_12, .inl (k14_12, 1200, .inl (fun _ => 0))), (q19, .inr (5, f_Row q14_26 0)), (q14_26, .inl (k14_26, 8250, .inl (fun _ => 0))), (q33, .inr (4, f_Reader q5 q5_41 q18_41 0 0 0)), (q5_41, .inr (3, f_Pen q5_9_41 q18_9_41 q26_9_41 0 0 0 0 0 0 0)), (q5_9_41, .inr (2, f_Matrices q7_9_9_41 0)), (q7_9_9_41, .inl (k7_9_9_41, 54, .inr (.inl (fun _ => 0)))), (q18_9_41, .inl (k18_9_41, 6, .inr (.inl (fun _ => 0)))), (q26_9_41, .inl (k26_9_41, 6, .inr (.inl (fun _ => 0)))), (q18_41, .inl (k18_41, 6, .inr (.inl (fun _ => 0))))]) (w1 := [(q48, .inr (0, f_Cover q7_52 q16_52 0 0 0 0 0 0 0)), (q7_52, .inl (k7_52, 64, .inl (fun _ => 0))), (q16_52, .inl (k16_52, 2048, .inl (fun _ => 0)))]) hP hD [12] [0, 1, 2, 3, 4, 5, 6, 7, 8, 9, 10, 11] rfl rfl (by decide) (by decide) hk1 hFc hP1 hD1
  have hK := hK.app hK1
  clear hP1 hK1 hD1 hk1 hPc hDc hKc hFc hz1 hvm ht hw
  generalize H1 = H at hP hS ⊢
  have hP : va_P (dC, dI) clz [(q_o, .inr (6, [.ref q5, .ref q19, .ref q33, .null, .null, .null, .null])), (q5, .inr (5, f_Row q14_12 0)), (q14_12, .inl (k14_12, 1200, .inl (fun _ => 0))), (q19, .inr (5, f_Row q14_26 0)), (q14_26, .inl (k14_26, 8250, .inl (fun _ => 0))), (q33, .inr (4, f_Reader q5 q5_41 q18_41 0 0 0)), (q5_41, .inr (3, f_Pen q5_9_41 q18_9_41 q26_9_41 0 0 0 0 0 0 0)), (q5_9_41, .inr (2, f_Matrices q7_9_9_41 0)), (q7_9_9_41, .inl (k7_9_9_41, 54, .inr (.inl (fun _ => 0)))), (q18_9_41, .inl (k18_9_41, 6, .inr (.inl (fun _ => 0)))), (q26_9_41, .inl (k26_9_41, 6, .inr (.inl (fun _ => 0)))), (q18_41, .inl (k18_41, 6, .inr (.inl (fun _ => 0)))), (q48, .inr (0, f_Cover q7_52 q16_52 0 0 0 0 0 0 0)), (q7_52, .inl (k7_52, 64, .inl (fun _ => 0))), (q16_52, .inl (k16_52, 2048, .inl (fun _ => 0)))] H := hP
  have hD : va_D A [(q_o, .inr (6, [.ref q5, .ref q19, .ref q33, .null, .null, .null, .null])), (q5, .inr (5, f_Row q14_12 0)), (q14_12, .inl (k14_12, 1200, .inl (fun _ => 0))), (q19, .inr (5, f_Row q14_26 0)), (q14_26, .inl (k14_26, 8250, .inl (fun _ => 0))), (q33, .inr (4, f_Reader q5 q5_41 q18_41 0 0 0)), (q5_41, .inr (3, f_Pen q5_9_41 q18_9_41 q26_9_41 0 0 0 0 0 0 0)), (q5_9_41, .inr (2, f_Matrices q7_9_9_41 0)), (q7_9_9_41, .inl (k7_9_9_41, 54, .inr (.inl (fun _ => 0)))), (q18_9_41, .inl (k18_9_41, 6, .inr (.inl (fun _ => 0)))), (q26_9_41, .inl (k26_9_41, 6, .inr (.inl (fun _ => 0)))), (q18_41, .inl (k18_41, 6, .inr (.inl (fun _ => 0)))), (q48, .inr (0, f_Cover q7_52 q16_52 0 0 0 0 0 0 0)), (q7_52, .inl (k7_52, 64, .inl (fun _ => 0))), (q16_52, .inl (k16_52, 2048, .inl (fun _ => 0)))] := hD
  have hK : va_K (dC, dI) clz [(k14_12, .char), (k14_26, .char), (k7_9_9_41, .long), (k18_9_41, .long), (k26_9_41, .long), (k18_41, .long), (k7_52, .int), (k16_52, .int)] s := hK
  refine va_putF (pc := 55) (D := (dC, dI)) (ci := 6) (v := .ref q48) (ty := .object "PathTexts$Cover") (C := "PathTexts") (T := F_P) (N := 7) hx hb hts (fun w h => List.mem_cons_of_mem _ (in_P w h)) t_P tk_P n_P hown hK hP hD hS 0 rfl rfl 3 (by decide) (hts _ (List.mem_cons_of_mem _ kw_189)) (fun _ h9 => h9) rfl hin rfl (tk_P 3 (by decide)) rfl rfl (Nat.le_of_ble_eq_true rfl) d_iP_55 (fun H locs hP hD hS => ?_)
  have hP : va_P (dC, dI) clz [(q_o, .inr (6, [.ref q5, .ref q19, .ref q33, .ref q48, .null, .null, .null])), (q5, .inr (5, f_Row q14_12 0)), (q14_12, .inl (k14_12, 1200, .inl (fun _ => 0))), (q19, .inr (5, f_Row q14_26 0)), (q14_26, .inl (k14_26, 8250, .inl (fun _ => 0))), (q33, .inr (4, f_Reader q5 q5_41 q18_41 0 0 0)), (q5_41, .inr (3, f_Pen q5_9_41 q18_9_41 q26_9_41 0 0 0 0 0 0 0)), (q5_9_41, .inr (2, f_Matrices q7_9_9_41 0)), (q7_9_9_41, .inl (k7_9_9_41, 54, .inr (.inl (fun _ => 0)))), (q18_9_41, .inl (k18_9_41, 6, .inr (.inl (fun _ => 0)))), (q26_9_41, .inl (k26_9_41, 6, .inr (.inl (fun _ => 0)))), (q18_41, .inl (k18_41, 6, .inr (.inl (fun _ => 0)))), (q48, .inr (0, f_Cover q7_52 q16_52 0 0 0 0 0 0 0)), (q7_52, .inl (k7_52, 64, .inl (fun _ => 0))), (q16_52, .inl (k16_52, 2048, .inl (fun _ => 0)))] H := hP
  have hD : va_D A [(q_o, .inr (6, [.ref q5, .ref q19, .ref q33, .ref q48, .null, .null, .null])), (q5, .inr (5, f_Row q14_12 0)), (q14_12, .inl (k14_12, 1200, .inl (fun _ => 0))), (q19, .inr (5, f_Row q14_26 0)), (q14_26, .inl (k14_26, 8250, .inl (fun _ => 0))), (q33, .inr (4, f_Reader q5 q5_41 q18_41 0 0 0)), (q5_41, .inr (3, f_Pen q5_9_41 q18_9_41 q26_9_41 0 0 0 0 0 0 0)), (q5_9_41, .inr (2, f_Matrices q7_9_9_41 0)), (q7_9_9_41, .inl (k7_9_9_41, 54, .inr (.inl (fun _ => 0)))), (q18_9_41, .inl (k18_9_41, 6, .inr (.inl (fun _ => 0)))), (q26_9_41, .inl (k26_9_41, 6, .inr (.inl (fun _ => 0)))), (q18_41, .inl (k18_41, 6, .inr (.inl (fun _ => 0)))), (q48, .inr (0, f_Cover q7_52 q16_52 0 0 0 0 0 0 0)), (q7_52, .inl (k7_52, 64, .inl (fun _ => 0))), (q16_52, .inl (k16_52, 2048, .inl (fun _ => 0)))] := hD
  refine lv_aload_n (pc := 58) hx hb d_iP_58 rfl (lv_at hl 0 rfl) ?_
  refine lv_bipush (pc := 59) (v := (6 : Int32)) hx hb d_iP_59 (by decide) ?_
  refine va_newa (pc := 61) (atype := .long) (ty := .long) (a0 := (6, .inr (.inl (fun _ => 0)))) hx hb (hts _ (List.mem_cons_of_mem _ kw_70)) rfl hK hP hD hS hA (fun _ => rfl) (by decide) (N' := 6) (by decide) (by decide) (Nat.le_of_ble_eq_true rfl) (Nat.le_of_ble_eq_true rfl) d_iP_61 (fun q61 k61 H hK hP hD hS => ?_)
  have hP : va_P (dC, dI) clz [(q_o, .inr (6, [.ref q5, .ref q19, .ref q33, .ref q48, .null, .null, .null])), (q5, .inr (5, f_Row q14_12 0)), (q14_12, .inl (k14_12, 1200, .inl (fun _ => 0))), (q19, .inr (5, f_Row q14_26 0)), (q14_26, .inl (k14_26, 8250, .inl (fun _ => 0))), (q33, .inr (4, f_Reader q5 q5_41 q18_41 0 0 0)), (q5_41, .inr (3, f_Pen q5_9_41 q18_9_41 q26_9_41 0 0 0 0 0 0 0)), (q5_9_41, .inr (2, f_Matrices q7_9_9_41 0)), (q7_9_9_41, .inl (k7_9_9_41, 54, .inr (.inl (fun _ => 0)))), (q18_9_41, .inl (k18_9_41, 6, .inr (.inl (fun _ => 0)))), (q26_9_41, .inl (k26_9_41, 6, .inr (.inl (fun _ => 0)))), (q18_41, .inl (k18_41, 6, .inr (.inl (fun _ => 0)))), (q48, .inr (0, f_Cover q7_52 q16_52 0 0 0 0 0 0 0)), (q7_52, .inl (k7_52, 64, .inl (fun _ => 0))), (q16_52, .inl (k16_52, 2048, .inl (fun _ => 0))), (q61, .inl (k61, 6, .inr (.inl (fun _ => 0))))] H := hP
  have hD : va_D A [(q_o, .inr (6, [.ref q5, .ref q19, .ref q33, .ref q48, .null, .null, .null])), (q5, .inr (5, f_Row q14_12 0)), (q14_12, .inl (k14_12, 1200, .inl (fun _ => 0))), (q19, .inr (5, f_Row q14_26 0)), (q14_26, .inl (k14_26, 8250, .inl (fun _ => 0))), (q33, .inr (4, f_Reader q5 q5_41 q18_41 0 0 0)), (q5_41, .inr (3, f_Pen q5_9_41 q18_9_41 q26_9_41 0 0 0 0 0 0 0)), (q5_9_41, .inr (2, f_Matrices q7_9_9_41 0)), (q7_9_9_41, .inl (k7_9_9_41, 54, .inr (.inl (fun _ => 0)))), (q18_9_41, .inl (k18_9_41, 6, .inr (.inl (fun _ => 0)))), (q26_9_41, .inl (k26_9_41, 6, .inr (.inl (fun _ => 0)))), (q18_41, .inl (k18_41, 6, .inr (.inl (fun _ => 0)))), (q48, .inr (0, f_Cover q7_52 q16_52 0 0 0 0 0 0 0)), (q7_52, .inl (k7_52, 64, .inl (fun _ => 0))), (q16_52, .inl (k16_52, 2048, .inl (fun _ => 0))), (q61, .inl (k61, 6, .inr (.inl (fun _ => 0))))] := hD
  have hK : va_K (dC, dI) clz [(k14_12, .char), (k14_26, .char), (k7_9_9_41, .long), (k18_9_41, .long), (k26_9_41, .long), (k18_41, .long), (k7_52, .int), (k16_52, .int), (k61, .long)] s := hK
  refine va_putF (pc := 63) (D := (dC, dI)) (ci := 6) (v := .ref q61) (ty := .array .long) (C := "PathTexts") (T := F_P) (N := 7) hx hb hts (fun w h => List.mem_cons_of_mem _ (in_P w h)) t_P tk_P n_P hown hK hP hD hS 0 rfl rfl 4 (by decide) (hts _ (List.mem_cons_of_mem _ kw_190)) (fun _ h9 => h9) rfl hin rfl (tk_P 4 (by decide)) rfl rfl (Nat.le_of_ble_eq_true rfl) d_iP_63 (fun H locs hP hD hS => ?_)
  have hP : va_P (dC, dI) clz [(q_o, .inr (6, [.ref q5, .ref q19, .ref q33, .ref q48, .ref q61, .null, .null])), (q5, .inr (5, f_Row q14_12 0)), (q14_12, .inl (k14_12, 1200, .inl (fun _ => 0))), (q19, .inr (5, f_Row q14_26 0)), (q14_26, .inl (k14_26, 8250, .inl (fun _ => 0))), (q33, .inr (4, f_Reader q5 q5_41 q18_41 0 0 0)), (q5_41, .inr (3, f_Pen q5_9_41 q18_9_41 q26_9_41 0 0 0 0 0 0 0)), (q5_9_41, .inr (2, f_Matrices q7_9_9_41 0)), (q7_9_9_41, .inl (k7_9_9_41, 54, .inr (.inl (fun _ => 0)))), (q18_9_41, .inl (k18_9_41, 6, .inr (.inl (fun _ => 0)))), (q26_9_41, .inl (k26_9_41, 6, .inr (.inl (fun _ => 0)))), (q18_41, .inl (k18_41, 6, .inr (.inl (fun _ => 0)))), (q48, .inr (0, f_Cover q7_52 q16_52 0 0 0 0 0 0 0)), (q7_52, .inl (k7_52, 64, .inl (fun _ => 0))), (q16_52, .inl (k16_52, 2048, .inl (fun _ => 0))), (q61, .inl (k61, 6, .inr (.inl (fun _ => 0))))] H := hP
  have hD : va_D A [(q_o, .inr (6, [.ref q5, .ref q19, .ref q33, .ref q48, .ref q61, .null, .null])), (q5, .inr (5, f_Row q14_12 0)), (q14_12, .inl (k14_12, 1200, .inl (fun _ => 0))), (q19, .inr (5, f_Row q14_26 0)), (q14_26, .inl (k14_26, 8250, .inl (fun _ => 0))), (q33, .inr (4, f_Reader q5 q5_41 q18_41 0 0 0)), (q5_41, .inr (3, f_Pen q5_9_41 q18_9_41 q26_9_41 0 0 0 0 0 0 0)), (q5_9_41, .inr (2, f_Matrices q7_9_9_41 0)), (q7_9_9_41, .inl (k7_9_9_41, 54, .inr (.inl (fun _ => 0)))), (q18_9_41, .inl (k18_9_41, 6, .inr (.inl (fun _ => 0)))), (q26_9_41, .inl (k26_9_41, 6, .inr (.inl (fun _ => 0)))), (q18_41, .inl (k18_41, 6, .inr (.inl (fun _ => 0)))), (q48, .inr (0, f_Cover q7_52 q16_52 0 0 0 0 0 0 0)), (q7_52, .inl (k7_52, 64, .inl (fun _ => 0))), (q16_52, .inl (k16_52, 2048, .inl (fun _ => 0))), (q61, .inl (k61, 6, .inr (.inl (fun _ => 0))))] := hD
  refine lv_aload_n (pc := 66) hx hb d_iP_66 rfl (lv_at hl 0 rfl) ?_
  refine va_new (pc := 67) (ci := 1) (fs := [.null, .null, .int 0]) (C := "PathTexts$Drawing") (T := F_Drawing) (N := 3) hx hb hts (fun w h => List.mem_cons_of_mem _ (in_Drawing w h)) t_Drawing tk_Drawing hown (hts _ (List.mem_cons_of_mem _ kw_160)) (hts _ (List.mem_cons_of_mem _ kw_161)) (hts _ (List.mem_cons_of_mem _ kw_7)) hK hP hD hS hA rfl (fun j hj => (by decide : ∀ j, j < 3 → defaultValue (t_Drawing j) = vp_V [.null, .null, .int 0] j) j hj) (Nat.le_of_ble_eq_true rfl) (Nat.le_of_ble_eq_true rfl) d_iP_67 (fun q67 H hP hD hS => ?_)
  have hP : va_P (dC, dI) clz [(q_o, .inr (6, [.ref q5, .ref q19, .ref q33, .ref q48, .ref q61, .null, .null])), (q5, .inr (5, f_Row q14_12 0)), (q14_12, .inl (k14_12, 1200, .inl (fun _ => 0))), (q19, .inr (5, f_Row q14_26 0)), (q14_26, .inl (k14_26, 8250, .inl (fun _ => 0))), (q33, .inr (4, f_Reader q5 q5_41 q18_41 0 0 0)), (q5_41, .inr (3, f_Pen q5_9_41 q18_9_41 q26_9_41 0 0 0 0 0 0 0)), (q5_9_41, .inr (2, f_Matrices q7_9_9_41 0)), (q7_9_9_41, .inl (k7_9_9_41, 54, .inr (.inl (fun _ => 0)))), (q18_9_41, .inl (k18_9_41, 6, .inr (.inl (fun _ => 0)))), (q26_9_41, .inl (k26_9_41, 6, .inr (.inl (fun _ => 0)))), (q18_41, .inl (k18_41, 6, .inr (.inl (fun _ => 0)))), (q48, .inr (0, f_Cover q7_52 q16_52 0 0 0 0 0 0 0)), (q7_52, .inl (k7_52, 64, .inl (fun _ => 0))), (q16_52, .inl (k16_52, 2048, .inl (fun _ => 0))), (q61, .inl (k61, 6, .inr (.inl (fun _ => 0)))), (q67, .inr (1, [.null, .null, .int 0]))] H := hP
  have hD : va_D A [(q_o, .inr (6, [.ref q5, .ref q19, .ref q33, .ref q48, .ref q61, .null, .null])), (q5, .inr (5, f_Row q14_12 0)), (q14_12, .inl (k14_12, 1200, .inl (fun _ => 0))), (q19, .inr (5, f_Row q14_26 0)), (q14_26, .inl (k14_26, 8250, .inl (fun _ => 0))), (q33, .inr (4, f_Reader q5 q5_41 q18_41 0 0 0)), (q5_41, .inr (3, f_Pen q5_9_41 q18_9_41 q26_9_41 0 0 0 0 0 0 0)), (q5_9_41, .inr (2, f_Matrices q7_9_9_41 0)), (q7_9_9_41, .inl (k7_9_9_41, 54, .inr (.inl (fun _ => 0)))), (q18_9_41, .inl (k18_9_41, 6, .inr (.inl (fun _ => 0)))), (q26_9_41, .inl (k26_9_41, 6, .inr (.inl (fun _ => 0)))), (q18_41, .inl (k18_41, 6, .inr (.inl (fun _ => 0)))), (q48, .inr (0, f_Cover q7_52 q16_52 0 0 0 0 0 0 0)), (q7_52, .inl (k7_52, 64, .inl (fun _ => 0))), (q16_52, .inl (k16_52, 2048, .inl (fun _ => 0))), (q61, .inl (k61, 6, .inr (.inl (fun _ => 0)))), (q67, .inr (1, [.null, .null, .int 0]))] := hD
  refine lv_dup (pc := 70) hx hb d_iP_70 rfl ?_
  have hPc := hP.sub (ws' := [(q67, .inr (1, [.null, .null, .int 0]))]) [16] rfl
  have hDc := hD.sub (ws' := [(q67, .inr (1, [.null, .null, .int 0]))]) [16] (by decide) rfl
  have hKc := hK.sub (tys' := []) [] rfl
  have hFc := va_free (wc := [(q67, .inr (1, [.null, .null, .int 0]))]) hD hS hA [16] rfl
  refine va_callv (pc := 71) (va_runIN (As := []) (rest := [.ref q67, .ref q_o]) ⟨hx, hb, hml, hown, hts⟩ (ct_iDrawing l dC dI q67 _) ⟨va_cnB 0 hts (kw_in kw_164) rfl rfl rfl (hE.1 _ kn_3) (hts _ (List.mem_cons_of_mem _ kw_7)) (by decide +kernel) ⟨Nat.le_of_ble_eq_true rfl, Nat.le_of_ble_eq_true rfl⟩, rfl, hts _ (List.mem_cons_of_mem _ kw_163)⟩ (kx_pre hPc hKc hDc) rfl rfl hl.1 rfl (lv_room (Nat.le_of_ble_eq_true rfl)) d_iP_71 ⟨Nat.le_of_ble_eq_true rfl, Nat.le_of_ble_eq_true rfl⟩) hS (fun q _ h => hFc q h) hFc (fun u t H1 locs ht hvm hw hB hz1 hk1 hS => ?_)
  obtain ⟨q8_71, q17_71, k8_71, k17_71, hP1, hK1, hD1⟩ := hB
  rw [ht] at hP1
  have hK1 := va_K.moved hvm.symm hK1
  obtain ⟨hP, hD⟩ := va_join (wr := [(q_o, .inr (6, [.ref q5, .ref q19, .ref q33, .ref q48, .ref q61, .null, .null])), (q5, .inr (5, f_Row q14_12 0)), (q14_12, .inl (k14_12, 1200, .inl (fun _ => 0))), (q19, .inr (5, f_Row q14_26 0)), (q14_26, .inl (k14_26, 8250, .inl (fun _ => 0))), (q33, .inr (4, f_Reader q5 q5_41 q18_41 0 0 0)), (q5_41, .inr (3, f_Pen q5_9_41 q18_9_41 q26_9_41 0 0 0 0 0 0 0)), (q5_9_41, .inr (2, f_Matrices q7_9_9_41 0)), (q7_9_9_41, .inl (k7_9_9_41, 54, .inr (.inl (fun _ => 0)))), (q18_9_41, .inl (k18_9_41, 6, .inr (.inl (fun _ => 0)))), (q26_9_41, .inl (k26_9_41, 6, .inr (.inl (fun _ => 0)))), (q18_41, .inl (k18_41, 6, .inr (.inl (fun _ => 0)))), (q48, .inr (0, f_Cover q7_52 q16_52 0 0 0 0 0 0 0)), (q7_52, .inl (k7_52, 64, .inl (fun _ => 0))), (q16_52, .inl (k16_52, 2048, .inl (fun _ => 0))), (q61, .inl (k61, 6, .inr (.inl (fun _ => 0))))]) (w1 := [(q67, .inr (1, f_Drawing q8_71 q17_71 0)), (q8_71, .inl (k8_71, 150, .inl (fun _ => 0))), (q17_71, .inl (k17_71, 900, .inl (fun _ => 0)))]) hP hD [16] [0, 1, 2, 3, 4, 5, 6, 7, 8, 9, 10, 11, 12, 13, 14, 15] rfl rfl (by decide) (by decide) hk1 hFc hP1 hD1
  have hK := hK.app hK1
  clear hP1 hK1 hD1 hk1 hPc hDc hKc hFc hz1 hvm ht hw
  generalize H1 = H at hP hS ⊢
  have hP : va_P (dC, dI) clz [(q_o, .inr (6, [.ref q5, .ref q19, .ref q33, .ref q48, .ref q61, .null, .null])), (q5, .inr (5, f_Row q14_12 0)), (q14_12, .inl (k14_12, 1200, .inl (fun _ => 0))), (q19, .inr (5, f_Row q14_26 0)), (q14_26, .inl (k14_26, 8250, .inl (fun _ => 0))), (q33, .inr (4, f_Reader q5 q5_41 q18_41 0 0 0)), (q5_41, .inr (3, f_Pen q5_9_41 q18_9_41 q26_9_41 0 0 0 0 0 0 0)), (q5_9_41, .inr (2, f_Matrices q7_9_9_41 0)), (q7_9_9_41, .inl (k7_9_9_41, 54, .inr (.inl (fun _ => 0)))), (q18_9_41, .inl (k18_9_41, 6, .inr (.inl (fun _ => 0)))), (q26_9_41, .inl (k26_9_41, 6, .inr (.inl (fun _ => 0)))), (q18_41, .inl (k18_41, 6, .inr (.inl (fun _ => 0)))), (q48, .inr (0, f_Cover q7_52 q16_52 0 0 0 0 0 0 0)), (q7_52, .inl (k7_52, 64, .inl (fun _ => 0))), (q16_52, .inl (k16_52, 2048, .inl (fun _ => 0))), (q61, .inl (k61, 6, .inr (.inl (fun _ => 0)))), (q67, .inr (1, f_Drawing q8_71 q17_71 0)), (q8_71, .inl (k8_71, 150, .inl (fun _ => 0))), (q17_71, .inl (k17_71, 900, .inl (fun _ => 0)))] H := hP
  have hD : va_D A [(q_o, .inr (6, [.ref q5, .ref q19, .ref q33, .ref q48, .ref q61, .null, .null])), (q5, .inr (5, f_Row q14_12 0)), (q14_12, .inl (k14_12, 1200, .inl (fun _ => 0))), (q19, .inr (5, f_Row q14_26 0)), (q14_26, .inl (k14_26, 8250, .inl (fun _ => 0))), (q33, .inr (4, f_Reader q5 q5_41 q18_41 0 0 0)), (q5_41, .inr (3, f_Pen q5_9_41 q18_9_41 q26_9_41 0 0 0 0 0 0 0)), (q5_9_41, .inr (2, f_Matrices q7_9_9_41 0)), (q7_9_9_41, .inl (k7_9_9_41, 54, .inr (.inl (fun _ => 0)))), (q18_9_41, .inl (k18_9_41, 6, .inr (.inl (fun _ => 0)))), (q26_9_41, .inl (k26_9_41, 6, .inr (.inl (fun _ => 0)))), (q18_41, .inl (k18_41, 6, .inr (.inl (fun _ => 0)))), (q48, .inr (0, f_Cover q7_52 q16_52 0 0 0 0 0 0 0)), (q7_52, .inl (k7_52, 64, .inl (fun _ => 0))), (q16_52, .inl (k16_52, 2048, .inl (fun _ => 0))), (q61, .inl (k61, 6, .inr (.inl (fun _ => 0)))), (q67, .inr (1, f_Drawing q8_71 q17_71 0)), (q8_71, .inl (k8_71, 150, .inl (fun _ => 0))), (q17_71, .inl (k17_71, 900, .inl (fun _ => 0)))] := hD
  have hK : va_K (dC, dI) clz [(k14_12, .char), (k14_26, .char), (k7_9_9_41, .long), (k18_9_41, .long), (k26_9_41, .long), (k18_41, .long), (k7_52, .int), (k16_52, .int), (k61, .long), (k8_71, .int), (k17_71, .int)] s := hK
  refine va_put (pc := 74) (D := (dC, dI)) (ci := 6) (v := .ref q67) (ty := .object "PathTexts$Drawing") (C := "PathTexts") (T := F_P) (N := 7) hx hb hts (fun w h => List.mem_cons_of_mem _ (in_P w h)) t_P tk_P n_P hown hK hP hD hS 0 rfl rfl 5 (by decide) (hts _ (List.mem_cons_of_mem _ kw_191)) (fun _ h9 => h9) rfl (tk_P 5 (by decide)) rfl rfl (Nat.le_of_ble_eq_true rfl) d_iP_74 (fun H locs hP hD hS => ?_)
  have hP : va_P (dC, dI) clz [(q_o, .inr (6, [.ref q5, .ref q19, .ref q33, .ref q48, .ref q61, .ref q67, .null])), (q5, .inr (5, f_Row q14_12 0)), (q14_12, .inl (k14_12, 1200, .inl (fun _ => 0))), (q19, .inr (5, f_Row q14_26 0)), (q14_26, .inl (k14_26, 8250, .inl (fun _ => 0))), (q33, .inr (4, f_Reader q5 q5_41 q18_41 0 0 0)), (q5_41, .inr (3, f_Pen q5_9_41 q18_9_41 q26_9_41 0 0 0 0 0 0 0)), (q5_9_41, .inr (2, f_Matrices q7_9_9_41 0)), (q7_9_9_41, .inl (k7_9_9_41, 54, .inr (.inl (fun _ => 0)))), (q18_9_41, .inl (k18_9_41, 6, .inr (.inl (fun _ => 0)))), (q26_9_41, .inl (k26_9_41, 6, .inr (.inl (fun _ => 0)))), (q18_41, .inl (k18_41, 6, .inr (.inl (fun _ => 0)))), (q48, .inr (0, f_Cover q7_52 q16_52 0 0 0 0 0 0 0)), (q7_52, .inl (k7_52, 64, .inl (fun _ => 0))), (q16_52, .inl (k16_52, 2048, .inl (fun _ => 0))), (q61, .inl (k61, 6, .inr (.inl (fun _ => 0)))), (q67, .inr (1, f_Drawing q8_71 q17_71 0)), (q8_71, .inl (k8_71, 150, .inl (fun _ => 0))), (q17_71, .inl (k17_71, 900, .inl (fun _ => 0)))] H := hP
  have hD : va_D A [(q_o, .inr (6, [.ref q5, .ref q19, .ref q33, .ref q48, .ref q61, .ref q67, .null])), (q5, .inr (5, f_Row q14_12 0)), (q14_12, .inl (k14_12, 1200, .inl (fun _ => 0))), (q19, .inr (5, f_Row q14_26 0)), (q14_26, .inl (k14_26, 8250, .inl (fun _ => 0))), (q33, .inr (4, f_Reader q5 q5_41 q18_41 0 0 0)), (q5_41, .inr (3, f_Pen q5_9_41 q18_9_41 q26_9_41 0 0 0 0 0 0 0)), (q5_9_41, .inr (2, f_Matrices q7_9_9_41 0)), (q7_9_9_41, .inl (k7_9_9_41, 54, .inr (.inl (fun _ => 0)))), (q18_9_41, .inl (k18_9_41, 6, .inr (.inl (fun _ => 0)))), (q26_9_41, .inl (k26_9_41, 6, .inr (.inl (fun _ => 0)))), (q18_41, .inl (k18_41, 6, .inr (.inl (fun _ => 0)))), (q48, .inr (0, f_Cover q7_52 q16_52 0 0 0 0 0 0 0)), (q7_52, .inl (k7_52, 64, .inl (fun _ => 0))), (q16_52, .inl (k16_52, 2048, .inl (fun _ => 0))), (q61, .inl (k61, 6, .inr (.inl (fun _ => 0)))), (q67, .inr (1, f_Drawing q8_71 q17_71 0)), (q8_71, .inl (k8_71, 150, .inl (fun _ => 0))), (q17_71, .inl (k17_71, 900, .inl (fun _ => 0)))] := hD
  refine lv_aload_n (pc := 77) hx hb d_iP_77 rfl (lv_at hl 0 rfl) ?_
  refine va_new (pc := 78) (ci := 1) (fs := [.null, .null, .int 0]) (C := "PathTexts$Drawing") (T := F_Drawing) (N := 3) hx hb hts (fun w h => List.mem_cons_of_mem _ (in_Drawing w h)) t_Drawing tk_Drawing hown (hts _ (List.mem_cons_of_mem _ kw_160)) (hts _ (List.mem_cons_of_mem _ kw_161)) (hts _ (List.mem_cons_of_mem _ kw_7)) hK hP hD hS hA rfl (fun j hj => (by decide : ∀ j, j < 3 → defaultValue (t_Drawing j) = vp_V [.null, .null, .int 0] j) j hj) (Nat.le_of_ble_eq_true rfl) (Nat.le_of_ble_eq_true rfl) d_iP_78 (fun q78 H hP hD hS => ?_)
  have hP : va_P (dC, dI) clz [(q_o, .inr (6, [.ref q5, .ref q19, .ref q33, .ref q48, .ref q61, .ref q67, .null])), (q5, .inr (5, f_Row q14_12 0)), (q14_12, .inl (k14_12, 1200, .inl (fun _ => 0))), (q19, .inr (5, f_Row q14_26 0)), (q14_26, .inl (k14_26, 8250, .inl (fun _ => 0))), (q33, .inr (4, f_Reader q5 q5_41 q18_41 0 0 0)), (q5_41, .inr (3, f_Pen q5_9_41 q18_9_41 q26_9_41 0 0 0 0 0 0 0)), (q5_9_41, .inr (2, f_Matrices q7_9_9_41 0)), (q7_9_9_41, .inl (k7_9_9_41, 54, .inr (.inl (fun _ => 0)))), (q18_9_41, .inl (k18_9_41, 6, .inr (.inl (fun _ => 0)))), (q26_9_41, .inl (k26_9_41, 6, .inr (.inl (fun _ => 0)))), (q18_41, .inl (k18_41, 6, .inr (.inl (fun _ => 0)))), (q48, .inr (0, f_Cover q7_52 q16_52 0 0 0 0 0 0 0)), (q7_52, .inl (k7_52, 64, .inl (fun _ => 0))), (q16_52, .inl (k16_52, 2048, .inl (fun _ => 0))), (q61, .inl (k61, 6, .inr (.inl (fun _ => 0)))), (q67, .inr (1, f_Drawing q8_71 q17_71 0)), (q8_71, .inl (k8_71, 150, .inl (fun _ => 0))), (q17_71, .inl (k17_71, 900, .inl (fun _ => 0))), (q78, .inr (1, [.null, .null, .int 0]))] H := hP
  have hD : va_D A [(q_o, .inr (6, [.ref q5, .ref q19, .ref q33, .ref q48, .ref q61, .ref q67, .null])), (q5, .inr (5, f_Row q14_12 0)), (q14_12, .inl (k14_12, 1200, .inl (fun _ => 0))), (q19, .inr (5, f_Row q14_26 0)), (q14_26, .inl (k14_26, 8250, .inl (fun _ => 0))), (q33, .inr (4, f_Reader q5 q5_41 q18_41 0 0 0)), (q5_41, .inr (3, f_Pen q5_9_41 q18_9_41 q26_9_41 0 0 0 0 0 0 0)), (q5_9_41, .inr (2, f_Matrices q7_9_9_41 0)), (q7_9_9_41, .inl (k7_9_9_41, 54, .inr (.inl (fun _ => 0)))), (q18_9_41, .inl (k18_9_41, 6, .inr (.inl (fun _ => 0)))), (q26_9_41, .inl (k26_9_41, 6, .inr (.inl (fun _ => 0)))), (q18_41, .inl (k18_41, 6, .inr (.inl (fun _ => 0)))), (q48, .inr (0, f_Cover q7_52 q16_52 0 0 0 0 0 0 0)), (q7_52, .inl (k7_52, 64, .inl (fun _ => 0))), (q16_52, .inl (k16_52, 2048, .inl (fun _ => 0))), (q61, .inl (k61, 6, .inr (.inl (fun _ => 0)))), (q67, .inr (1, f_Drawing q8_71 q17_71 0)), (q8_71, .inl (k8_71, 150, .inl (fun _ => 0))), (q17_71, .inl (k17_71, 900, .inl (fun _ => 0))), (q78, .inr (1, [.null, .null, .int 0]))] := hD
  refine lv_dup (pc := 81) hx hb d_iP_81 rfl ?_
  have hPc := hP.sub (ws' := [(q78, .inr (1, [.null, .null, .int 0]))]) [19] rfl
  have hDc := hD.sub (ws' := [(q78, .inr (1, [.null, .null, .int 0]))]) [19] (by decide) rfl
  have hKc := hK.sub (tys' := []) [] rfl
  have hFc := va_free (wc := [(q78, .inr (1, [.null, .null, .int 0]))]) hD hS hA [19] rfl
  refine va_callv (pc := 82) (va_runIN (As := []) (rest := [.ref q78, .ref q_o]) ⟨hx, hb, hml, hown, hts⟩ (ct_iDrawing l dC dI q78 _) ⟨va_cnB 0 hts (kw_in kw_164) rfl rfl rfl (hE.1 _ kn_3) (hts _ (List.mem_cons_of_mem _ kw_7)) (by decide +kernel) ⟨Nat.le_of_ble_eq_true rfl, Nat.le_of_ble_eq_true rfl⟩, rfl, hts _ (List.mem_cons_of_mem _ kw_163)⟩ (kx_pre hPc hKc hDc) rfl rfl hl.1 rfl (lv_room (Nat.le_of_ble_eq_true rfl)) d_iP_82 ⟨Nat.le_of_ble_eq_true rfl, Nat.le_of_ble_eq_true rfl⟩) hS (fun q _ h => hFc q h) hFc (fun u t H1 locs ht hvm hw hB hz1 hk1 hS => ?_)
  obtain ⟨q8_82, q17_82, k8_82, k17_82, hP1, hK1, hD1⟩ := hB
  rw [ht] at hP1
  have hK1 := va_K.moved hvm.symm hK1
  obtain ⟨hP, hD⟩ := va_join (wr := [(q_o, .inr (6, [.ref q5, .ref q19, .ref q33, .ref q48, .ref q61, .ref q67, .null])), (q5, .inr (5, f_Row q14_12 0)), (q14_12, .inl (k14_12, 1200, .inl (fun _ => 0))), (q19, .inr (5, f_Row q14_26 0)), (q14_26, .inl (k14_26, 8250, .inl (fun _ => 0))), (q33, .inr (4, f_Reader q5 q5_41 q18_41 0 0 0)), (q5_41, .inr (3, f_Pen q5_9_41 q18_9_41 q26_9_41 0 0 0 0 0 0 0)), (q5_9_41, .inr (2, f_Matrices q7_9_9_41 0)), (q7_9_9_41, .inl (k7_9_9_41, 54, .inr (.inl (fun _ => 0)))), (q18_9_41, .inl (k18_9_41, 6, .inr (.inl (fun _ => 0)))), (q26_9_41, .inl (k26_9_41, 6, .inr (.inl (fun _ => 0)))), (q18_41, .inl (k18_41, 6, .inr (.inl (fun _ => 0)))), (q48, .inr (0, f_Cover q7_52 q16_52 0 0 0 0 0 0 0)), (q7_52, .inl (k7_52, 64, .inl (fun _ => 0))), (q16_52, .inl (k16_52, 2048, .inl (fun _ => 0))), (q61, .inl (k61, 6, .inr (.inl (fun _ => 0)))), (q67, .inr (1, f_Drawing q8_71 q17_71 0)), (q8_71, .inl (k8_71, 150, .inl (fun _ => 0))), (q17_71, .inl (k17_71, 900, .inl (fun _ => 0)))]) (w1 := [(q78, .inr (1, f_Drawing q8_82 q17_82 0)), (q8_82, .inl (k8_82, 150, .inl (fun _ => 0))), (q17_82, .inl (k17_82, 900, .inl (fun _ => 0)))]) hP hD [19] [0, 1, 2, 3, 4, 5, 6, 7, 8, 9, 10, 11, 12, 13, 14, 15, 16, 17, 18] rfl rfl (by decide) (by decide) hk1 hFc hP1 hD1
  have hK := hK.app hK1
  clear hP1 hK1 hD1 hk1 hPc hDc hKc hFc hz1 hvm ht hw
  generalize H1 = H at hP hS ⊢
  have hP : va_P (dC, dI) clz [(q_o, .inr (6, [.ref q5, .ref q19, .ref q33, .ref q48, .ref q61, .ref q67, .null])), (q5, .inr (5, f_Row q14_12 0)), (q14_12, .inl (k14_12, 1200, .inl (fun _ => 0))), (q19, .inr (5, f_Row q14_26 0)), (q14_26, .inl (k14_26, 8250, .inl (fun _ => 0))), (q33, .inr (4, f_Reader q5 q5_41 q18_41 0 0 0)), (q5_41, .inr (3, f_Pen q5_9_41 q18_9_41 q26_9_41 0 0 0 0 0 0 0)), (q5_9_41, .inr (2, f_Matrices q7_9_9_41 0)), (q7_9_9_41, .inl (k7_9_9_41, 54, .inr (.inl (fun _ => 0)))), (q18_9_41, .inl (k18_9_41, 6, .inr (.inl (fun _ => 0)))), (q26_9_41, .inl (k26_9_41, 6, .inr (.inl (fun _ => 0)))), (q18_41, .inl (k18_41, 6, .inr (.inl (fun _ => 0)))), (q48, .inr (0, f_Cover q7_52 q16_52 0 0 0 0 0 0 0)), (q7_52, .inl (k7_52, 64, .inl (fun _ => 0))), (q16_52, .inl (k16_52, 2048, .inl (fun _ => 0))), (q61, .inl (k61, 6, .inr (.inl (fun _ => 0)))), (q67, .inr (1, f_Drawing q8_71 q17_71 0)), (q8_71, .inl (k8_71, 150, .inl (fun _ => 0))), (q17_71, .inl (k17_71, 900, .inl (fun _ => 0))), (q78, .inr (1, f_Drawing q8_82 q17_82 0)), (q8_82, .inl (k8_82, 150, .inl (fun _ => 0))), (q17_82, .inl (k17_82, 900, .inl (fun _ => 0)))] H := hP
  have hD : va_D A [(q_o, .inr (6, [.ref q5, .ref q19, .ref q33, .ref q48, .ref q61, .ref q67, .null])), (q5, .inr (5, f_Row q14_12 0)), (q14_12, .inl (k14_12, 1200, .inl (fun _ => 0))), (q19, .inr (5, f_Row q14_26 0)), (q14_26, .inl (k14_26, 8250, .inl (fun _ => 0))), (q33, .inr (4, f_Reader q5 q5_41 q18_41 0 0 0)), (q5_41, .inr (3, f_Pen q5_9_41 q18_9_41 q26_9_41 0 0 0 0 0 0 0)), (q5_9_41, .inr (2, f_Matrices q7_9_9_41 0)), (q7_9_9_41, .inl (k7_9_9_41, 54, .inr (.inl (fun _ => 0)))), (q18_9_41, .inl (k18_9_41, 6, .inr (.inl (fun _ => 0)))), (q26_9_41, .inl (k26_9_41, 6, .inr (.inl (fun _ => 0)))), (q18_41, .inl (k18_41, 6, .inr (.inl (fun _ => 0)))), (q48, .inr (0, f_Cover q7_52 q16_52 0 0 0 0 0 0 0)), (q7_52, .inl (k7_52, 64, .inl (fun _ => 0))), (q16_52, .inl (k16_52, 2048, .inl (fun _ => 0))), (q61, .inl (k61, 6, .inr (.inl (fun _ => 0)))), (q67, .inr (1, f_Drawing q8_71 q17_71 0)), (q8_71, .inl (k8_71, 150, .inl (fun _ => 0))), (q17_71, .inl (k17_71, 900, .inl (fun _ => 0))), (q78, .inr (1, f_Drawing q8_82 q17_82 0)), (q8_82, .inl (k8_82, 150, .inl (fun _ => 0))), (q17_82, .inl (k17_82, 900, .inl (fun _ => 0)))] := hD
  have hK : va_K (dC, dI) clz [(k14_12, .char), (k14_26, .char), (k7_9_9_41, .long), (k18_9_41, .long), (k26_9_41, .long), (k18_41, .long), (k7_52, .int), (k16_52, .int), (k61, .long), (k8_71, .int), (k17_71, .int), (k8_82, .int), (k17_82, .int)] s := hK
  refine va_put (pc := 85) (D := (dC, dI)) (ci := 6) (v := .ref q78) (ty := .object "PathTexts$Drawing") (C := "PathTexts") (T := F_P) (N := 7) hx hb hts (fun w h => List.mem_cons_of_mem _ (in_P w h)) t_P tk_P n_P hown hK hP hD hS 0 rfl rfl 6 (by decide) (hts _ (List.mem_cons_of_mem _ kw_192)) (fun _ h9 => h9) rfl (tk_P 6 (by decide)) rfl rfl (Nat.le_of_ble_eq_true rfl) d_iP_85 (fun H locs hP hD hS => ?_)
  have hP : va_P (dC, dI) clz [(q_o, .inr (6, [.ref q5, .ref q19, .ref q33, .ref q48, .ref q61, .ref q67, .ref q78])), (q5, .inr (5, f_Row q14_12 0)), (q14_12, .inl (k14_12, 1200, .inl (fun _ => 0))), (q19, .inr (5, f_Row q14_26 0)), (q14_26, .inl (k14_26, 8250, .inl (fun _ => 0))), (q33, .inr (4, f_Reader q5 q5_41 q18_41 0 0 0)), (q5_41, .inr (3, f_Pen q5_9_41 q18_9_41 q26_9_41 0 0 0 0 0 0 0)), (q5_9_41, .inr (2, f_Matrices q7_9_9_41 0)), (q7_9_9_41, .inl (k7_9_9_41, 54, .inr (.inl (fun _ => 0)))), (q18_9_41, .inl (k18_9_41, 6, .inr (.inl (fun _ => 0)))), (q26_9_41, .inl (k26_9_41, 6, .inr (.inl (fun _ => 0)))), (q18_41, .inl (k18_41, 6, .inr (.inl (fun _ => 0)))), (q48, .inr (0, f_Cover q7_52 q16_52 0 0 0 0 0 0 0)), (q7_52, .inl (k7_52, 64, .inl (fun _ => 0))), (q16_52, .inl (k16_52, 2048, .inl (fun _ => 0))), (q61, .inl (k61, 6, .inr (.inl (fun _ => 0)))), (q67, .inr (1, f_Drawing q8_71 q17_71 0)), (q8_71, .inl (k8_71, 150, .inl (fun _ => 0))), (q17_71, .inl (k17_71, 900, .inl (fun _ => 0))), (q78, .inr (1, f_Drawing q8_82 q17_82 0)), (q8_82, .inl (k8_82, 150, .inl (fun _ => 0))), (q17_82, .inl (k17_82, 900, .inl (fun _ => 0)))] H := hP
  have hD : va_D A [(q_o, .inr (6, [.ref q5, .ref q19, .ref q33, .ref q48, .ref q61, .ref q67, .ref q78])), (q5, .inr (5, f_Row q14_12 0)), (q14_12, .inl (k14_12, 1200, .inl (fun _ => 0))), (q19, .inr (5, f_Row q14_26 0)), (q14_26, .inl (k14_26, 8250, .inl (fun _ => 0))), (q33, .inr (4, f_Reader q5 q5_41 q18_41 0 0 0)), (q5_41, .inr (3, f_Pen q5_9_41 q18_9_41 q26_9_41 0 0 0 0 0 0 0)), (q5_9_41, .inr (2, f_Matrices q7_9_9_41 0)), (q7_9_9_41, .inl (k7_9_9_41, 54, .inr (.inl (fun _ => 0)))), (q18_9_41, .inl (k18_9_41, 6, .inr (.inl (fun _ => 0)))), (q26_9_41, .inl (k26_9_41, 6, .inr (.inl (fun _ => 0)))), (q18_41, .inl (k18_41, 6, .inr (.inl (fun _ => 0)))), (q48, .inr (0, f_Cover q7_52 q16_52 0 0 0 0 0 0 0)), (q7_52, .inl (k7_52, 64, .inl (fun _ => 0))), (q16_52, .inl (k16_52, 2048, .inl (fun _ => 0))), (q61, .inl (k61, 6, .inr (.inl (fun _ => 0)))), (q67, .inr (1, f_Drawing q8_71 q17_71 0)), (q8_71, .inl (k8_71, 150, .inl (fun _ => 0))), (q17_71, .inl (k17_71, 900, .inl (fun _ => 0))), (q78, .inr (1, f_Drawing q8_82 q17_82 0)), (q8_82, .inl (k8_82, 150, .inl (fun _ => 0))), (q17_82, .inl (k17_82, 900, .inl (fun _ => 0)))] := hD
  refine W.widen (k := 21) (n := 13777) (Nat.le_of_ble_eq_true rfl) (Nat.le_of_ble_eq_true rfl) ?_
  exact W.vret hx hb hr (fun t ht hW => ⟨⟨(), rfl, trivial, q5, q14_12, q19, q14_26, q33, q5_41, q5_9_41, q7_9_9_41, q18_9_41, q26_9_41, q18_41, q48, q7_52, q16_52, q61, q67, q8_71, q17_71, q78, q8_82, q17_82, k14_12, k14_26, k7_9_9_41, k18_9_41, k26_9_41, k18_41, k7_52, k16_52, k61, k8_71, k17_71, k8_82, k17_82, by rw [ht]; exact hP, va_K.moved hW.alike hK, hD⟩, hS.F ht⟩) hS.2.2 d_iP_88
abbrev y_iModel : MethodName := ⟨"PathTextsModel", "<init>", "()V"⟩
abbrev w_iModel : List Cond := .code y_iModel prog_10_method_1_code 1 none :: kw
theorem d_iModel_0 : decode prog_10_method_1_code 0 = .ok (.aload_n 0, 1) := by decide +kernel
theorem d_iModel_1 : decode prog_10_method_1_code 1 = .ok (.invokespecial 1, 3) := by decide +kernel
theorem d_iModel_4 : decode prog_10_method_1_code 4 = .ok (.aload_n 0, 1) := by decide +kernel
theorem d_iModel_5 : decode prog_10_method_1_code 5 = .ok (.sipush 1200, 3) := by decide +kernel
theorem d_iModel_8 : decode prog_10_method_1_code 8 = .ok (.newarray .int, 2) := by decide +kernel
theorem d_iModel_10 : decode prog_10_method_1_code 10 = .ok (.putfield 7, 3) := by decide +kernel
theorem d_iModel_13 : decode prog_10_method_1_code 13 = .ok (.aload_n 0, 1) := by decide +kernel
theorem d_iModel_14 : decode prog_10_method_1_code 14 = .ok (.sipush 150, 3) := by decide +kernel
theorem d_iModel_17 : decode prog_10_method_1_code 17 = .ok (.newarray .int, 2) := by decide +kernel
theorem d_iModel_19 : decode prog_10_method_1_code 19 = .ok (.putfield 13, 3) := by decide +kernel
theorem d_iModel_22 : decode prog_10_method_1_code 22 = .ok (.aload_n 0, 1) := by decide +kernel
theorem d_iModel_23 : decode prog_10_method_1_code 23 = .ok (.sipush 900, 3) := by decide +kernel
theorem d_iModel_26 : decode prog_10_method_1_code 26 = .ok (.newarray .int, 2) := by decide +kernel
theorem d_iModel_28 : decode prog_10_method_1_code 28 = .ok (.putfield 16, 3) := by decide +kernel
theorem d_iModel_31 : decode prog_10_method_1_code 31 = .ok (.aload_n 0, 1) := by decide +kernel
theorem d_iModel_32 : decode prog_10_method_1_code 32 = .ok (.sipush 150, 3) := by decide +kernel
theorem d_iModel_35 : decode prog_10_method_1_code 35 = .ok (.newarray .int, 2) := by decide +kernel
theorem d_iModel_37 : decode prog_10_method_1_code 37 = .ok (.putfield 19, 3) := by decide +kernel
theorem d_iModel_40 : decode prog_10_method_1_code 40 = .ok (.aload_n 0, 1) := by decide +kernel
theorem d_iModel_41 : decode prog_10_method_1_code 41 = .ok (.sipush 900, 3) := by decide +kernel
theorem d_iModel_44 : decode prog_10_method_1_code 44 = .ok (.newarray .int, 2) := by decide +kernel
theorem d_iModel_46 : decode prog_10_method_1_code 46 = .ok (.putfield 22, 3) := by decide +kernel
theorem d_iModel_49 : decode prog_10_method_1_code 49 = .ok (.aload_n 0, 1) := by decide +kernel
theorem d_iModel_50 : decode prog_10_method_1_code 50 = .ok (.bipush 54, 2) := by decide +kernel
theorem d_iModel_52 : decode prog_10_method_1_code 52 = .ok (.newarray .long, 2) := by decide +kernel
theorem d_iModel_54 : decode prog_10_method_1_code 54 = .ok (.putfield 25, 3) := by decide +kernel
theorem d_iModel_57 : decode prog_10_method_1_code 57 = .ok (.aload_n 0, 1) := by decide +kernel
theorem d_iModel_58 : decode prog_10_method_1_code 58 = .ok (.bipush 6, 2) := by decide +kernel
theorem d_iModel_60 : decode prog_10_method_1_code 60 = .ok (.newarray .long, 2) := by decide +kernel
theorem d_iModel_62 : decode prog_10_method_1_code 62 = .ok (.putfield 29, 3) := by decide +kernel
theorem d_iModel_65 : decode prog_10_method_1_code 65 = .ok (.aload_n 0, 1) := by decide +kernel
theorem d_iModel_66 : decode prog_10_method_1_code 66 = .ok (.sipush 12000, 3) := by decide +kernel
theorem d_iModel_69 : decode prog_10_method_1_code 69 = .ok (.newarray .int, 2) := by decide +kernel
theorem d_iModel_71 : decode prog_10_method_1_code 71 = .ok (.putfield 32, 3) := by decide +kernel
theorem d_iModel_74 : decode prog_10_method_1_code 74 = .ok (.aload_n 0, 1) := by decide +kernel
theorem d_iModel_75 : decode prog_10_method_1_code 75 = .ok (.sipush 2700, 3) := by decide +kernel
theorem d_iModel_78 : decode prog_10_method_1_code 78 = .ok (.newarray .int, 2) := by decide +kernel
theorem d_iModel_80 : decode prog_10_method_1_code 80 = .ok (.putfield 35, 3) := by decide +kernel
theorem d_iModel_83 : decode prog_10_method_1_code 83 = .ok (.aload_n 0, 1) := by decide +kernel
theorem d_iModel_84 : decode prog_10_method_1_code 84 = .ok (.sipush 2700, 3) := by decide +kernel
theorem d_iModel_87 : decode prog_10_method_1_code 87 = .ok (.newarray .int, 2) := by decide +kernel
theorem d_iModel_89 : decode prog_10_method_1_code 89 = .ok (.putfield 38, 3) := by decide +kernel
theorem d_iModel_92 : decode prog_10_method_1_code 92 = .ok (.aload_n 0, 1) := by decide +kernel
theorem d_iModel_93 : decode prog_10_method_1_code 93 = .ok (.sipush 2700, 3) := by decide +kernel
theorem d_iModel_96 : decode prog_10_method_1_code 96 = .ok (.newarray .int, 2) := by decide +kernel
theorem d_iModel_98 : decode prog_10_method_1_code 98 = .ok (.putfield 41, 3) := by decide +kernel
theorem d_iModel_101 : decode prog_10_method_1_code 101 = .ok (.aload_n 0, 1) := by decide +kernel
theorem d_iModel_102 : decode prog_10_method_1_code 102 = .ok (.sipush 2700, 3) := by decide +kernel
theorem d_iModel_105 : decode prog_10_method_1_code 105 = .ok (.newarray .int, 2) := by decide +kernel
theorem d_iModel_107 : decode prog_10_method_1_code 107 = .ok (.putfield 44, 3) := by decide +kernel
theorem d_iModel_110 : decode prog_10_method_1_code 110 = .ok (.aload_n 0, 1) := by decide +kernel
theorem d_iModel_111 : decode prog_10_method_1_code 111 = .ok (.bipush 64, 2) := by decide +kernel
theorem d_iModel_113 : decode prog_10_method_1_code 113 = .ok (.newarray .int, 2) := by decide +kernel
theorem d_iModel_115 : decode prog_10_method_1_code 115 = .ok (.putfield 47, 3) := by decide +kernel
theorem d_iModel_118 : decode prog_10_method_1_code 118 = .ok (.return_, 1) := by decide +kernel
set_option maxHeartbeats 4000000 in
set_option maxRecDepth 100000 in
theorem ct_iModel (l : Launch) (dC : Nat → ClassId) (dI : Nat → Nat → Nat) (q_o : Nat) (sz : Nat) : Met l y_iModel w_iModel ({ frames := 1, cells := 13, slots := 26224, locals := 12 }) (va_Pc [.ref q_o] (fun U => U.heap.size = sz ∧ va_P (dC, dI) clz [(q_o, .inr (7, [.int 0, .int 0, .null, .int 0, .null, .null, .int 0, .null, .null, .int 0, .null, .int 0, .long 0, .int 0, .int 0, .long 0, .long 0, .long 0, .long 0, .int 0, .long 0, .long 0, .null, .int 0, .null, .int 0, .null, .null, .null, .null, .int 0, .int 0, .null, .int 0, .long 0]))] U.heap ∧ va_K (dC, dI) clz [] U ∧ va_D (fun _ => True) [(q_o, .inr (7, [.int 0, .int 0, .null, .int 0, .null, .null, .int 0, .null, .null, .int 0, .null, .int 0, .long 0, .int 0, .int 0, .long 0, .long 0, .long 0, .long 0, .int 0, .long 0, .long 0, .null, .int 0, .null, .int 0, .null, .null, .null, .null, .int 0, .int 0, .null, .int 0, .long 0]))])) (va_Qv (fun _ : Unit => True) (fun _ t => ∃ (q8 q17 q26 q35 q44 q52 q60 q69 q78 q87 q96 q105 q113 : Nat) (k8 k17 k26 k35 k44 k52 k60 k69 k78 k87 k96 k105 k113 : ClassId), va_P (dC, dI) clz [(q_o, .inr (7, f_Model 0 0 q8 0 q17 q26 0 q35 q44 0 q52 0 0 0 0 0 0 0 0 0 0 0 q60 0 q69 0 q78 q87 q96 q105 0 0 q113 0 0)), (q8, .inl (k8, 1200, .inl (fun _ => 0))), (q17, .inl (k17, 150, .inl (fun _ => 0))), (q26, .inl (k26, 900, .inl (fun _ => 0))), (q35, .inl (k35, 150, .inl (fun _ => 0))), (q44, .inl (k44, 900, .inl (fun _ => 0))), (q52, .inl (k52, 54, .inr (.inl (fun _ => 0)))), (q60, .inl (k60, 6, .inr (.inl (fun _ => 0)))), (q69, .inl (k69, 12000, .inl (fun _ => 0))), (q78, .inl (k78, 2700, .inl (fun _ => 0))), (q87, .inl (k87, 2700, .inl (fun _ => 0))), (q96, .inl (k96, 2700, .inl (fun _ => 0))), (q105, .inl (k105, 2700, .inl (fun _ => 0))), (q113, .inl (k113, 64, .inl (fun _ => 0)))] t.heap ∧ va_K (dC, dI) clz [(k8, .int), (k17, .int), (k26, .int), (k35, .int), (k44, .int), (k52, .long), (k60, .long), (k69, .int), (k78, .int), (k87, .int), (k96, .int), (k105, .int), (k113, .int)] t ∧ va_D (va_A [(q_o, .inr (7, [.int 0, .int 0, .null, .int 0, .null, .null, .int 0, .null, .null, .int 0, .null, .int 0, .long 0, .int 0, .int 0, .long 0, .long 0, .long 0, .long 0, .int 0, .long 0, .long 0, .null, .int 0, .null, .int 0, .null, .null, .null, .null, .int 0, .int 0, .null, .int 0, .long 0]))] sz) [(q_o, .inr (7, f_Model 0 0 q8 0 q17 q26 0 q35 q44 0 q52 0 0 0 0 0 0 0 0 0 0 0 q60 0 q69 0 q78 q87 q96 q105 0 0 q113 0 0)), (q8, .inl (k8, 1200, .inl (fun _ => 0))), (q17, .inl (k17, 150, .inl (fun _ => 0))), (q26, .inl (k26, 900, .inl (fun _ => 0))), (q35, .inl (k35, 150, .inl (fun _ => 0))), (q44, .inl (k44, 900, .inl (fun _ => 0))), (q52, .inl (k52, 54, .inr (.inl (fun _ => 0)))), (q60, .inl (k60, 6, .inr (.inl (fun _ => 0)))), (q69, .inl (k69, 12000, .inl (fun _ => 0))), (q78, .inl (k78, 2700, .inl (fun _ => 0))), (q87, .inl (k87, 2700, .inl (fun _ => 0))), (q96, .inl (k96, 2700, .inl (fun _ => 0))), (q105, .inl (k105, 2700, .inl (fun _ => 0))), (q113, .inl (k113, 64, .inl (fun _ => 0)))]) (va_A [(q_o, .inr (7, [.int 0, .int 0, .null, .int 0, .null, .null, .int 0, .null, .null, .int 0, .null, .int 0, .long 0, .int 0, .int 0, .long 0, .long 0, .long 0, .long 0, .int 0, .long 0, .long 0, .null, .int 0, .null, .int 0, .null, .null, .null, .null, .int 0, .int 0, .null, .int 0, .long 0]))] sz)) 13 26224 (va_A [(q_o, .inr (7, [.int 0, .int 0, .null, .int 0, .null, .null, .int 0, .null, .null, .int 0, .null, .int 0, .long 0, .int 0, .int 0, .long 0, .long 0, .long 0, .long 0, .int 0, .long 0, .long 0, .null, .int 0, .null, .int 0, .null, .null, .null, .null, .int 0, .int 0, .null, .int 0, .long 0]))] sz) := by
  refine Met.ofW (cc := prog_10_method_1_code) (maxL := 1) (ret := none) (by decide +kernel) rfl ?_
  intro p e s m args below meth c s₁ B hml hv
  obtain ⟨hargs, hsz, hP, hK, hD0⟩ := hv
  have hx := B.exec
  have hb := B.bytes
  have hr := B.returns
  have hts := atoms_spec (ws := w_iModel) B.pre
  have hown : s.vm.findClass "PathTextsModel" = some m.cls := findClass_of_methodNamed B.named
  have hlocks := B.notSynchronized
  have hin : meth.name = "<init>" := (name_of_methodNamed B.named B.method).1
  subst hsz
  have hD := hD0.self (sz := s.heap.size)
  generalize hAe : va_A [(q_o, .inr (7, [.int 0, .int 0, .null, .int 0, .null, .null, .int 0, .null, .null, .int 0, .null, .int 0, .long 0, .int 0, .int 0, .long 0, .long 0, .long 0, .long 0, .int 0, .long 0, .long 0, .null, .int 0, .null, .int 0, .null, .null, .null, .null, .int 0, .int 0, .null, .int 0, .long 0]))] s.heap.size = A at hD ⊢
  have hA : ∀ q : Nat, s.heap.size ≤ q → A q := fun q h => by rw [← hAe]; exact Or.inr h
  clear hAe hD0
  have hS : va_S A s.heap s.heap [] := va_S.rf
  have hl := lv_entry ([.ref q_o]) (n := 1) (Nat.le_of_ble_eq_true rfl)
  have hent : entryFrame m args 1 = F0 m 0 (lg_sl ([.ref q_o]) ++ List.replicate (1 - (lg_sl ([.ref q_o])).length) Slot.unset).toArray [] := by rw [hargs, lg_entry_eq]
  rw [hent]
  clear hent hargs
  generalize (lg_sl ([.ref q_o]) ++ List.replicate (1 - (lg_sl ([.ref q_o])).length) Slot.unset).toArray = ls at hl ⊢
  have hl : lv_has ls 1 [(0, .ref q_o)] := hl
  refine lv_aload_n (pc := 0) hx hb d_iModel_0 rfl (lv_at hl 0 rfl) ?_
  refine W.objInit hx hb hown (hts _ (List.mem_cons_of_mem _ kw_670)) (hts _ (List.mem_cons_of_mem _ kw_25)) (hts _ (List.mem_cons_of_mem _ kw_26)) rfl (by rw [hml]; exact hl.1) rfl d_iModel_1 (Nat.le_of_ble_eq_true rfl) (Nat.le_of_ble_eq_true rfl) ?_
  refine W.eq (g2 := F0 m 4 ls []) rfl ?_
  refine lv_aload_n (pc := 4) hx hb d_iModel_4 rfl (lv_at hl 0 rfl) ?_
  refine lv_sipush (pc := 5) (v := (1200 : Int32)) hx hb d_iModel_5 (by decide) ?_
  refine va_newa (pc := 8) (atype := .int) (ty := .int) (a0 := (1200, .inl (fun _ => 0))) hx hb (hts _ (List.mem_cons_of_mem _ kw_159)) rfl hK hP hD hS hA (fun _ => rfl) (by decide) (N' := 1200) (by decide) (by decide) (Nat.le_of_ble_eq_true rfl) (Nat.le_of_ble_eq_true rfl) d_iModel_8 (fun q8 k8 H hK hP hD hS => ?_)
  have hP : va_P (dC, dI) clz [(q_o, .inr (7, [.int 0, .int 0, .null, .int 0, .null, .null, .int 0, .null, .null, .int 0, .null, .int 0, .long 0, .int 0, .int 0, .long 0, .long 0, .long 0, .long 0, .int 0, .long 0, .long 0, .null, .int 0, .null, .int 0, .null, .null, .null, .null, .int 0, .int 0, .null, .int 0, .long 0])), (q8, .inl (k8, 1200, .inl (fun _ => 0)))] H := hP
  have hD : va_D A [(q_o, .inr (7, [.int 0, .int 0, .null, .int 0, .null, .null, .int 0, .null, .null, .int 0, .null, .int 0, .long 0, .int 0, .int 0, .long 0, .long 0, .long 0, .long 0, .int 0, .long 0, .long 0, .null, .int 0, .null, .int 0, .null, .null, .null, .null, .int 0, .int 0, .null, .int 0, .long 0])), (q8, .inl (k8, 1200, .inl (fun _ => 0)))] := hD
  have hK : va_K (dC, dI) clz [(k8, .int)] s := hK
  refine va_putF (pc := 10) (D := (dC, dI)) (ci := 7) (v := .ref q8) (ty := .array .int) (C := "PathTextsModel") (T := F_Model) (N := 35) hx hb hts (fun w h => List.mem_cons_of_mem _ (in_Model w h)) t_Model tk_Model n_Model hown hK hP hD hS 0 rfl rfl 2 (by decide) (hts _ (List.mem_cons_of_mem _ kw_673)) (fun _ h9 => h9) rfl hin rfl (tk_Model 2 (by decide)) rfl rfl (Nat.le_of_ble_eq_true rfl) d_iModel_10 (fun H locs hP hD hS => ?_)
  have hP : va_P (dC, dI) clz [(q_o, .inr (7, [.int 0, .int 0, .ref q8, .int 0, .null, .null, .int 0, .null, .null, .int 0, .null, .int 0, .long 0, .int 0, .int 0, .long 0, .long 0, .long 0, .long 0, .int 0, .long 0, .long 0, .null, .int 0, .null, .int 0, .null, .null, .null, .null, .int 0, .int 0, .null, .int 0, .long 0])), (q8, .inl (k8, 1200, .inl (fun _ => 0)))] H := hP
  have hD : va_D A [(q_o, .inr (7, [.int 0, .int 0, .ref q8, .int 0, .null, .null, .int 0, .null, .null, .int 0, .null, .int 0, .long 0, .int 0, .int 0, .long 0, .long 0, .long 0, .long 0, .int 0, .long 0, .long 0, .null, .int 0, .null, .int 0, .null, .null, .null, .null, .int 0, .int 0, .null, .int 0, .long 0])), (q8, .inl (k8, 1200, .inl (fun _ => 0)))] := hD
  refine lv_aload_n (pc := 13) hx hb d_iModel_13 rfl (lv_at hl 0 rfl) ?_
  refine lv_sipush (pc := 14) (v := (150 : Int32)) hx hb d_iModel_14 (by decide) ?_
  refine va_newa (pc := 17) (atype := .int) (ty := .int) (a0 := (150, .inl (fun _ => 0))) hx hb (hts _ (List.mem_cons_of_mem _ kw_159)) rfl hK hP hD hS hA (fun _ => rfl) (by decide) (N' := 150) (by decide) (by decide) (Nat.le_of_ble_eq_true rfl) (Nat.le_of_ble_eq_true rfl) d_iModel_17 (fun q17 k17 H hK hP hD hS => ?_)
  have hP : va_P (dC, dI) clz [(q_o, .inr (7, [.int 0, .int 0, .ref q8, .int 0, .null, .null, .int 0, .null, .null, .int 0, .null, .int 0, .long 0, .int 0, .int 0, .long 0, .long 0, .long 0, .long 0, .int 0, .long 0, .long 0, .null, .int 0, .null, .int 0, .null, .null, .null, .null, .int 0, .int 0, .null, .int 0, .long 0])), (q8, .inl (k8, 1200, .inl (fun _ => 0))), (q17, .inl (k17, 150, .inl (fun _ => 0)))] H := hP
  have hD : va_D A [(q_o, .inr (7, [.int 0, .int 0, .ref q8, .int 0, .null, .null, .int 0, .null, .null, .int 0, .null, .int 0, .long 0, .int 0, .int 0, .long 0, .long 0, .long 0, .long 0, .int 0, .long 0, .long 0, .null, .int 0, .null, .int 0, .null, .null, .null, .null, .int 0, .int 0, .null, .int 0, .long 0])), (q8, .inl (k8, 1200, .inl (fun _ => 0))), (q17, .inl (k17, 150, .inl (fun _ => 0)))] := hD
  have hK : va_K (dC, dI) clz [(k8, .int), (k17, .int)] s := hK
  refine va_putF (pc := 19) (D := (dC, dI)) (ci := 7) (v := .ref q17) (ty := .array .int) (C := "PathTextsModel") (T := F_Model) (N := 35) hx hb hts (fun w h => List.mem_cons_of_mem _ (in_Model w h)) t_Model tk_Model n_Model hown hK hP hD hS 0 rfl rfl 4 (by decide) (hts _ (List.mem_cons_of_mem _ kw_675)) (fun _ h9 => h9) rfl hin rfl (tk_Model 4 (by decide)) rfl rfl (Nat.le_of_ble_eq_true rfl) d_iModel_19 (fun H locs hP hD hS => ?_)
  have hP : va_P (dC, dI) clz [(q_o, .inr (7, [.int 0, .int 0, .ref q8, .int 0, .ref q17, .null, .int 0, .null, .null, .int 0, .null, .int 0, .long 0, .int 0, .int 0, .long 0, .long 0, .long 0, .long 0, .int 0, .long 0, .long 0, .null, .int 0, .null, .int 0, .null, .null, .null, .null, .int 0, .int 0, .null, .int 0, .long 0])), (q8, .inl (k8, 1200, .inl (fun _ => 0))), (q17, .inl (k17, 150, .inl (fun _ => 0)))] H := hP
  have hD : va_D A [(q_o, .inr (7, [.int 0, .int 0, .ref q8, .int 0, .ref q17, .null, .int 0, .null, .null, .int 0, .null, .int 0, .long 0, .int 0, .int 0, .long 0, .long 0, .long 0, .long 0, .int 0, .long 0, .long 0, .null, .int 0, .null, .int 0, .null, .null, .null, .null, .int 0, .int 0, .null, .int 0, .long 0])), (q8, .inl (k8, 1200, .inl (fun _ => 0))), (q17, .inl (k17, 150, .inl (fun _ => 0)))] := hD
  refine lv_aload_n (pc := 22) hx hb d_iModel_22 rfl (lv_at hl 0 rfl) ?_
  refine lv_sipush (pc := 23) (v := (900 : Int32)) hx hb d_iModel_23 (by decide) ?_
  refine va_newa (pc := 26) (atype := .int) (ty := .int) (a0 := (900, .inl (fun _ => 0))) hx hb (hts _ (List.mem_cons_of_mem _ kw_159)) rfl hK hP hD hS hA (fun _ => rfl) (by decide) (N' := 900) (by decide) (by decide) (Nat.le_of_ble_eq_true rfl) (Nat.le_of_ble_eq_true rfl) d_iModel_26 (fun q26 k26 H hK hP hD hS => ?_)
  have hP : va_P (dC, dI) clz [(q_o, .inr (7, [.int 0, .int 0, .ref q8, .int 0, .ref q17, .null, .int 0, .null, .null, .int 0, .null, .int 0, .long 0, .int 0, .int 0, .long 0, .long 0, .long 0, .long 0, .int 0, .long 0, .long 0, .null, .int 0, .null, .int 0, .null, .null, .null, .null, .int 0, .int 0, .null, .int 0, .long 0])), (q8, .inl (k8, 1200, .inl (fun _ => 0))), (q17, .inl (k17, 150, .inl (fun _ => 0))), (q26, .inl (k26, 900, .inl (fun _ => 0)))] H := hP
  have hD : va_D A [(q_o, .inr (7, [.int 0, .int 0, .ref q8, .int 0, .ref q17, .null, .int 0, .null, .null, .int 0, .null, .int 0, .long 0, .int 0, .int 0, .long 0, .long 0, .long 0, .long 0, .int 0, .long 0, .long 0, .null, .int 0, .null, .int 0, .null, .null, .null, .null, .int 0, .int 0, .null, .int 0, .long 0])), (q8, .inl (k8, 1200, .inl (fun _ => 0))), (q17, .inl (k17, 150, .inl (fun _ => 0))), (q26, .inl (k26, 900, .inl (fun _ => 0)))] := hD
  have hK : va_K (dC, dI) clz [(k8, .int), (k17, .int), (k26, .int)] s := hK
  refine va_putF (pc := 28) (D := (dC, dI)) (ci := 7) (v := .ref q26) (ty := .array .int) (C := "PathTextsModel") (T := F_Model) (N := 35) hx hb hts (fun w h => List.mem_cons_of_mem _ (in_Model w h)) t_Model tk_Model n_Model hown hK hP hD hS 0 rfl rfl 5 (by decide) (hts _ (List.mem_cons_of_mem _ kw_676)) (fun _ h9 => h9) rfl hin rfl (tk_Model 5 (by decide)) rfl rfl (Nat.le_of_ble_eq_true rfl) d_iModel_28 (fun H locs hP hD hS => ?_)
  have hP : va_P (dC, dI) clz [(q_o, .inr (7, [.int 0, .int 0, .ref q8, .int 0, .ref q17, .ref q26, .int 0, .null, .null, .int 0, .null, .int 0, .long 0, .int 0, .int 0, .long 0, .long 0, .long 0, .long 0, .int 0, .long 0, .long 0, .null, .int 0, .null, .int 0, .null, .null, .null, .null, .int 0, .int 0, .null, .int 0, .long 0])), (q8, .inl (k8, 1200, .inl (fun _ => 0))), (q17, .inl (k17, 150, .inl (fun _ => 0))), (q26, .inl (k26, 900, .inl (fun _ => 0)))] H := hP
  have hD : va_D A [(q_o, .inr (7, [.int 0, .int 0, .ref q8, .int 0, .ref q17, .ref q26, .int 0, .null, .null, .int 0, .null, .int 0, .long 0, .int 0, .int 0, .long 0, .long 0, .long 0, .long 0, .int 0, .long 0, .long 0, .null, .int 0, .null, .int 0, .null, .null, .null, .null, .int 0, .int 0, .null, .int 0, .long 0])), (q8, .inl (k8, 1200, .inl (fun _ => 0))), (q17, .inl (k17, 150, .inl (fun _ => 0))), (q26, .inl (k26, 900, .inl (fun _ => 0)))] := hD
  refine lv_aload_n (pc := 31) hx hb d_iModel_31 rfl (lv_at hl 0 rfl) ?_
  refine lv_sipush (pc := 32) (v := (150 : Int32)) hx hb d_iModel_32 (by decide) ?_
  refine va_newa (pc := 35) (atype := .int) (ty := .int) (a0 := (150, .inl (fun _ => 0))) hx hb (hts _ (List.mem_cons_of_mem _ kw_159)) rfl hK hP hD hS hA (fun _ => rfl) (by decide) (N' := 150) (by decide) (by decide) (Nat.le_of_ble_eq_true rfl) (Nat.le_of_ble_eq_true rfl) d_iModel_35 (fun q35 k35 H hK hP hD hS => ?_)
  have hP : va_P (dC, dI) clz [(q_o, .inr (7, [.int 0, .int 0, .ref q8, .int 0, .ref q17, .ref q26, .int 0, .null, .null, .int 0, .null, .int 0, .long 0, .int 0, .int 0, .long 0, .long 0, .long 0, .long 0, .int 0, .long 0, .long 0, .null, .int 0, .null, .int 0, .null, .null, .null, .null, .int 0, .int 0, .null, .int 0, .long 0])), (q8, .inl (k8, 1200, .inl (fun _ => 0))), (q17, .inl (k17, 150, .inl (fun _ => 0))), (q26, .inl (k26, 900, .inl (fun _ => 0))), (q35, .inl (k35, 150, .inl (fun _ => 0)))] H := hP
  have hD : va_D A [(q_o, .inr (7, [.int 0, .int 0, .ref q8, .int 0, .ref q17, .ref q26, .int 0, .null, .null, .int 0, .null, .int 0, .long 0, .int 0, .int 0, .long 0, .long 0, .long 0, .long 0, .int 0, .long 0, .long 0, .null, .int 0, .null, .int 0, .null, .null, .null, .null, .int 0, .int 0, .null, .int 0, .long 0])), (q8, .inl (k8, 1200, .inl (fun _ => 0))), (q17, .inl (k17, 150, .inl (fun _ => 0))), (q26, .inl (k26, 900, .inl (fun _ => 0))), (q35, .inl (k35, 150, .inl (fun _ => 0)))] := hD
  have hK : va_K (dC, dI) clz [(k8, .int), (k17, .int), (k26, .int), (k35, .int)] s := hK
  refine va_putF (pc := 37) (D := (dC, dI)) (ci := 7) (v := .ref q35) (ty := .array .int) (C := "PathTextsModel") (T := F_Model) (N := 35) hx hb hts (fun w h => List.mem_cons_of_mem _ (in_Model w h)) t_Model tk_Model n_Model hown hK hP hD hS 0 rfl rfl 7 (by decide) (hts _ (List.mem_cons_of_mem _ kw_678)) (fun _ h9 => h9) rfl hin rfl (tk_Model 7 (by decide)) rfl rfl (Nat.le_of_ble_eq_true rfl) d_iModel_37 (fun H locs hP hD hS => ?_)
  have hP : va_P (dC, dI) clz [(q_o, .inr (7, [.int 0, .int 0, .ref q8, .int 0, .ref q17, .ref q26, .int 0, .ref q35, .null, .int 0, .null, .int 0, .long 0, .int 0, .int 0, .long 0, .long 0, .long 0, .long 0, .int 0, .long 0, .long 0, .null, .int 0, .null, .int 0, .null, .null, .null, .null, .int 0, .int 0, .null, .int 0, .long 0])), (q8, .inl (k8, 1200, .inl (fun _ => 0))), (q17, .inl (k17, 150, .inl (fun _ => 0))), (q26, .inl (k26, 900, .inl (fun _ => 0))), (q35, .inl (k35, 150, .inl (fun _ => 0)))] H := hP
  have hD : va_D A [(q_o, .inr (7, [.int 0, .int 0, .ref q8, .int 0, .ref q17, .ref q26, .int 0, .ref q35, .null, .int 0, .null, .int 0, .long 0, .int 0, .int 0, .long 0, .long 0, .long 0, .long 0, .int 0, .long 0, .long 0, .null, .int 0, .null, .int 0, .null, .null, .null, .null, .int 0, .int 0, .null, .int 0, .long 0])), (q8, .inl (k8, 1200, .inl (fun _ => 0))), (q17, .inl (k17, 150, .inl (fun _ => 0))), (q26, .inl (k26, 900, .inl (fun _ => 0))), (q35, .inl (k35, 150, .inl (fun _ => 0)))] := hD
  refine lv_aload_n (pc := 40) hx hb d_iModel_40 rfl (lv_at hl 0 rfl) ?_
  refine lv_sipush (pc := 41) (v := (900 : Int32)) hx hb d_iModel_41 (by decide) ?_
  refine va_newa (pc := 44) (atype := .int) (ty := .int) (a0 := (900, .inl (fun _ => 0))) hx hb (hts _ (List.mem_cons_of_mem _ kw_159)) rfl hK hP hD hS hA (fun _ => rfl) (by decide) (N' := 900) (by decide) (by decide) (Nat.le_of_ble_eq_true rfl) (Nat.le_of_ble_eq_true rfl) d_iModel_44 (fun q44 k44 H hK hP hD hS => ?_)
  have hP : va_P (dC, dI) clz [(q_o, .inr (7, [.int 0, .int 0, .ref q8, .int 0, .ref q17, .ref q26, .int 0, .ref q35, .null, .int 0, .null, .int 0, .long 0, .int 0, .int 0, .long 0, .long 0, .long 0, .long 0, .int 0, .long 0, .long 0, .null, .int 0, .null, .int 0, .null, .null, .null, .null, .int 0, .int 0, .null, .int 0, .long 0])), (q8, .inl (k8, 1200, .inl (fun _ => 0))), (q17, .inl (k17, 150, .inl (fun _ => 0))), (q26, .inl (k26, 900, .inl (fun _ => 0))), (q35, .inl (k35, 150, .inl (fun _ => 0))), (q44, .inl (k44, 900, .inl (fun _ => 0)))] H := hP
  have hD : va_D A [(q_o, .inr (7, [.int 0, .int 0, .ref q8, .int 0, .ref q17, .ref q26, .int 0, .ref q35, .null, .int 0, .null, .int 0, .long 0, .int 0, .int 0, .long 0, .long 0, .long 0, .long 0, .int 0, .long 0, .long 0, .null, .int 0, .null, .int 0, .null, .null, .null, .null, .int 0, .int 0, .null, .int 0, .long 0])), (q8, .inl (k8, 1200, .inl (fun _ => 0))), (q17, .inl (k17, 150, .inl (fun _ => 0))), (q26, .inl (k26, 900, .inl (fun _ => 0))), (q35, .inl (k35, 150, .inl (fun _ => 0))), (q44, .inl (k44, 900, .inl (fun _ => 0)))] := hD
  have hK : va_K (dC, dI) clz [(k8, .int), (k17, .int), (k26, .int), (k35, .int), (k44, .int)] s := hK
  refine va_putF (pc := 46) (D := (dC, dI)) (ci := 7) (v := .ref q44) (ty := .array .int) (C := "PathTextsModel") (T := F_Model) (N := 35) hx hb hts (fun w h => List.mem_cons_of_mem _ (in_Model w h)) t_Model tk_Model n_Model hown hK hP hD hS 0 rfl rfl 8 (by decide) (hts _ (List.mem_cons_of_mem _ kw_679)) (fun _ h9 => h9) rfl hin rfl (tk_Model 8 (by decide)) rfl rfl (Nat.le_of_ble_eq_true rfl) d_iModel_46 (fun H locs hP hD hS => ?_)
  have hP : va_P (dC, dI) clz [(q_o, .inr (7, [.int 0, .int 0, .ref q8, .int 0, .ref q17, .ref q26, .int 0, .ref q35, .ref q44, .int 0, .null, .int 0, .long 0, .int 0, .int 0, .long 0, .long 0, .long 0, .long 0, .int 0, .long 0, .long 0, .null, .int 0, .null, .int 0, .null, .null, .null, .null, .int 0, .int 0, .null, .int 0, .long 0])), (q8, .inl (k8, 1200, .inl (fun _ => 0))), (q17, .inl (k17, 150, .inl (fun _ => 0))), (q26, .inl (k26, 900, .inl (fun _ => 0))), (q35, .inl (k35, 150, .inl (fun _ => 0))), (q44, .inl (k44, 900, .inl (fun _ => 0)))] H := hP
  have hD : va_D A [(q_o, .inr (7, [.int 0, .int 0, .ref q8, .int 0, .ref q17, .ref q26, .int 0, .ref q35, .ref q44, .int 0, .null, .int 0, .long 0, .int 0, .int 0, .long 0, .long 0, .long 0, .long 0, .int 0, .long 0, .long 0, .null, .int 0, .null, .int 0, .null, .null, .null, .null, .int 0, .int 0, .null, .int 0, .long 0])), (q8, .inl (k8, 1200, .inl (fun _ => 0))), (q17, .inl (k17, 150, .inl (fun _ => 0))), (q26, .inl (k26, 900, .inl (fun _ => 0))), (q35, .inl (k35, 150, .inl (fun _ => 0))), (q44, .inl (k44, 900, .inl (fun _ => 0)))] := hD
  refine lv_aload_n (pc := 49) hx hb d_iModel_49 rfl (lv_at hl 0 rfl) ?_
  refine lv_bipush (pc := 50) (v := (54 : Int32)) hx hb d_iModel_50 (by decide) ?_
  refine va_newa (pc := 52) (atype := .long) (ty := .long) (a0 := (54, .inr (.inl (fun _ => 0)))) hx hb (hts _ (List.mem_cons_of_mem _ kw_70)) rfl hK hP hD hS hA (fun _ => rfl) (by decide) (N' := 54) (by decide) (by decide) (Nat.le_of_ble_eq_true rfl) (Nat.le_of_ble_eq_true rfl) d_iModel_52 (fun q52 k52 H hK hP hD hS => ?_)
  have hP : va_P (dC, dI) clz [(q_o, .inr (7, [.int 0, .int 0, .ref q8, .int 0, .ref q17, .ref q26, .int 0, .ref q35, .ref q44, .int 0, .null, .int 0, .long 0, .int 0, .int 0, .long 0, .long 0, .long 0, .long 0, .int 0, .long 0, .long 0, .null, .int 0, .null, .int 0, .null, .null, .null, .null, .int 0, .int 0, .null, .int 0, .long 0])), (q8, .inl (k8, 1200, .inl (fun _ => 0))), (q17, .inl (k17, 150, .inl (fun _ => 0))), (q26, .inl (k26, 900, .inl (fun _ => 0))), (q35, .inl (k35, 150, .inl (fun _ => 0))), (q44, .inl (k44, 900, .inl (fun _ => 0))), (q52, .inl (k52, 54, .inr (.inl (fun _ => 0))))] H := hP
  have hD : va_D A [(q_o, .inr (7, [.int 0, .int 0, .ref q8, .int 0, .ref q17, .ref q26, .int 0, .ref q35, .ref q44, .int 0, .null, .int 0, .long 0, .int 0, .int 0, .long 0, .long 0, .long 0, .long 0, .int 0, .long 0, .long 0, .null, .int 0, .null, .int 0, .null, .null, .null, .null, .int 0, .int 0, .null, .int 0, .long 0])), (q8, .inl (k8, 1200, .inl (fun _ => 0))), (q17, .inl (k17, 150, .inl (fun _ => 0))), (q26, .inl (k26, 900, .inl (fun _ => 0))), (q35, .inl (k35, 150, .inl (fun _ => 0))), (q44, .inl (k44, 900, .inl (fun _ => 0))), (q52, .inl (k52, 54, .inr (.inl (fun _ => 0))))] := hD
  have hK : va_K (dC, dI) clz [(k8, .int), (k17, .int), (k26, .int), (k35, .int), (k44, .int), (k52, .long)] s := hK
  refine va_putF (pc := 54) (D := (dC, dI)) (ci := 7) (v := .ref q52) (ty := .array .long) (C := "PathTextsModel") (T := F_Model) (N := 35) hx hb hts (fun w h => List.mem_cons_of_mem _ (in_Model w h)) t_Model tk_Model n_Model hown hK hP hD hS 0 rfl rfl 10 (by decide) (hts _ (List.mem_cons_of_mem _ kw_681)) (fun _ h9 => h9) rfl hin rfl (tk_Model 10 (by decide)) rfl rfl (Nat.le_of_ble_eq_true rfl) d_iModel_54 (fun H locs hP hD hS => ?_)
  have hP : va_P (dC, dI) clz [(q_o, .inr (7, [.int 0, .int 0, .ref q8, .int 0, .ref q17, .ref q26, .int 0, .ref q35, .ref q44, .int 0, .ref q52, .int 0, .long 0, .int 0, .int 0, .long 0, .long 0, .long 0, .long 0, .int 0, .long 0, .long 0, .null, .int 0, .null, .int 0, .null, .null, .null, .null, .int 0, .int 0, .null, .int 0, .long 0])), (q8, .inl (k8, 1200, .inl (fun _ => 0))), (q17, .inl (k17, 150, .inl (fun _ => 0))), (q26, .inl (k26, 900, .inl (fun _ => 0))), (q35, .inl (k35, 150, .inl (fun _ => 0))), (q44, .inl (k44, 900, .inl (fun _ => 0))), (q52, .inl (k52, 54, .inr (.inl (fun _ => 0))))] H := hP
  have hD : va_D A [(q_o, .inr (7, [.int 0, .int 0, .ref q8, .int 0, .ref q17, .ref q26, .int 0, .ref q35, .ref q44, .int 0, .ref q52, .int 0, .long 0, .int 0, .int 0, .long 0, .long 0, .long 0, .long 0, .int 0, .long 0, .long 0, .null, .int 0, .null, .int 0, .null, .null, .null, .null, .int 0, .int 0, .null, .int 0, .long 0])), (q8, .inl (k8, 1200, .inl (fun _ => 0))), (q17, .inl (k17, 150, .inl (fun _ => 0))), (q26, .inl (k26, 900, .inl (fun _ => 0))), (q35, .inl (k35, 150, .inl (fun _ => 0))), (q44, .inl (k44, 900, .inl (fun _ => 0))), (q52, .inl (k52, 54, .inr (.inl (fun _ => 0))))] := hD
  refine lv_aload_n (pc := 57) hx hb d_iModel_57 rfl (lv_at hl 0 rfl) ?_
  refine lv_bipush (pc := 58) (v := (6 : Int32)) hx hb d_iModel_58 (by decide) ?_
  refine va_newa (pc := 60) (atype := .long) (ty := .long) (a0 := (6, .inr (.inl (fun _ => 0)))) hx hb (hts _ (List.mem_cons_of_mem _ kw_70)) rfl hK hP hD hS hA (fun _ => rfl) (by decide) (N' := 6) (by decide) (by decide) (Nat.le_of_ble_eq_true rfl) (Nat.le_of_ble_eq_true rfl) d_iModel_60 (fun q60 k60 H hK hP hD hS => ?_)
  have hP : va_P (dC, dI) clz [(q_o, .inr (7, [.int 0, .int 0, .ref q8, .int 0, .ref q17, .ref q26, .int 0, .ref q35, .ref q44, .int 0, .ref q52, .int 0, .long 0, .int 0, .int 0, .long 0, .long 0, .long 0, .long 0, .int 0, .long 0, .long 0, .null, .int 0, .null, .int 0, .null, .null, .null, .null, .int 0, .int 0, .null, .int 0, .long 0])), (q8, .inl (k8, 1200, .inl (fun _ => 0))), (q17, .inl (k17, 150, .inl (fun _ => 0))), (q26, .inl (k26, 900, .inl (fun _ => 0))), (q35, .inl (k35, 150, .inl (fun _ => 0))), (q44, .inl (k44, 900, .inl (fun _ => 0))), (q52, .inl (k52, 54, .inr (.inl (fun _ => 0)))), (q60, .inl (k60, 6, .inr (.inl (fun _ => 0))))] H := hP
  have hD : va_D A [(q_o, .inr (7, [.int 0, .int 0, .ref q8, .int 0, .ref q17, .ref q26, .int 0, .ref q35, .ref q44, .int 0, .ref q52, .int 0, .long 0, .int 0, .int 0, .long 0, .long 0, .long 0, .long 0, .int 0, .long 0, .long 0, .null, .int 0, .null, .int 0, .null, .null, .null, .null, .int 0, .int 0, .null, .int 0, .long 0])), (q8, .inl (k8, 1200, .inl (fun _ => 0))), (q17, .inl (k17, 150, .inl (fun _ => 0))), (q26, .inl (k26, 900, .inl (fun _ => 0))), (q35, .inl (k35, 150, .inl (fun _ => 0))), (q44, .inl (k44, 900, .inl (fun _ => 0))), (q52, .inl (k52, 54, .inr (.inl (fun _ => 0)))), (q60, .inl (k60, 6, .inr (.inl (fun _ => 0))))] := hD
  have hK : va_K (dC, dI) clz [(k8, .int), (k17, .int), (k26, .int), (k35, .int), (k44, .int), (k52, .long), (k60, .long)] s := hK
  refine va_putF (pc := 62) (D := (dC, dI)) (ci := 7) (v := .ref q60) (ty := .array .long) (C := "PathTextsModel") (T := F_Model) (N := 35) hx hb hts (fun w h => List.mem_cons_of_mem _ (in_Model w h)) t_Model tk_Model n_Model hown hK hP hD hS 0 rfl rfl 22 (by decide) (hts _ (List.mem_cons_of_mem _ kw_693)) (fun _ h9 => h9) rfl hin rfl (tk_Model 22 (by decide)) rfl rfl (Nat.le_of_ble_eq_true rfl) d_iModel_62 (fun H locs hP hD hS => ?_)
  have hP : va_P (dC, dI) clz [(q_o, .inr (7, [.int 0, .int 0, .ref q8, .int 0, .ref q17, .ref q26, .int 0, .ref q35, .ref q44, .int 0, .ref q52, .int 0, .long 0, .int 0, .int 0, .long 0, .long 0, .long 0, .long 0, .int 0, .long 0, .long 0, .ref q60, .int 0, .null, .int 0, .null, .null, .null, .null, .int 0, .int 0, .null, .int 0, .long 0])), (q8, .inl (k8, 1200, .inl (fun _ => 0))), (q17, .inl (k17, 150, .inl (fun _ => 0))), (q26, .inl (k26, 900, .inl (fun _ => 0))), (q35, .inl (k35, 150, .inl (fun _ => 0))), (q44, .inl (k44, 900, .inl (fun _ => 0))), (q52, .inl (k52, 54, .inr (.inl (fun _ => 0)))), (q60, .inl (k60, 6, .inr (.inl (fun _ => 0))))] H := hP
  have hD : va_D A [(q_o, .inr (7, [.int 0, .int 0, .ref q8, .int 0, .ref q17, .ref q26, .int 0, .ref q35, .ref q44, .int 0, .ref q52, .int 0, .long 0, .int 0, .int 0, .long 0, .long 0, .long 0, .long 0, .int 0, .long 0, .long 0, .ref q60, .int 0, .null, .int 0, .null, .null, .null, .null, .int 0, .int 0, .null, .int 0, .long 0])), (q8, .inl (k8, 1200, .inl (fun _ => 0))), (q17, .inl (k17, 150, .inl (fun _ => 0))), (q26, .inl (k26, 900, .inl (fun _ => 0))), (q35, .inl (k35, 150, .inl (fun _ => 0))), (q44, .inl (k44, 900, .inl (fun _ => 0))), (q52, .inl (k52, 54, .inr (.inl (fun _ => 0)))), (q60, .inl (k60, 6, .inr (.inl (fun _ => 0))))] := hD
  refine lv_aload_n (pc := 65) hx hb d_iModel_65 rfl (lv_at hl 0 rfl) ?_
  refine lv_sipush (pc := 66) (v := (12000 : Int32)) hx hb d_iModel_66 (by decide) ?_
  refine va_newa (pc := 69) (atype := .int) (ty := .int) (a0 := (12000, .inl (fun _ => 0))) hx hb (hts _ (List.mem_cons_of_mem _ kw_159)) rfl hK hP hD hS hA (fun _ => rfl) (by decide) (N' := 12000) (by decide) (by decide) (Nat.le_of_ble_eq_true rfl) (Nat.le_of_ble_eq_true rfl) d_iModel_69 (fun q69 k69 H hK hP hD hS => ?_)
  have hP : va_P (dC, dI) clz [(q_o, .inr (7, [.int 0, .int 0, .ref q8, .int 0, .ref q17, .ref q26, .int 0, .ref q35, .ref q44, .int 0, .ref q52, .int 0, .long 0, .int 0, .int 0, .long 0, .long 0, .long 0, .long 0, .int 0, .long 0, .long 0, .ref q60, .int 0, .null, .int 0, .null, .null, .null, .null, .int 0, .int 0, .null, .int 0, .long 0])), (q8, .inl (k8, 1200, .inl (fun _ => 0))), (q17, .inl (k17, 150, .inl (fun _ => 0))), (q26, .inl (k26, 900, .inl (fun _ => 0))), (q35, .inl (k35, 150, .inl (fun _ => 0))), (q44, .inl (k44, 900, .inl (fun _ => 0))), (q52, .inl (k52, 54, .inr (.inl (fun _ => 0)))), (q60, .inl (k60, 6, .inr (.inl (fun _ => 0)))), (q69, .inl (k69, 12000, .inl (fun _ => 0)))] H := hP
  have hD : va_D A [(q_o, .inr (7, [.int 0, .int 0, .ref q8, .int 0, .ref q17, .ref q26, .int 0, .ref q35, .ref q44, .int 0, .ref q52, .int 0, .long 0, .int 0, .int 0, .long 0, .long 0, .long 0, .long 0, .int 0, .long 0, .long 0, .ref q60, .int 0, .null, .int 0, .null, .null, .null, .null, .int 0, .int 0, .null, .int 0, .long 0])), (q8, .inl (k8, 1200, .inl (fun _ => 0))), (q17, .inl (k17, 150, .inl (fun _ => 0))), (q26, .inl (k26, 900, .inl (fun _ => 0))), (q35, .inl (k35, 150, .inl (fun _ => 0))), (q44, .inl (k44, 900, .inl (fun _ => 0))), (q52, .inl (k52, 54, .inr (.inl (fun _ => 0)))), (q60, .inl (k60, 6, .inr (.inl (fun _ => 0)))), (q69, .inl (k69, 12000, .inl (fun _ => 0)))] := hD
  have hK : va_K (dC, dI) clz [(k8, .int), (k17, .int), (k26, .int), (k35, .int), (k44, .int), (k52, .long), (k60, .long), (k69, .int)] s := hK
  refine va_putF (pc := 71) (D := (dC, dI)) (ci := 7) (v := .ref q69) (ty := .array .int) (C := "PathTextsModel") (T := F_Model) (N := 35) hx hb hts (fun w h => List.mem_cons_of_mem _ (in_Model w h)) t_Model tk_Model n_Model hown hK hP hD hS 0 rfl rfl 24 (by decide) (hts _ (List.mem_cons_of_mem _ kw_695)) (fun _ h9 => h9) rfl hin rfl (tk_Model 24 (by decide)) rfl rfl (Nat.le_of_ble_eq_true rfl) d_iModel_71 (fun H locs hP hD hS => ?_)
  have hP : va_P (dC, dI) clz [(q_o, .inr (7, [.int 0, .int 0, .ref q8, .int 0, .ref q17, .ref q26, .int 0, .ref q35, .ref q44, .int 0, .ref q52, .int 0, .long 0, .int 0, .int 0, .long 0, .long 0, .long 0, .long 0, .int 0, .long 0, .long 0, .ref q60, .int 0, .ref q69, .int 0, .null, .null, .null, .null, .int 0, .int 0, .null, .int 0, .long 0])), (q8, .inl (k8, 1200, .inl (fun _ => 0))), (q17, .inl (k17, 150, .inl (fun _ => 0))), (q26, .inl (k26, 900, .inl (fun _ => 0))), (q35, .inl (k35, 150, .inl (fun _ => 0))), (q44, .inl (k44, 900, .inl (fun _ => 0))), (q52, .inl (k52, 54, .inr (.inl (fun _ => 0)))), (q60, .inl (k60, 6, .inr (.inl (fun _ => 0)))), (q69, .inl (k69, 12000, .inl (fun _ => 0)))] H := hP
  have hD : va_D A [(q_o, .inr (7, [.int 0, .int 0, .ref q8, .int 0, .ref q17, .ref q26, .int 0, .ref q35, .ref q44, .int 0, .ref q52, .int 0, .long 0, .int 0, .int 0, .long 0, .long 0, .long 0, .long 0, .int 0, .long 0, .long 0, .ref q60, .int 0, .ref q69, .int 0, .null, .null, .null, .null, .int 0, .int 0, .null, .int 0, .long 0])), (q8, .inl (k8, 1200, .inl (fun _ => 0))), (q17, .inl (k17, 150, .inl (fun _ => 0))), (q26, .inl (k26, 900, .inl (fun _ => 0))), (q35, .inl (k35, 150, .inl (fun _ => 0))), (q44, .inl (k44, 900, .inl (fun _ => 0))), (q52, .inl (k52, 54, .inr (.inl (fun _ => 0)))), (q60, .inl (k60, 6, .inr (.inl (fun _ => 0)))), (q69, .inl (k69, 12000, .inl (fun _ => 0)))] := hD
  refine lv_aload_n (pc := 74) hx hb d_iModel_74 rfl (lv_at hl 0 rfl) ?_
  refine lv_sipush (pc := 75) (v := (2700 : Int32)) hx hb d_iModel_75 (by decide) ?_
  refine va_newa (pc := 78) (atype := .int) (ty := .int) (a0 := (2700, .inl (fun _ => 0))) hx hb (hts _ (List.mem_cons_of_mem _ kw_159)) rfl hK hP hD hS hA (fun _ => rfl) (by decide) (N' := 2700) (by decide) (by decide) (Nat.le_of_ble_eq_true rfl) (Nat.le_of_ble_eq_true rfl) d_iModel_78 (fun q78 k78 H hK hP hD hS => ?_)
  have hP : va_P (dC, dI) clz [(q_o, .inr (7, [.int 0, .int 0, .ref q8, .int 0, .ref q17, .ref q26, .int 0, .ref q35, .ref q44, .int 0, .ref q52, .int 0, .long 0, .int 0, .int 0, .long 0, .long 0, .long 0, .long 0, .int 0, .long 0, .long 0, .ref q60, .int 0, .ref q69, .int 0, .null, .null, .null, .null, .int 0, .int 0, .null, .int 0, .long 0])), (q8, .inl (k8, 1200, .inl (fun _ => 0))), (q17, .inl (k17, 150, .inl (fun _ => 0))), (q26, .inl (k26, 900, .inl (fun _ => 0))), (q35, .inl (k35, 150, .inl (fun _ => 0))), (q44, .inl (k44, 900, .inl (fun _ => 0))), (q52, .inl (k52, 54, .inr (.inl (fun _ => 0)))), (q60, .inl (k60, 6, .inr (.inl (fun _ => 0)))), (q69, .inl (k69, 12000, .inl (fun _ => 0))), (q78, .inl (k78, 2700, .inl (fun _ => 0)))] H := hP
  have hD : va_D A [(q_o, .inr (7, [.int 0, .int 0, .ref q8, .int 0, .ref q17, .ref q26, .int 0, .ref q35, .ref q44, .int 0, .ref q52, .int 0, .long 0, .int 0, .int 0, .long 0, .long 0, .long 0, .long 0, .int 0, .long 0, .long 0, .ref q60, .int 0, .ref q69, .int 0, .null, .null, .null, .null, .int 0, .int 0, .null, .int 0, .long 0])), (q8, .inl (k8, 1200, .inl (fun _ => 0))), (q17, .inl (k17, 150, .inl (fun _ => 0))), (q26, .inl (k26, 900, .inl (fun _ => 0))), (q35, .inl (k35, 150, .inl (fun _ => 0))), (q44, .inl (k44, 900, .inl (fun _ => 0))), (q52, .inl (k52, 54, .inr (.inl (fun _ => 0)))), (q60, .inl (k60, 6, .inr (.inl (fun _ => 0)))), (q69, .inl (k69, 12000, .inl (fun _ => 0))), (q78, .inl (k78, 2700, .inl (fun _ => 0)))] := hD
  have hK : va_K (dC, dI) clz [(k8, .int), (k17, .int), (k26, .int), (k35, .int), (k44, .int), (k52, .long), (k60, .long), (k69, .int), (k78, .int)] s := hK
  refine va_putF (pc := 80) (D := (dC, dI)) (ci := 7) (v := .ref q78) (ty := .array .int) (C := "PathTextsModel") (T := F_Model) (N := 35) hx hb hts (fun w h => List.mem_cons_of_mem _ (in_Model w h)) t_Model tk_Model n_Model hown hK hP hD hS 0 rfl rfl 26 (by decide) (hts _ (List.mem_cons_of_mem _ kw_697)) (fun _ h9 => h9) rfl hin rfl (tk_Model 26 (by decide)) rfl rfl (Nat.le_of_ble_eq_true rfl) d_iModel_80 (fun H locs hP hD hS => ?_)
  have hP : va_P (dC, dI) clz [(q_o, .inr (7, [.int 0, .int 0, .ref q8, .int 0, .ref q17, .ref q26, .int 0, .ref q35, .ref q44, .int 0, .ref q52, .int 0, .long 0, .int 0, .int 0, .long 0, .long 0, .long 0, .long 0, .int 0, .long 0, .long 0, .ref q60, .int 0, .ref q69, .int 0, .ref q78, .null, .null, .null, .int 0, .int 0, .null, .int 0, .long 0])), (q8, .inl (k8, 1200, .inl (fun _ => 0))), (q17, .inl (k17, 150, .inl (fun _ => 0))), (q26, .inl (k26, 900, .inl (fun _ => 0))), (q35, .inl (k35, 150, .inl (fun _ => 0))), (q44, .inl (k44, 900, .inl (fun _ => 0))), (q52, .inl (k52, 54, .inr (.inl (fun _ => 0)))), (q60, .inl (k60, 6, .inr (.inl (fun _ => 0)))), (q69, .inl (k69, 12000, .inl (fun _ => 0))), (q78, .inl (k78, 2700, .inl (fun _ => 0)))] H := hP
  have hD : va_D A [(q_o, .inr (7, [.int 0, .int 0, .ref q8, .int 0, .ref q17, .ref q26, .int 0, .ref q35, .ref q44, .int 0, .ref q52, .int 0, .long 0, .int 0, .int 0, .long 0, .long 0, .long 0, .long 0, .int 0, .long 0, .long 0, .ref q60, .int 0, .ref q69, .int 0, .ref q78, .null, .null, .null, .int 0, .int 0, .null, .int 0, .long 0])), (q8, .inl (k8, 1200, .inl (fun _ => 0))), (q17, .inl (k17, 150, .inl (fun _ => 0))), (q26, .inl (k26, 900, .inl (fun _ => 0))), (q35, .inl (k35, 150, .inl (fun _ => 0))), (q44, .inl (k44, 900, .inl (fun _ => 0))), (q52, .inl (k52, 54, .inr (.inl (fun _ => 0)))), (q60, .inl (k60, 6, .inr (.inl (fun _ => 0)))), (q69, .inl (k69, 12000, .inl (fun _ => 0))), (q78, .inl (k78, 2700, .inl (fun _ => 0)))] := hD
  refine lv_aload_n (pc := 83) hx hb d_iModel_83 rfl (lv_at hl 0 rfl) ?_
  refine lv_sipush (pc := 84) (v := (2700 : Int32)) hx hb d_iModel_84 (by decide) ?_
  refine va_newa (pc := 87) (atype := .int) (ty := .int) (a0 := (2700, .inl (fun _ => 0))) hx hb (hts _ (List.mem_cons_of_mem _ kw_159)) rfl hK hP hD hS hA (fun _ => rfl) (by decide) (N' := 2700) (by decide) (by decide) (Nat.le_of_ble_eq_true rfl) (Nat.le_of_ble_eq_true rfl) d_iModel_87 (fun q87 k87 H hK hP hD hS => ?_)
  have hP : va_P (dC, dI) clz [(q_o, .inr (7, [.int 0, .int 0, .ref q8, .int 0, .ref q17, .ref q26, .int 0, .ref q35, .ref q44, .int 0, .ref q52, .int 0, .long 0, .int 0, .int 0, .long 0, .long 0, .long 0, .long 0, .int 0, .long 0, .long 0, .ref q60, .int 0, .ref q69, .int 0, .ref q78, .null, .null, .null, .int 0, .int 0, .null, .int 0, .long 0])), (q8, .inl (k8, 1200, .inl (fun _ => 0))), (q17, .inl (k17, 150, .inl (fun _ => 0))), (q26, .inl (k26, 900, .inl (fun _ => 0))), (q35, .inl (k35, 150, .inl (fun _ => 0))), (q44, .inl (k44, 900, .inl (fun _ => 0))), (q52, .inl (k52, 54, .inr (.inl (fun _ => 0)))), (q60, .inl (k60, 6, .inr (.inl (fun _ => 0)))), (q69, .inl (k69, 12000, .inl (fun _ => 0))), (q78, .inl (k78, 2700, .inl (fun _ => 0))), (q87, .inl (k87, 2700, .inl (fun _ => 0)))] H := hP
  have hD : va_D A [(q_o, .inr (7, [.int 0, .int 0, .ref q8, .int 0, .ref q17, .ref q26, .int 0, .ref q35, .ref q44, .int 0, .ref q52, .int 0, .long 0, .int 0, .int 0, .long 0, .long 0, .long 0, .long 0, .int 0, .long 0, .long 0, .ref q60, .int 0, .ref q69, .int 0, .ref q78, .null, .null, .null, .int 0, .int 0, .null, .int 0, .long 0])), (q8, .inl (k8, 1200, .inl (fun _ => 0))), (q17, .inl (k17, 150, .inl (fun _ => 0))), (q26, .inl (k26, 900, .inl (fun _ => 0))), (q35, .inl (k35, 150, .inl (fun _ => 0))), (q44, .inl (k44, 900, .inl (fun _ => 0))), (q52, .inl (k52, 54, .inr (.inl (fun _ => 0)))), (q60, .inl (k60, 6, .inr (.inl (fun _ => 0)))), (q69, .inl (k69, 12000, .inl (fun _ => 0))), (q78, .inl (k78, 2700, .inl (fun _ => 0))), (q87, .inl (k87, 2700, .inl (fun _ => 0)))] := hD
  have hK : va_K (dC, dI) clz [(k8, .int), (k17, .int), (k26, .int), (k35, .int), (k44, .int), (k52, .long), (k60, .long), (k69, .int), (k78, .int), (k87, .int)] s := hK
  refine va_putF (pc := 89) (D := (dC, dI)) (ci := 7) (v := .ref q87) (ty := .array .int) (C := "PathTextsModel") (T := F_Model) (N := 35) hx hb hts (fun w h => List.mem_cons_of_mem _ (in_Model w h)) t_Model tk_Model n_Model hown hK hP hD hS 0 rfl rfl 27 (by decide) (hts _ (List.mem_cons_of_mem _ kw_698)) (fun _ h9 => h9) rfl hin rfl (tk_Model 27 (by decide)) rfl rfl (Nat.le_of_ble_eq_true rfl) d_iModel_89 (fun H locs hP hD hS => ?_)
  have hP : va_P (dC, dI) clz [(q_o, .inr (7, [.int 0, .int 0, .ref q8, .int 0, .ref q17, .ref q26, .int 0, .ref q35, .ref q44, .int 0, .ref q52, .int 0, .long 0, .int 0, .int 0, .long 0, .long 0, .long 0, .long 0, .int 0, .long 0, .long 0, .ref q60, .int 0, .ref q69, .int 0, .ref q78, .ref q87, .null, .null, .int 0, .int 0, .null, .int 0, .long 0])), (q8, .inl (k8, 1200, .inl (fun _ => 0))), (q17, .inl (k17, 150, .inl (fun _ => 0))), (q26, .inl (k26, 900, .inl (fun _ => 0))), (q35, .inl (k35, 150, .inl (fun _ => 0))), (q44, .inl (k44, 900, .inl (fun _ => 0))), (q52, .inl (k52, 54, .inr (.inl (fun _ => 0)))), (q60, .inl (k60, 6, .inr (.inl (fun _ => 0)))), (q69, .inl (k69, 12000, .inl (fun _ => 0))), (q78, .inl (k78, 2700, .inl (fun _ => 0))), (q87, .inl (k87, 2700, .inl (fun _ => 0)))] H := hP
  have hD : va_D A [(q_o, .inr (7, [.int 0, .int 0, .ref q8, .int 0, .ref q17, .ref q26, .int 0, .ref q35, .ref q44, .int 0, .ref q52, .int 0, .long 0, .int 0, .int 0, .long 0, .long 0, .long 0, .long 0, .int 0, .long 0, .long 0, .ref q60, .int 0, .ref q69, .int 0, .ref q78, .ref q87, .null, .null, .int 0, .int 0, .null, .int 0, .long 0])), (q8, .inl (k8, 1200, .inl (fun _ => 0))), (q17, .inl (k17, 150, .inl (fun _ => 0))), (q26, .inl (k26, 900, .inl (fun _ => 0))), (q35, .inl (k35, 150, .inl (fun _ => 0))), (q44, .inl (k44, 900, .inl (fun _ => 0))), (q52, .inl (k52, 54, .inr (.inl (fun _ => 0)))), (q60, .inl (k60, 6, .inr (.inl (fun _ => 0)))), (q69, .inl (k69, 12000, .inl (fun _ => 0))), (q78, .inl (k78, 2700, .inl (fun _ => 0))), (q87, .inl (k87, 2700, .inl (fun _ => 0)))] := hD
  refine lv_aload_n (pc := 92) hx hb d_iModel_92 rfl (lv_at hl 0 rfl) ?_
  refine lv_sipush (pc := 93) (v := (2700 : Int32)) hx hb d_iModel_93 (by decide) ?_
  refine va_newa (pc := 96) (atype := .int) (ty := .int) (a0 := (2700, .inl (fun _ => 0))) hx hb (hts _ (List.mem_cons_of_mem _ kw_159)) rfl hK hP hD hS hA (fun _ => rfl) (by decide) (N' := 2700) (by decide) (by decide) (Nat.le_of_ble_eq_true rfl) (Nat.le_of_ble_eq_true rfl) d_iModel_96 (fun q96 k96 H hK hP hD hS => ?_)
  have hP : va_P (dC, dI) clz [(q_o, .inr (7, [.int 0, .int 0, .ref q8, .int 0, .ref q17, .ref q26, .int 0, .ref q35, .ref q44, .int 0, .ref q52, .int 0, .long 0, .int 0, .int 0, .long 0, .long 0, .long 0, .long 0, .int 0, .long 0, .long 0, .ref q60, .int 0, .ref q69, .int 0, .ref q78, .ref q87, .null, .null, .int 0, .int 0, .null, .int 0, .long 0])), (q8, .inl (k8, 1200, .inl (fun _ => 0))), (q17, .inl (k17, 150, .inl (fun _ => 0))), (q26, .inl (k26, 900, .inl (fun _ => 0))), (q35, .inl (k35, 150, .inl (fun _ => 0))), (q44, .inl (k44, 900, .inl (fun _ => 0))), (q52, .inl (k52, 54, .inr (.inl (fun _ => 0)))), (q60, .inl (k60, 6, .inr (.inl (fun _ => 0)))), (q69, .inl (k69, 12000, .inl (fun _ => 0))), (q78, .inl (k78, 2700, .inl (fun _ => 0))), (q87, .inl (k87, 2700, .inl (fun _ => 0))), (q96, .inl (k96, 2700, .inl (fun _ => 0)))] H := hP
  have hD : va_D A [(q_o, .inr (7, [.int 0, .int 0, .ref q8, .int 0, .ref q17, .ref q26, .int 0, .ref q35, .ref q44, .int 0, .ref q52, .int 0, .long 0, .int 0, .int 0, .long 0, .long 0, .long 0, .long 0, .int 0, .long 0, .long 0, .ref q60, .int 0, .ref q69, .int 0, .ref q78, .ref q87, .null, .null, .int 0, .int 0, .null, .int 0, .long 0])), (q8, .inl (k8, 1200, .inl (fun _ => 0))), (q17, .inl (k17, 150, .inl (fun _ => 0))), (q26, .inl (k26, 900, .inl (fun _ => 0))), (q35, .inl (k35, 150, .inl (fun _ => 0))), (q44, .inl (k44, 900, .inl (fun _ => 0))), (q52, .inl (k52, 54, .inr (.inl (fun _ => 0)))), (q60, .inl (k60, 6, .inr (.inl (fun _ => 0)))), (q69, .inl (k69, 12000, .inl (fun _ => 0))), (q78, .inl (k78, 2700, .inl (fun _ => 0))), (q87, .inl (k87, 2700, .inl (fun _ => 0))), (q96, .inl (k96, 2700, .inl (fun _ => 0)))] := hD
  have hK : va_K (dC, dI) clz [(k8, .int), (k17, .int), (k26, .int), (k35, .int), (k44, .int), (k52, .long), (k60, .long), (k69, .int), (k78, .int), (k87, .int), (k96, .int)] s := hK
  refine va_putF (pc := 98) (D := (dC, dI)) (ci := 7) (v := .ref q96) (ty := .array .int) (C := "PathTextsModel") (T := F_Model) (N := 35) hx hb hts (fun w h => List.mem_cons_of_mem _ (in_Model w h)) t_Model tk_Model n_Model hown hK hP hD hS 0 rfl rfl 28 (by decide) (hts _ (List.mem_cons_of_mem _ kw_699)) (fun _ h9 => h9) rfl hin rfl (tk_Model 28 (by decide)) rfl rfl (Nat.le_of_ble_eq_true rfl) d_iModel_98 (fun H locs hP hD hS => ?_)
  have hP : va_P (dC, dI) clz [(q_o, .inr (7, [.int 0, .int 0, .ref q8, .int 0, .ref q17, .ref q26, .int 0, .ref q35, .ref q44, .int 0, .ref q52, .int 0, .long 0, .int 0, .int 0, .long 0, .long 0, .long 0, .long 0, .int 0, .long 0, .long 0, .ref q60, .int 0, .ref q69, .int 0, .ref q78, .ref q87, .ref q96, .null, .int 0, .int 0, .null, .int 0, .long 0])), (q8, .inl (k8, 1200, .inl (fun _ => 0))), (q17, .inl (k17, 150, .inl (fun _ => 0))), (q26, .inl (k26, 900, .inl (fun _ => 0))), (q35, .inl (k35, 150, .inl (fun _ => 0))), (q44, .inl (k44, 900, .inl (fun _ => 0))), (q52, .inl (k52, 54, .inr (.inl (fun _ => 0)))), (q60, .inl (k60, 6, .inr (.inl (fun _ => 0)))), (q69, .inl (k69, 12000, .inl (fun _ => 0))), (q78, .inl (k78, 2700, .inl (fun _ => 0))), (q87, .inl (k87, 2700, .inl (fun _ => 0))), (q96, .inl (k96, 2700, .inl (fun _ => 0)))] H := hP
  have hD : va_D A [(q_o, .inr (7, [.int 0, .int 0, .ref q8, .int 0, .ref q17, .ref q26, .int 0, .ref q35, .ref q44, .int 0, .ref q52, .int 0, .long 0, .int 0, .int 0, .long 0, .long 0, .long 0, .long 0, .int 0, .long 0, .long 0, .ref q60, .int 0, .ref q69, .int 0, .ref q78, .ref q87, .ref q96, .null, .int 0, .int 0, .null, .int 0, .long 0])), (q8, .inl (k8, 1200, .inl (fun _ => 0))), (q17, .inl (k17, 150, .inl (fun _ => 0))), (q26, .inl (k26, 900, .inl (fun _ => 0))), (q35, .inl (k35, 150, .inl (fun _ => 0))), (q44, .inl (k44, 900, .inl (fun _ => 0))), (q52, .inl (k52, 54, .inr (.inl (fun _ => 0)))), (q60, .inl (k60, 6, .inr (.inl (fun _ => 0)))), (q69, .inl (k69, 12000, .inl (fun _ => 0))), (q78, .inl (k78, 2700, .inl (fun _ => 0))), (q87, .inl (k87, 2700, .inl (fun _ => 0))), (q96, .inl (k96, 2700, .inl (fun _ => 0)))] := hD
  refine lv_aload_n (pc := 101) hx hb d_iModel_101 rfl (lv_at hl 0 rfl) ?_
  refine lv_sipush (pc := 102) (v := (2700 : Int32)) hx hb d_iModel_102 (by decide) ?_
  refine va_newa (pc := 105) (atype := .int) (ty := .int) (a0 := (2700, .inl (fun _ => 0))) hx hb (hts _ (List.mem_cons_of_mem _ kw_159)) rfl hK hP hD hS hA (fun _ => rfl) (by decide) (N' := 2700) (by decide) (by decide) (Nat.le_of_ble_eq_true rfl) (Nat.le_of_ble_eq_true rfl) d_iModel_105 (fun q105 k105 H hK hP hD hS => ?_)
  have hP : va_P (dC, dI) clz [(q_o, .inr (7, [.int 0, .int 0, .ref q8, .int 0, .ref q17, .ref q26, .int 0, .ref q35, .ref q44, .int 0, .ref q52, .int 0, .long 0, .int 0, .int 0, .long 0, .long 0, .long 0, .long 0, .int 0, .long 0, .long 0, .ref q60, .int 0, .ref q69, .int 0, .ref q78, .ref q87, .ref q96, .null, .int 0, .int 0, .null, .int 0, .long 0])), (q8, .inl (k8, 1200, .inl (fun _ => 0))), (q17, .inl (k17, 150, .inl (fun _ => 0))), (q26, .inl (k26, 900, .inl (fun _ => 0))), (q35, .inl (k35, 150, .inl (fun _ => 0))), (q44, .inl (k44, 900, .inl (fun _ => 0))), (q52, .inl (k52, 54, .inr (.inl (fun _ => 0)))), (q60, .inl (k60, 6, .inr (.inl (fun _ => 0)))), (q69, .inl (k69, 12000, .inl (fun _ => 0))), (q78, .inl (k78, 2700, .inl (fun _ => 0))), (q87, .inl (k87, 2700, .inl (fun _ => 0))), (q96, .inl (k96, 2700, .inl (fun _ => 0))), (q105, .inl (k105, 2700, .inl (fun _ => 0)))] H := hP
  have hD : va_D A [(q_o, .inr (7, [.int 0, .int 0, .ref q8, .int 0, .ref q17, .ref q26, .int 0, .ref q35, .ref q44, .int 0, .ref q52, .int 0, .long 0, .int 0, .int 0, .long 0, .long 0, .long 0, .long 0, .int 0, .long 0, .long 0, .ref q60, .int 0, .ref q69, .int 0, .ref q78, .ref q87, .ref q96, .null, .int 0, .int 0, .null, .int 0, .long 0])), (q8, .inl (k8, 1200, .inl (fun _ => 0))), (q17, .inl (k17, 150, .inl (fun _ => 0))), (q26, .inl (k26, 900, .inl (fun _ => 0))), (q35, .inl (k35, 150, .inl (fun _ => 0))), (q44, .inl (k44, 900, .inl (fun _ => 0))), (q52, .inl (k52, 54, .inr (.inl (fun _ => 0)))), (q60, .inl (k60, 6, .inr (.inl (fun _ => 0)))), (q69, .inl (k69, 12000, .inl (fun _ => 0))), (q78, .inl (k78, 2700, .inl (fun _ => 0))), (q87, .inl (k87, 2700, .inl (fun _ => 0))), (q96, .inl (k96, 2700, .inl (fun _ => 0))), (q105, .inl (k105, 2700, .inl (fun _ => 0)))] := hD
  have hK : va_K (dC, dI) clz [(k8, .int), (k17, .int), (k26, .int), (k35, .int), (k44, .int), (k52, .long), (k60, .long), (k69, .int), (k78, .int), (k87, .int), (k96, .int), (k105, .int)] s := hK
  refine va_putF (pc := 107) (D := (dC, dI)) (ci := 7) (v := .ref q105) (ty := .array .int) (C := "PathTextsModel") (T := F_Model) (N := 35) hx hb hts (fun w h => List.mem_cons_of_mem _ (in_Model w h)) t_Model tk_Model n_Model hown hK hP hD hS 0 rfl rfl 29 (by decide) (hts _ (List.mem_cons_of_mem _ kw_700)) (fun _ h9 => h9) rfl hin rfl (tk_Model 29 (by decide)) rfl rfl (Nat.le_of_ble_eq_true rfl) d_iModel_107 (fun H locs hP hD hS => ?_)
  have hP : va_P (dC, dI) clz [(q_o, .inr (7, [.int 0, .int 0, .ref q8, .int 0, .ref q17, .ref q26, .int 0, .ref q35, .ref q44, .int 0, .ref q52, .int 0, .long 0, .int 0, .int 0, .long 0, .long 0, .long 0, .long 0, .int 0, .long 0, .long 0, .ref q60, .int 0, .ref q69, .int 0, .ref q78, .ref q87, .ref q96, .ref q105, .int 0, .int 0, .null, .int 0, .long 0])), (q8, .inl (k8, 1200, .inl (fun _ => 0))), (q17, .inl (k17, 150, .inl (fun _ => 0))), (q26, .inl (k26, 900, .inl (fun _ => 0))), (q35, .inl (k35, 150, .inl (fun _ => 0))), (q44, .inl (k44, 900, .inl (fun _ => 0))), (q52, .inl (k52, 54, .inr (.inl (fun _ => 0)))), (q60, .inl (k60, 6, .inr (.inl (fun _ => 0)))), (q69, .inl (k69, 12000, .inl (fun _ => 0))), (q78, .inl (k78, 2700, .inl (fun _ => 0))), (q87, .inl (k87, 2700, .inl (fun _ => 0))), (q96, .inl (k96, 2700, .inl (fun _ => 0))), (q105, .inl (k105, 2700, .inl (fun _ => 0)))] H := hP
  have hD : va_D A [(q_o, .inr (7, [.int 0, .int 0, .ref q8, .int 0, .ref q17, .ref q26, .int 0, .ref q35, .ref q44, .int 0, .ref q52, .int 0, .long 0, .int 0, .int 0, .long 0, .long 0, .long 0, .long 0, .int 0, .long 0, .long 0, .ref q60, .int 0, .ref q69, .int 0, .ref q78, .ref q87, .ref q96, .ref q105, .int 0, .int 0, .null, .int 0, .long 0])), (q8, .inl (k8, 1200, .inl (fun _ => 0))), (q17, .inl (k17, 150, .inl (fun _ => 0))), (q26, .inl (k26, 900, .inl (fun _ => 0))), (q35, .inl (k35, 150, .inl (fun _ => 0))), (q44, .inl (k44, 900, .inl (fun _ => 0))), (q52, .inl (k52, 54, .inr (.inl (fun _ => 0)))), (q60, .inl (k60, 6, .inr (.inl (fun _ => 0)))), (q69, .inl (k69, 12000, .inl (fun _ => 0))), (q78, .inl (k78, 2700, .inl (fun _ => 0))), (q87, .inl (k87, 2700, .inl (fun _ => 0))), (q96, .inl (k96, 2700, .inl (fun _ => 0))), (q105, .inl (k105, 2700, .inl (fun _ => 0)))] := hD
  refine lv_aload_n (pc := 110) hx hb d_iModel_110 rfl (lv_at hl 0 rfl) ?_
  refine lv_bipush (pc := 111) (v := (64 : Int32)) hx hb d_iModel_111 (by decide) ?_
  refine va_newa (pc := 113) (atype := .int) (ty := .int) (a0 := (64, .inl (fun _ => 0))) hx hb (hts _ (List.mem_cons_of_mem _ kw_159)) rfl hK hP hD hS hA (fun _ => rfl) (by decide) (N' := 64) (by decide) (by decide) (Nat.le_of_ble_eq_true rfl) (Nat.le_of_ble_eq_true rfl) d_iModel_113 (fun q113 k113 H hK hP hD hS => ?_)
  have hP : va_P (dC, dI) clz [(q_o, .inr (7, [.int 0, .int 0, .ref q8, .int 0, .ref q17, .ref q26, .int 0, .ref q35, .ref q44, .int 0, .ref q52, .int 0, .long 0, .int 0, .int 0, .long 0, .long 0, .long 0, .long 0, .int 0, .long 0, .long 0, .ref q60, .int 0, .ref q69, .int 0, .ref q78, .ref q87, .ref q96, .ref q105, .int 0, .int 0, .null, .int 0, .long 0])), (q8, .inl (k8, 1200, .inl (fun _ => 0))), (q17, .inl (k17, 150, .inl (fun _ => 0))), (q26, .inl (k26, 900, .inl (fun _ => 0))), (q35, .inl (k35, 150, .inl (fun _ => 0))), (q44, .inl (k44, 900, .inl (fun _ => 0))), (q52, .inl (k52, 54, .inr (.inl (fun _ => 0)))), (q60, .inl (k60, 6, .inr (.inl (fun _ => 0)))), (q69, .inl (k69, 12000, .inl (fun _ => 0))), (q78, .inl (k78, 2700, .inl (fun _ => 0))), (q87, .inl (k87, 2700, .inl (fun _ => 0))), (q96, .inl (k96, 2700, .inl (fun _ => 0))), (q105, .inl (k105, 2700, .inl (fun _ => 0))), (q113, .inl (k113, 64, .inl (fun _ => 0)))] H := hP
  have hD : va_D A [(q_o, .inr (7, [.int 0, .int 0, .ref q8, .int 0, .ref q17, .ref q26, .int 0, .ref q35, .ref q44, .int 0, .ref q52, .int 0, .long 0, .int 0, .int 0, .long 0, .long 0, .long 0, .long 0, .int 0, .long 0, .long 0, .ref q60, .int 0, .ref q69, .int 0, .ref q78, .ref q87, .ref q96, .ref q105, .int 0, .int 0, .null, .int 0, .long 0])), (q8, .inl (k8, 1200, .inl (fun _ => 0))), (q17, .inl (k17, 150, .inl (fun _ => 0))), (q26, .inl (k26, 900, .inl (fun _ => 0))), (q35, .inl (k35, 150, .inl (fun _ => 0))), (q44, .inl (k44, 900, .inl (fun _ => 0))), (q52, .inl (k52, 54, .inr (.inl (fun _ => 0)))), (q60, .inl (k60, 6, .inr (.inl (fun _ => 0)))), (q69, .inl (k69, 12000, .inl (fun _ => 0))), (q78, .inl (k78, 2700, .inl (fun _ => 0))), (q87, .inl (k87, 2700, .inl (fun _ => 0))), (q96, .inl (k96, 2700, .inl (fun _ => 0))), (q105, .inl (k105, 2700, .inl (fun _ => 0))), (q113, .inl (k113, 64, .inl (fun _ => 0)))] := hD
  have hK : va_K (dC, dI) clz [(k8, .int), (k17, .int), (k26, .int), (k35, .int), (k44, .int), (k52, .long), (k60, .long), (k69, .int), (k78, .int), (k87, .int), (k96, .int), (k105, .int), (k113, .int)] s := hK
  refine va_putF (pc := 115) (D := (dC, dI)) (ci := 7) (v := .ref q113) (ty := .array .int) (C := "PathTextsModel") (T := F_Model) (N := 35) hx hb hts (fun w h => List.mem_cons_of_mem _ (in_Model w h)) t_Model tk_Model n_Model hown hK hP hD hS 0 rfl rfl 32 (by decide) (hts _ (List.mem_cons_of_mem _ kw_703)) (fun _ h9 => h9) rfl hin rfl (tk_Model 32 (by decide)) rfl rfl (Nat.le_of_ble_eq_true rfl) d_iModel_115 (fun H locs hP hD hS => ?_)
  have hP : va_P (dC, dI) clz [(q_o, .inr (7, [.int 0, .int 0, .ref q8, .int 0, .ref q17, .ref q26, .int 0, .ref q35, .ref q44, .int 0, .ref q52, .int 0, .long 0, .int 0, .int 0, .long 0, .long 0, .long 0, .long 0, .int 0, .long 0, .long 0, .ref q60, .int 0, .ref q69, .int 0, .ref q78, .ref q87, .ref q96, .ref q105, .int 0, .int 0, .ref q113, .int 0, .long 0])), (q8, .inl (k8, 1200, .inl (fun _ => 0))), (q17, .inl (k17, 150, .inl (fun _ => 0))), (q26, .inl (k26, 900, .inl (fun _ => 0))), (q35, .inl (k35, 150, .inl (fun _ => 0))), (q44, .inl (k44, 900, .inl (fun _ => 0))), (q52, .inl (k52, 54, .inr (.inl (fun _ => 0)))), (q60, .inl (k60, 6, .inr (.inl (fun _ => 0)))), (q69, .inl (k69, 12000, .inl (fun _ => 0))), (q78, .inl (k78, 2700, .inl (fun _ => 0))), (q87, .inl (k87, 2700, .inl (fun _ => 0))), (q96, .inl (k96, 2700, .inl (fun _ => 0))), (q105, .inl (k105, 2700, .inl (fun _ => 0))), (q113, .inl (k113, 64, .inl (fun _ => 0)))] H := hP
  have hD : va_D A [(q_o, .inr (7, [.int 0, .int 0, .ref q8, .int 0, .ref q17, .ref q26, .int 0, .ref q35, .ref q44, .int 0, .ref q52, .int 0, .long 0, .int 0, .int 0, .long 0, .long 0, .long 0, .long 0, .int 0, .long 0, .long 0, .ref q60, .int 0, .ref q69, .int 0, .ref q78, .ref q87, .ref q96, .ref q105, .int 0, .int 0, .ref q113, .int 0, .long 0])), (q8, .inl (k8, 1200, .inl (fun _ => 0))), (q17, .inl (k17, 150, .inl (fun _ => 0))), (q26, .inl (k26, 900, .inl (fun _ => 0))), (q35, .inl (k35, 150, .inl (fun _ => 0))), (q44, .inl (k44, 900, .inl (fun _ => 0))), (q52, .inl (k52, 54, .inr (.inl (fun _ => 0)))), (q60, .inl (k60, 6, .inr (.inl (fun _ => 0)))), (q69, .inl (k69, 12000, .inl (fun _ => 0))), (q78, .inl (k78, 2700, .inl (fun _ => 0))), (q87, .inl (k87, 2700, .inl (fun _ => 0))), (q96, .inl (k96, 2700, .inl (fun _ => 0))), (q105, .inl (k105, 2700, .inl (fun _ => 0))), (q113, .inl (k113, 64, .inl (fun _ => 0)))] := hD
  refine W.widen (k := 13) (n := 26224) (Nat.le_of_ble_eq_true rfl) (Nat.le_of_ble_eq_true rfl) ?_
  exact W.vret hx hb hr (fun t ht hW => ⟨⟨(), rfl, trivial, q8, q17, q26, q35, q44, q52, q60, q69, q78, q87, q96, q105, q113, k8, k17, k26, k35, k44, k52, k60, k69, k78, k87, k96, k105, k113, by rw [ht]; exact hP, va_K.moved hW.alike hK, hD⟩, hS.F ht⟩) hS.2.2 d_iModel_118
