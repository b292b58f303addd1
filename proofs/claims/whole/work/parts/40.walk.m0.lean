set_option maxHeartbeats 4000000 in
set_option maxRecDepth 100000 in
theorem ct_m_thrown (l : Launch) (dC : Nat → ClassId) (dI : Nat → Nat → Nat) (q_o : Nat) (q_o_text : Nat) (q_o_kinds : Nat) (q_o_numbers : Nat) (q_o_drawnKinds : Nat) (q_o_drawnNumbers : Nat) (q_o_matrix : Nat) (q_o_given : Nat) (q_o_signs : Nat) (q_o_fromX : Nat) (q_o_fromY : Nat) (q_o_toX : Nat) (q_o_toY : Nat) (q_o_points : Nat) (sz : Nat) (v_o_fault : Int32) (v_o_size : Int32) (v_o_commands : Int32) (v_o_drawn : Int32) (v_o_depth : Int32) (v_o_at : Int32) (v_o_value : Int64) (v_o_wrong : Int32) (v_o_wantsMove : Int32) (v_o_x : Int64) (v_o_y : Int64) (v_o_startX : Int64) (v_o_startY : Int64) (v_o_before : Int32) (v_o_turnX : Int64) (v_o_turnY : Int64) (v_o_written : Int32) (v_o_edges : Int32) (v_o_wide : Int32) (v_o_high : Int32) (v_o_behind : Int32) (v_o_whole : Int64) (rv : Int32) (hf : m_thrown v_o_fault = some rv) : Met l y_m_thrown w_m_thrown ({ frames := 0, cells := 0, slots := 0, locals := 0 }) (va_Pc [.ref q_o] (fun U => U.heap.size = sz ∧ va_P (dC, dI) clz [(q_o, .inr (7, f_Model v_o_fault v_o_size q_o_text v_o_commands q_o_kinds q_o_numbers v_o_drawn q_o_drawnKinds q_o_drawnNumbers v_o_depth q_o_matrix v_o_at v_o_value v_o_wrong v_o_wantsMove v_o_x v_o_y v_o_startX v_o_startY v_o_before v_o_turnX v_o_turnY q_o_given v_o_written q_o_signs v_o_edges q_o_fromX q_o_fromY q_o_toX q_o_toY v_o_wide v_o_high q_o_points v_o_behind v_o_whole))] U.heap ∧ va_K (dC, dI) clz [] U ∧ va_D (fun _ => True) [(q_o, .inr (7, f_Model v_o_fault v_o_size q_o_text v_o_commands q_o_kinds q_o_numbers v_o_drawn q_o_drawnKinds q_o_drawnNumbers v_o_depth q_o_matrix v_o_at v_o_value v_o_wrong v_o_wantsMove v_o_x v_o_y v_o_startX v_o_startY v_o_before v_o_turnX v_o_turnY q_o_given v_o_written q_o_signs v_o_edges q_o_fromX q_o_fromY q_o_toX q_o_toY v_o_wide v_o_high q_o_points v_o_behind v_o_whole))])) (va_Qi (fun (r9 : Int32) (_ : Unit) => r9 = rv) (fun _ t => va_P (dC, dI) clz [(q_o, .inr (7, f_Model v_o_fault v_o_size q_o_text v_o_commands q_o_kinds q_o_numbers v_o_drawn q_o_drawnKinds q_o_drawnNumbers v_o_depth q_o_matrix v_o_at v_o_value v_o_wrong v_o_wantsMove v_o_x v_o_y v_o_startX v_o_startY v_o_before v_o_turnX v_o_turnY q_o_given v_o_written q_o_signs v_o_edges q_o_fromX q_o_fromY q_o_toX q_o_toY v_o_wide v_o_high q_o_points v_o_behind v_o_whole))] t.heap ∧ va_K (dC, dI) clz [] t ∧ va_D (va_A [(q_o, .inr (7, f_Model v_o_fault v_o_size q_o_text v_o_commands q_o_kinds q_o_numbers v_o_drawn q_o_drawnKinds q_o_drawnNumbers v_o_depth q_o_matrix v_o_at v_o_value v_o_wrong v_o_wantsMove v_o_x v_o_y v_o_startX v_o_startY v_o_before v_o_turnX v_o_turnY q_o_given v_o_written q_o_signs v_o_edges q_o_fromX q_o_fromY q_o_toX q_o_toY v_o_wide v_o_high q_o_points v_o_behind v_o_whole))] sz) [(q_o, .inr (7, f_Model v_o_fault v_o_size q_o_text v_o_commands q_o_kinds q_o_numbers v_o_drawn q_o_drawnKinds q_o_drawnNumbers v_o_depth q_o_matrix v_o_at v_o_value v_o_wrong v_o_wantsMove v_o_x v_o_y v_o_startX v_o_startY v_o_before v_o_turnX v_o_turnY q_o_given v_o_written q_o_signs v_o_edges q_o_fromX q_o_fromY q_o_toX q_o_toY v_o_wide v_o_high q_o_points v_o_behind v_o_whole))]) (va_A [(q_o, .inr (7, f_Model v_o_fault v_o_size q_o_text v_o_commands q_o_kinds q_o_numbers v_o_drawn q_o_drawnKinds q_o_drawnNumbers v_o_depth q_o_matrix v_o_at v_o_value v_o_wrong v_o_wantsMove v_o_x v_o_y v_o_startX v_o_startY v_o_before v_o_turnX v_o_turnY q_o_given v_o_written q_o_signs v_o_edges q_o_fromX q_o_fromY q_o_toX q_o_toY v_o_wide v_o_high q_o_points v_o_behind v_o_whole))] sz)) 0 0 (va_A [(q_o, .inr (7, f_Model v_o_fault v_o_size q_o_text v_o_commands q_o_kinds q_o_numbers v_o_drawn q_o_drawnKinds q_o_drawnNumbers v_o_depth q_o_matrix v_o_at v_o_value v_o_wrong v_o_wantsMove v_o_x v_o_y v_o_startX v_o_startY v_o_before v_o_turnX v_o_turnY q_o_given v_o_written q_o_signs v_o_edges q_o_fromX q_o_fromY q_o_toX q_o_toY v_o_wide v_o_high q_o_points v_o_behind v_o_whole))] sz) := by
  refine Met.ofW (cc := prog_10_method_2_code) (maxL := 1) (ret := (some .int)) (by decide +kernel) rfl ?_
  intro p e s m args below meth c s₁ B hml hv
  obtain ⟨hargs, hsz, hP, hK, hD0⟩ := hv
  have hx := B.exec
  have hb := B.bytes
  have hr := B.returns
  have hts := atoms_spec (ws := w_m_thrown) B.pre
  have hown : s.vm.findClass "PathTextsModel" = some m.cls := findClass_of_methodNamed B.named
  have hlocks := B.notSynchronized
  subst hsz
  have hD := hD0.self (sz := s.heap.size)
  generalize hAe : va_A [(q_o, .inr (7, f_Model v_o_fault v_o_size q_o_text v_o_commands q_o_kinds q_o_numbers v_o_drawn q_o_drawnKinds q_o_drawnNumbers v_o_depth q_o_matrix v_o_at v_o_value v_o_wrong v_o_wantsMove v_o_x v_o_y v_o_startX v_o_startY v_o_before v_o_turnX v_o_turnY q_o_given v_o_written q_o_signs v_o_edges q_o_fromX q_o_fromY q_o_toX q_o_toY v_o_wide v_o_high q_o_points v_o_behind v_o_whole))] s.heap.size = A at hD ⊢
  have hA : ∀ q : Nat, s.heap.size ≤ q → A q := fun q h => by rw [← hAe]; exact Or.inr h
  clear hAe hD0
  have hS : va_S A s.heap s.heap [] := va_S.rf
  have hl := lv_entry ([.ref q_o]) (n := 1) (Nat.le_of_ble_eq_true rfl)
  have hent : entryFrame m args 1 = F0 m 0 (lg_sl ([.ref q_o]) ++ List.replicate (1 - (lg_sl ([.ref q_o])).length) Slot.unset).toArray [] := by rw [hargs, lg_entry_eq]
  rw [hent]
  clear hent hargs
  generalize (lg_sl ([.ref q_o]) ++ List.replicate (1 - (lg_sl ([.ref q_o])).length) Slot.unset).toArray = ls at hl ⊢
  have hl : lv_has ls 1 [(0, .ref q_o)] := hl
  suffices key : ∀ Q : State → Prop, (∀ (pc : Nat) (H : Heap) (locs : List Loc) (ls : Array Slot), decode prog_10_method_2_code pc = .ok (.ireturn, 1) → va_P (dC, dI) clz [(q_o, .inr (7, f_Model v_o_fault v_o_size q_o_text v_o_commands q_o_kinds q_o_numbers v_o_drawn q_o_drawnKinds q_o_drawnNumbers v_o_depth q_o_matrix v_o_at v_o_value v_o_wrong v_o_wantsMove v_o_x v_o_y v_o_startX v_o_startY v_o_before v_o_turnX v_o_turnY q_o_given v_o_written q_o_signs v_o_edges q_o_fromX q_o_fromY q_o_toX q_o_toY v_o_wide v_o_high q_o_points v_o_behind v_o_whole))] H → va_D A [(q_o, .inr (7, f_Model v_o_fault v_o_size q_o_text v_o_commands q_o_kinds q_o_numbers v_o_drawn q_o_drawnKinds q_o_drawnNumbers v_o_depth q_o_matrix v_o_at v_o_value v_o_wrong v_o_wantsMove v_o_x v_o_y v_o_startX v_o_startY v_o_before v_o_turnX v_o_turnY q_o_given v_o_written q_o_signs v_o_edges q_o_fromX q_o_fromY q_o_toX q_o_toY v_o_wide v_o_high q_o_points v_o_behind v_o_whole))] → va_S A s.heap H locs → W p l e (headSpec w_m_thrown ({ frames := 0, cells := 0, slots := 0, locals := 0 })).room s m args below meth c H locs 0 0 Q (F0 m pc ls [.int rv])) → W p l e (headSpec w_m_thrown ({ frames := 0, cells := 0, slots := 0, locals := 0 })).room s m args below meth c s.heap [] 0 0 Q (F0 m 0 ls []) from key _ (fun pc H locs ls hd hP hD hS => W.iret hx hb hr (fun t ht hW => ⟨⟨rv, (), rfl, rfl, by rw [ht]; exact hP, va_K.moved hW.alike hK, hD⟩, hS.F ht⟩) hS.2.2 hd)
  intro Q hRet
  rw [m_thrown] at hf
  refine lv_aload_n (pc := 0) hx hb d_m_thrown_0 rfl (lv_at hl 0 rfl) ?_
  refine va_get (pc := 1) (D := (dC, dI)) (ci := 7) (v := .int v_o_fault) (C := "PathTextsModel") (T := F_Model) (N := 35) hx hb hts (fun w h => List.mem_cons_of_mem _ (in_Model w h)) hown hK hP 0 rfl rfl 0 (by decide) (hts _ (List.mem_cons_of_mem _ kw_671)) (fun _ h9 => h9) fg_Model_0 d_m_thrown_1 ?_
  have e_0 := kr1 hf
  rw [e_0]
  exact hRet 4 _ _ _ d_m_thrown_4 hP hD hS
set_option maxHeartbeats 4000000 in
set_option maxRecDepth 100000 in
theorem ct_m_in (l : Launch) (dC : Nat → ClassId) (dI : Nat → Nat → Nat) (sz : Nat) (x0 : Int64) (x2 : Int64) (x4 : Int64) (rv : Int32) (hf : m_in x0 x2 x4 = some rv) : Met l y_m_in w_m_in ({ frames := 0, cells := 0, slots := 0, locals := 0 }) (va_Pc [.long x0, .long x2, .long x4] (fun U => U.heap.size = sz ∧ va_P (dC, dI) clz [] U.heap ∧ va_K (dC, dI) clz [] U ∧ va_D (fun _ => True) [])) (va_Qi (fun (r9 : Int32) (_ : Unit) => r9 = rv) (fun _ t => va_P (dC, dI) clz [] t.heap ∧ va_K (dC, dI) clz [] t ∧ va_D (va_A [] sz) []) (va_A [] sz)) 0 0 (va_A [] sz) := by
  refine Met.ofW (cc := prog_10_method_3_code) (maxL := 6) (ret := (some .boolean)) (by decide +kernel) rfl ?_
  intro p e s m args below meth c s₁ B hml hv
  obtain ⟨hargs, hsz, hP, hK, hD0⟩ := hv
  have hx := B.exec
  have hb := B.bytes
  have hr := B.returns
  have hts := atoms_spec (ws := w_m_in) B.pre
  have hown : s.vm.findClass "PathTextsModel" = some m.cls := findClass_of_methodNamed B.named
  have hlocks := B.notSynchronized
  subst hsz
  have hD := hD0.self (sz := s.heap.size)
  generalize hAe : va_A [] s.heap.size = A at hD ⊢
  have hA : ∀ q : Nat, s.heap.size ≤ q → A q := fun q h => by rw [← hAe]; exact Or.inr h
  clear hAe hD0
  have hS : va_S A s.heap s.heap [] := va_S.rf
  have hl := lv_entry ([.long x0, .long x2, .long x4]) (n := 6) (Nat.le_of_ble_eq_true rfl)
  have hent : entryFrame m args 6 = F0 m 0 (lg_sl ([.long x0, .long x2, .long x4]) ++ List.replicate (6 - (lg_sl ([.long x0, .long x2, .long x4])).length) Slot.unset).toArray [] := by rw [hargs, lg_entry_eq]
  rw [hent]
  clear hent hargs
  generalize (lg_sl ([.long x0, .long x2, .long x4]) ++ List.replicate (6 - (lg_sl ([.long x0, .long x2, .long x4])).length) Slot.unset).toArray = ls at hl ⊢
  have hl : lv_has ls 6 [(0, .long x0), (2, .long x2), (4, .long x4)] := hl
  suffices key : ∀ Q : State → Prop, (∀ (hn9 : narrow .boolean (.int rv) = .int rv) (pc : Nat) (H : Heap) (locs : List Loc) (ls : Array Slot), decode prog_10_method_3_code pc = .ok (.ireturn, 1) → va_P (dC, dI) clz [] H → va_D A [] → va_S A s.heap H locs → W p l e (headSpec w_m_in ({ frames := 0, cells := 0, slots := 0, locals := 0 })).room s m args below meth c H locs 0 0 Q (F0 m pc ls [.int rv])) → W p l e (headSpec w_m_in ({ frames := 0, cells := 0, slots := 0, locals := 0 })).room s m args below meth c s.heap [] 0 0 Q (F0 m 0 ls []) from key _ (fun hn9 pc H locs ls hd hP hD hS => W.zret hx hb hr hn9 (fun t ht hW => ⟨⟨rv, (), rfl, rfl, by rw [ht]; exact hP, va_K.moved hW.alike hK, hD⟩, hS.F ht⟩) hS.2.2 hd)
  intro Q hRet
  rw [m_in] at hf
  refine lv_lload_n (pc := 0) hx hb d_m_in_0 rfl (lv_at hl 0 rfl) ?_
  refine lv_lload_n (pc := 1) hx hb d_m_in_1 rfl (lv_at hl 1 rfl) ?_
  refine kx_lclt (pc := 2) (tgt := 17) hx hb d_m_in_2 d_m_in_3 (by decide) (fun hc => ?_) (fun hc => ?_)
  · rw [if_pos hc] at hf
    refine lv_iconst (pc := 17) (v := (0 : Int32)) hx hb d_m_in_17 (by decide) ?_
    have e_0 := kr1 hf
    rw [e_0]
    exact hRet (by rw [← e_0]; exact (by decide)) 18 _ _ _ d_m_in_18 hP hD hS
  · rw [if_neg hc] at hf
    refine lv_lload_n (pc := 6) hx hb d_m_in_6 rfl (lv_at hl 0 rfl) ?_
    refine lv_lload (pc := 7) hx hb d_m_in_7 (lv_at hl 2 rfl) ?_
    refine kx_lcgt (pc := 9) (tgt := 17) hx hb d_m_in_9 d_m_in_10 (by decide) (fun hc => ?_) (fun hc => ?_)
    · rw [if_pos hc] at hf
      refine lv_iconst (pc := 17) (v := (0 : Int32)) hx hb d_m_in_17 (by decide) ?_
      have e_0 := kr1 hf
      rw [e_0]
      exact hRet (by rw [← e_0]; exact (by decide)) 18 _ _ _ d_m_in_18 hP hD hS
    · rw [if_neg hc] at hf
      refine lv_iconst (pc := 13) (v := (1 : Int32)) hx hb d_m_in_13 (by decide) ?_
      refine lv_goto (pc := 14) (tgt := 18) hx hb d_m_in_14 (by decide) ?_
      have e_0 := kr1 hf
      rw [e_0]
      exact hRet (by rw [← e_0]; exact (by decide)) 18 _ _ _ d_m_in_18 hP hD hS
set_option maxHeartbeats 4000000 in
set_option maxRecDepth 100000 in
theorem ct_m_nearest (l : Launch) (dC : Nat → ClassId) (dI : Nat → Nat → Nat) (sz : Nat) (x0 : Int64) (x2 : Int64) (rv : Int64) (hf : m_nearest x0 x2 = some rv) : Met l y_m_nearest w_m_nearest ({ frames := 0, cells := 0, slots := 0, locals := 0 }) (va_Pc [.long x0, .long x2] (fun U => U.heap.size = sz ∧ va_P (dC, dI) clz [] U.heap ∧ va_K (dC, dI) clz [] U ∧ va_D (fun _ => True) [])) (va_Ql (fun (r9 : Int64) (_ : Unit) => r9 = rv) (fun _ t => va_P (dC, dI) clz [] t.heap ∧ va_K (dC, dI) clz [] t ∧ va_D (va_A [] sz) []) (va_A [] sz)) 0 0 (va_A [] sz) := by
  refine Met.ofW (cc := prog_10_method_4_code) (maxL := 8) (ret := (some .long)) (by decide +kernel) rfl ?_
  intro p e s m args below meth c s₁ B hml hv
  obtain ⟨hargs, hsz, hP, hK, hD0⟩ := hv
  have hx := B.exec
  have hb := B.bytes
  have hr := B.returns
  have hts := atoms_spec (ws := w_m_nearest) B.pre
  have hown : s.vm.findClass "PathTextsModel" = some m.cls := findClass_of_methodNamed B.named
  have hlocks := B.notSynchronized
  subst hsz
  have hD := hD0.self (sz := s.heap.size)
  generalize hAe : va_A [] s.heap.size = A at hD ⊢
  have hA : ∀ q : Nat, s.heap.size ≤ q → A q := fun q h => by rw [← hAe]; exact Or.inr h
  clear hAe hD0
  have hS : va_S A s.heap s.heap [] := va_S.rf
  have hl := lv_entry ([.long x0, .long x2]) (n := 8) (Nat.le_of_ble_eq_true rfl)
  have hent : entryFrame m args 8 = F0 m 0 (lg_sl ([.long x0, .long x2]) ++ List.replicate (8 - (lg_sl ([.long x0, .long x2])).length) Slot.unset).toArray [] := by rw [hargs, lg_entry_eq]
  rw [hent]
  clear hent hargs
  generalize (lg_sl ([.long x0, .long x2]) ++ List.replicate (8 - (lg_sl ([.long x0, .long x2])).length) Slot.unset).toArray = ls at hl ⊢
  have hl : lv_has ls 8 [(0, .long x0), (2, .long x2)] := hl
  suffices key : ∀ Q : State → Prop, (∀ (pc : Nat) (H : Heap) (locs : List Loc) (ls : Array Slot), decode prog_10_method_4_code pc = .ok (.lreturn, 1) → va_P (dC, dI) clz [] H → va_D A [] → va_S A s.heap H locs → W p l e (headSpec w_m_nearest ({ frames := 0, cells := 0, slots := 0, locals := 0 })).room s m args below meth c H locs 0 0 Q (F0 m pc ls [.long rv])) → W p l e (headSpec w_m_nearest ({ frames := 0, cells := 0, slots := 0, locals := 0 })).room s m args below meth c s.heap [] 0 0 Q (F0 m 0 ls []) from key _ (fun pc H locs ls hd hP hD hS => W.lret hx hb hr (fun t ht hW => ⟨⟨rv, (), rfl, rfl, by rw [ht]; exact hP, va_K.moved hW.alike hK, hD⟩, hS.F ht⟩) hS.2.2 hd)
  intro Q hRet
  rw [m_nearest] at hf
  refine lv_ldc2 (pc := 0) hx hb hown (hts _ (List.mem_cons_of_mem _ kw_838)) d_m_nearest_0 ?_
  refine lv_lload_n (pc := 3) hx hb d_m_nearest_3 rfl (lv_at hl 0 rfl) ?_
  refine lv_lmul (pc := 4) hx hb d_m_nearest_4 ?_
  refine lv_lload_n (pc := 5) hx hb d_m_nearest_5 rfl (lv_at hl 1 rfl) ?_
  refine lv_ladd (pc := 6) hx hb d_m_nearest_6 ?_
  refine lv_lstore (pc := 7) (lv' := [(4, .long (((2 : Int64) * x0) + x2)), (0, .long x0), (2, .long x2)]) hx hb d_m_nearest_7 hl (by decide) rfl (fun ls hl => ?_)
  refine lv_lload (pc := 9) hx hb d_m_nearest_9 (lv_at hl 0 rfl) ?_
  refine lv_ldc2 (pc := 11) hx hb hown (hts _ (List.mem_cons_of_mem _ kw_838)) d_m_nearest_11 ?_
  refine lv_lload_n (pc := 14) hx hb d_m_nearest_14 rfl (lv_at hl 2 rfl) ?_
  refine lv_lmul (pc := 15) hx hb d_m_nearest_15 ?_
  obtain ⟨hg1, hf⟩ := kg_some hf
  refine lv_ldiv (pc := 16) hx hb d_m_nearest_16 (kl_ne hg1) ?_
  refine lv_lstore (pc := 17) (lv' := [(6, .long ((((2 : Int64) * x0) + x2) / ((2 : Int64) * x2))), (4, .long (((2 : Int64) * x0) + x2)), (0, .long x0), (2, .long x2)]) hx hb d_m_nearest_17 hl (by decide) rfl (fun ls hl => ?_)
  refine lv_lload (pc := 19) hx hb d_m_nearest_19 (lv_at hl 1 rfl) ?_
  refine lv_lconst (pc := 21) (v := (0 : Int64)) hx hb d_m_nearest_21 (by decide) ?_
  refine kx_lcge (pc := 22) (tgt := 47) hx hb d_m_nearest_22 d_m_nearest_23 (by decide) (fun hc => ?_) (fun hc => ?_)
  · rw [if_pos hc] at hf
    refine lv_lload (pc := 47) hx hb d_m_nearest_47 (lv_at hl 0 rfl) ?_
    have e_0 := kr1 hf
    rw [e_0]
    exact hRet 49 _ _ _ d_m_nearest_49 hP hD hS
  · rw [if_neg hc] at hf
    refine lv_lload (pc := 26) hx hb d_m_nearest_26 (lv_at hl 0 rfl) ?_
    refine lv_ldc2 (pc := 28) hx hb hown (hts _ (List.mem_cons_of_mem _ kw_838)) d_m_nearest_28 ?_
    refine lv_lmul (pc := 31) hx hb d_m_nearest_31 ?_
    refine lv_lload_n (pc := 32) hx hb d_m_nearest_32 rfl (lv_at hl 3 rfl) ?_
    refine lv_lmul (pc := 33) hx hb d_m_nearest_33 ?_
    refine lv_lload (pc := 34) hx hb d_m_nearest_34 (lv_at hl 1 rfl) ?_
    refine kx_lceq (pc := 36) (tgt := 47) hx hb d_m_nearest_36 d_m_nearest_37 (by decide) (fun hc => ?_) (fun hc => ?_)
    · rw [if_pos hc] at hf
      refine lv_lload (pc := 47) hx hb d_m_nearest_47 (lv_at hl 0 rfl) ?_
      have e_0 := kr1 hf
      rw [e_0]
      exact hRet 49 _ _ _ d_m_nearest_49 hP hD hS
    · rw [if_neg hc] at hf
      refine lv_lload (pc := 40) hx hb d_m_nearest_40 (lv_at hl 0 rfl) ?_
      refine lv_lconst (pc := 42) (v := (1 : Int64)) hx hb d_m_nearest_42 (by decide) ?_
      refine lv_lsub (pc := 43) hx hb d_m_nearest_43 ?_
      refine lv_goto (pc := 44) (tgt := 49) hx hb d_m_nearest_44 (by decide) ?_
      have e_0 := kr1 hf
      rw [e_0]
      exact hRet 49 _ _ _ d_m_nearest_49 hP hD hS
set_option maxHeartbeats 4000000 in
set_option maxRecDepth 100000 in
theorem ct_m_text (l : Launch) (dC : Nat → ClassId) (dI : Nat → Nat → Nat) (q_o : Nat) (q_o_text : Nat) (q_o_kinds : Nat) (q_o_numbers : Nat) (q_o_drawnKinds : Nat) (q_o_drawnNumbers : Nat) (q_o_matrix : Nat) (q_o_given : Nat) (q_o_signs : Nat) (q_o_fromX : Nat) (q_o_fromY : Nat) (q_o_toX : Nat) (q_o_toY : Nat) (q_o_points : Nat) (k_o_text : ClassId) (sz : Nat) (N : Nat) (x1 : Int64) (v_o_fault : Int32) (v_o_size : Int32) (v_o_commands : Int32) (v_o_drawn : Int32) (v_o_depth : Int32) (v_o_at : Int32) (v_o_value : Int64) (v_o_wrong : Int32) (v_o_wantsMove : Int32) (v_o_x : Int64) (v_o_y : Int64) (v_o_startX : Int64) (v_o_startY : Int64) (v_o_before : Int32) (v_o_turnX : Int64) (v_o_turnY : Int64) (v_o_written : Int32) (v_o_edges : Int32) (v_o_wide : Int32) (v_o_high : Int32) (v_o_behind : Int32) (v_o_whole : Int64) (c_o_text : (Nat → Int32)) (rv : Int32) (v_o_fault_z : Int32) (v_o_size_z : Int32) (c_o_text_z : (Nat → Int32)) (hf : m_text N x1 v_o_size c_o_text = some (rv, v_o_fault_z, v_o_size_z, c_o_text_z)) : Met l y_m_text w_m_text ({ frames := 1, cells := 0, slots := 0, locals := 25 }) (va_Pc [.ref q_o, .long x1] (fun U => U.heap.size = sz ∧ va_P (dC, dI) clz [(q_o, .inr (7, f_Model v_o_fault v_o_size q_o_text v_o_commands q_o_kinds q_o_numbers v_o_drawn q_o_drawnKinds q_o_drawnNumbers v_o_depth q_o_matrix v_o_at v_o_value v_o_wrong v_o_wantsMove v_o_x v_o_y v_o_startX v_o_startY v_o_before v_o_turnX v_o_turnY q_o_given v_o_written q_o_signs v_o_edges q_o_fromX q_o_fromY q_o_toX q_o_toY v_o_wide v_o_high q_o_points v_o_behind v_o_whole)), (q_o_text, .inl (k_o_text, 1200, .inl c_o_text))] U.heap ∧ va_K (dC, dI) clz [(k_o_text, .int)] U ∧ va_D (fun _ => True) [(q_o, .inr (7, f_Model v_o_fault v_o_size q_o_text v_o_commands q_o_kinds q_o_numbers v_o_drawn q_o_drawnKinds q_o_drawnNumbers v_o_depth q_o_matrix v_o_at v_o_value v_o_wrong v_o_wantsMove v_o_x v_o_y v_o_startX v_o_startY v_o_before v_o_turnX v_o_turnY q_o_given v_o_written q_o_signs v_o_edges q_o_fromX q_o_fromY q_o_toX q_o_toY v_o_wide v_o_high q_o_points v_o_behind v_o_whole)), (q_o_text, .inl (k_o_text, 1200, .inl c_o_text))])) (va_Qi (fun (r9 : Int32) (_ : Unit) => r9 = rv) (fun _ t => va_P (dC, dI) clz [(q_o, .inr (7, f_Model v_o_fault_z v_o_size_z q_o_text v_o_commands q_o_kinds q_o_numbers v_o_drawn q_o_drawnKinds q_o_drawnNumbers v_o_depth q_o_matrix v_o_at v_o_value v_o_wrong v_o_wantsMove v_o_x v_o_y v_o_startX v_o_startY v_o_before v_o_turnX v_o_turnY q_o_given v_o_written q_o_signs v_o_edges q_o_fromX q_o_fromY q_o_toX q_o_toY v_o_wide v_o_high q_o_points v_o_behind v_o_whole)), (q_o_text, .inl (k_o_text, 1200, .inl c_o_text_z))] t.heap ∧ va_K (dC, dI) clz [(k_o_text, .int)] t ∧ va_D (va_A [(q_o, .inr (7, f_Model v_o_fault v_o_size q_o_text v_o_commands q_o_kinds q_o_numbers v_o_drawn q_o_drawnKinds q_o_drawnNumbers v_o_depth q_o_matrix v_o_at v_o_value v_o_wrong v_o_wantsMove v_o_x v_o_y v_o_startX v_o_startY v_o_before v_o_turnX v_o_turnY q_o_given v_o_written q_o_signs v_o_edges q_o_fromX q_o_fromY q_o_toX q_o_toY v_o_wide v_o_high q_o_points v_o_behind v_o_whole)), (q_o_text, .inl (k_o_text, 1200, .inl c_o_text))] sz) [(q_o, .inr (7, f_Model v_o_fault_z v_o_size_z q_o_text v_o_commands q_o_kinds q_o_numbers v_o_drawn q_o_drawnKinds q_o_drawnNumbers v_o_depth q_o_matrix v_o_at v_o_value v_o_wrong v_o_wantsMove v_o_x v_o_y v_o_startX v_o_startY v_o_before v_o_turnX v_o_turnY q_o_given v_o_written q_o_signs v_o_edges q_o_fromX q_o_fromY q_o_toX q_o_toY v_o_wide v_o_high q_o_points v_o_behind v_o_whole)), (q_o_text, .inl (k_o_text, 1200, .inl c_o_text_z))]) (va_A [(q_o, .inr (7, f_Model v_o_fault v_o_size q_o_text v_o_commands q_o_kinds q_o_numbers v_o_drawn q_o_drawnKinds q_o_drawnNumbers v_o_depth q_o_matrix v_o_at v_o_value v_o_wrong v_o_wantsMove v_o_x v_o_y v_o_startX v_o_startY v_o_before v_o_turnX v_o_turnY q_o_given v_o_written q_o_signs v_o_edges q_o_fromX q_o_fromY q_o_toX q_o_toY v_o_wide v_o_high q_o_points v_o_behind v_o_whole)), (q_o_text, .inl (k_o_text, 1200, .inl c_o_text))] sz)) 0 0 (va_A [(q_o, .inr (7, f_Model v_o_fault v_o_size q_o_text v_o_commands q_o_kinds q_o_numbers v_o_drawn q_o_drawnKinds q_o_drawnNumbers v_o_depth q_o_matrix v_o_at v_o_value v_o_wrong v_o_wantsMove v_o_x v_o_y v_o_startX v_o_startY v_o_before v_o_turnX v_o_turnY q_o_given v_o_written q_o_signs v_o_edges q_o_fromX q_o_fromY q_o_toX q_o_toY v_o_wide v_o_high q_o_points v_o_behind v_o_whole)), (q_o_text, .inl (k_o_text, 1200, .inl c_o_text))] sz) := by
  refine Met.ofW (cc := prog_10_method_5_code) (maxL := 7) (ret := (some .int)) (by decide +kernel) rfl ?_
  intro p e s m args below meth c s₁ B hml hv
  obtain ⟨hargs, hsz, hP, hK, hD0⟩ := hv
  have hx := B.exec
  have hb := B.bytes
  have hr := B.returns
  have hts := atoms_spec (ws := w_m_text) B.pre
  have hown : s.vm.findClass "PathTextsModel" = some m.cls := findClass_of_methodNamed B.named
  have hlocks := B.notSynchronized
  subst hsz
  have hD := hD0.self (sz := s.heap.size)
  generalize hAe : va_A [(q_o, .inr (7, f_Model v_o_fault v_o_size q_o_text v_o_commands q_o_kinds q_o_numbers v_o_drawn q_o_drawnKinds q_o_drawnNumbers v_o_depth q_o_matrix v_o_at v_o_value v_o_wrong v_o_wantsMove v_o_x v_o_y v_o_startX v_o_startY v_o_before v_o_turnX v_o_turnY q_o_given v_o_written q_o_signs v_o_edges q_o_fromX q_o_fromY q_o_toX q_o_toY v_o_wide v_o_high q_o_points v_o_behind v_o_whole)), (q_o_text, .inl (k_o_text, 1200, .inl c_o_text))] s.heap.size = A at hD ⊢
  have hA : ∀ q : Nat, s.heap.size ≤ q → A q := fun q h => by rw [← hAe]; exact Or.inr h
  clear hAe hD0
  have hS : va_S A s.heap s.heap [] := va_S.rf
  have hl := lv_entry ([.ref q_o, .long x1]) (n := 7) (Nat.le_of_ble_eq_true rfl)
  have hent : entryFrame m args 7 = F0 m 0 (lg_sl ([.ref q_o, .long x1]) ++ List.replicate (7 - (lg_sl ([.ref q_o, .long x1])).length) Slot.unset).toArray [] := by rw [hargs, lg_entry_eq]
  rw [hent]
  clear hent hargs
  generalize (lg_sl ([.ref q_o, .long x1]) ++ List.replicate (7 - (lg_sl ([.ref q_o, .long x1])).length) Slot.unset).toArray = ls at hl ⊢
  have hl : lv_has ls 7 [(0, .ref q_o), (1, .long x1)] := hl
  suffices key : ∀ Q : State → Prop, (∀ (pc : Nat) (H : Heap) (locs : List Loc) (ls : Array Slot), decode prog_10_method_5_code pc = .ok (.ireturn, 1) → va_P (dC, dI) clz [(q_o, .inr (7, f_Model v_o_fault_z v_o_size_z q_o_text v_o_commands q_o_kinds q_o_numbers v_o_drawn q_o_drawnKinds q_o_drawnNumbers v_o_depth q_o_matrix v_o_at v_o_value v_o_wrong v_o_wantsMove v_o_x v_o_y v_o_startX v_o_startY v_o_before v_o_turnX v_o_turnY q_o_given v_o_written q_o_signs v_o_edges q_o_fromX q_o_fromY q_o_toX q_o_toY v_o_wide v_o_high q_o_points v_o_behind v_o_whole)), (q_o_text, .inl (k_o_text, 1200, .inl c_o_text_z))] H → va_D A [(q_o, .inr (7, f_Model v_o_fault_z v_o_size_z q_o_text v_o_commands q_o_kinds q_o_numbers v_o_drawn q_o_drawnKinds q_o_drawnNumbers v_o_depth q_o_matrix v_o_at v_o_value v_o_wrong v_o_wantsMove v_o_x v_o_y v_o_startX v_o_startY v_o_before v_o_turnX v_o_turnY q_o_given v_o_written q_o_signs v_o_edges q_o_fromX q_o_fromY q_o_toX q_o_toY v_o_wide v_o_high q_o_points v_o_behind v_o_whole)), (q_o_text, .inl (k_o_text, 1200, .inl c_o_text_z))] → va_S A s.heap H locs → W p l e (headSpec w_m_text ({ frames := 1, cells := 0, slots := 0, locals := 25 })).room s m args below meth c H locs 0 0 Q (F0 m pc ls [.int rv])) → W p l e (headSpec w_m_text ({ frames := 1, cells := 0, slots := 0, locals := 25 })).room s m args below meth c s.heap [] 0 0 Q (F0 m 0 ls []) from key _ (fun pc H locs ls hd hP hD hS => W.iret hx hb hr (fun t ht hW => ⟨⟨rv, (), rfl, rfl, by rw [ht]; exact hP, va_K.moved hW.alike hK, hD⟩, hS.F ht⟩) hS.2.2 hd)
  intro Q hRet
  have hB122 : ∀ (k122 : Int64 → Int32 → Int32 → Int32 → (Nat → Int32) → Option (Int32 × Int32 × Int32 × (Nat → Int32))), (∀ (x1 : Int64) (x5 : Int32) (v_o_fault : Int32) (v_o_size : Int32) (c_o_text : (Nat → Int32)) (H : Heap) (locs : List Loc) (ls : Array Slot), k122 x1 x5 v_o_fault v_o_size c_o_text = some (rv, v_o_fault_z, v_o_size_z, c_o_text_z) → va_P (dC, dI) clz [(q_o, .inr (7, f_Model v_o_fault v_o_size q_o_text v_o_commands q_o_kinds q_o_numbers v_o_drawn q_o_drawnKinds q_o_drawnNumbers v_o_depth q_o_matrix v_o_at v_o_value v_o_wrong v_o_wantsMove v_o_x v_o_y v_o_startX v_o_startY v_o_before v_o_turnX v_o_turnY q_o_given v_o_written q_o_signs v_o_edges q_o_fromX q_o_fromY q_o_toX q_o_toY v_o_wide v_o_high q_o_points v_o_behind v_o_whole)), (q_o_text, .inl (k_o_text, 1200, .inl c_o_text))] H → va_D A [(q_o, .inr (7, f_Model v_o_fault v_o_size q_o_text v_o_commands q_o_kinds q_o_numbers v_o_drawn q_o_drawnKinds q_o_drawnNumbers v_o_depth q_o_matrix v_o_at v_o_value v_o_wrong v_o_wantsMove v_o_x v_o_y v_o_startX v_o_startY v_o_before v_o_turnX v_o_turnY q_o_given v_o_written q_o_signs v_o_edges q_o_fromX q_o_fromY q_o_toX q_o_toY v_o_wide v_o_high q_o_points v_o_behind v_o_whole)), (q_o_text, .inl (k_o_text, 1200, .inl c_o_text))] → va_S A s.heap H locs → lv_has ls 7 [(0, .ref q_o), (1, .long x1), (5, .int x5)] → W p l e (headSpec w_m_text ({ frames := 1, cells := 0, slots := 0, locals := 25 })).room s m args below meth c H locs 0 0 Q (F0 m 122 ls [])) → ∀ (x1 : Int64) (x5 : Int32) (v_o_fault : Int32) (v_o_size : Int32) (c_o_text : (Nat → Int32)) (H : Heap) (locs : List Loc) (ls : Array Slot), m_text_B122 N k122 x1 x5 v_o_fault v_o_size c_o_text = some (rv, v_o_fault_z, v_o_size_z, c_o_text_z) → va_P (dC, dI) clz [(q_o, .inr (7, f_Model v_o_fault v_o_size q_o_text v_o_commands q_o_kinds q_o_numbers v_o_drawn q_o_drawnKinds q_o_drawnNumbers v_o_depth q_o_matrix v_o_at v_o_value v_o_wrong v_o_wantsMove v_o_x v_o_y v_o_startX v_o_startY v_o_before v_o_turnX v_o_turnY q_o_given v_o_written q_o_signs v_o_edges q_o_fromX q_o_fromY q_o_toX q_o_toY v_o_wide v_o_high q_o_points v_o_behind v_o_whole)), (q_o_text, .inl (k_o_text, 1200, .inl c_o_text))] H → va_D A [(q_o, .inr (7, f_Model v_o_fault v_o_size q_o_text v_o_commands q_o_kinds q_o_numbers v_o_drawn q_o_drawnKinds q_o_drawnNumbers v_o_depth q_o_matrix v_o_at v_o_value v_o_wrong v_o_wantsMove v_o_x v_o_y v_o_startX v_o_startY v_o_before v_o_turnX v_o_turnY q_o_given v_o_written q_o_signs v_o_edges q_o_fromX q_o_fromY q_o_toX q_o_toY v_o_wide v_o_high q_o_points v_o_behind v_o_whole)), (q_o_text, .inl (k_o_text, 1200, .inl c_o_text))] → va_S A s.heap H locs → lv_has ls 7 [(0, .ref q_o), (1, .long x1), (5, .int x5)] → W p l e (headSpec w_m_text ({ frames := 1, cells := 0, slots := 0, locals := 25 })).room s m args below meth c H locs 0 0 Q (F0 m 122 ls []) := by
    intro k122 hk122
    intro x1 x5 v_o_fault v_o_size c_o_text H locs ls hf hP hD hS hl
    rw [m_text_B122] at hf
    refine lv_iload (pc := 122) hx hb d_m_text_122 (lv_at hl 2 rfl) ?_
    refine lv_bipush (pc := 124) (v := (8 : Int32)) hx hb d_m_text_124 (by decide) ?_
    refine lv_icmp_ge (pc := 126) (tgt := 175) hx hb d_m_text_126 (by decide) (fun hc => ?_) (fun hc => ?_)
    · rw [if_pos hc] at hf
      refine lv_aload_n (pc := 175) hx hb d_m_text_175 rfl (lv_at hl 0 rfl) ?_
      refine va_get (pc := 176) (D := (dC, dI)) (ci := 7) (v := .int v_o_size) (C := "PathTextsModel") (T := F_Model) (N := 35) hx hb hts (fun w h => List.mem_cons_of_mem _ (in_Model w h)) hown hK hP 0 rfl rfl 1 (by decide) (hts _ (List.mem_cons_of_mem _ kw_672)) (fun _ h9 => h9) fg_Model_1 d_m_text_176 ?_
      obtain ⟨e_0, e_1, e_2, e_3⟩ := kr4 hf
      rw [e_0]
      exact hRet 179 _ _ _ d_m_text_179 (by rw [← e_1, ← e_2, ← e_3]; exact hP) (by rw [← e_1, ← e_2, ← e_3]; exact hD) hS
    · rw [if_neg hc] at hf
      refine lv_lload_n (pc := 129) hx hb d_m_text_129 rfl (lv_at hl 1 rfl) ?_
      refine lv_bipush (pc := 130) (v := (8 : Int32)) hx hb d_m_text_130 (by decide) ?_
      refine lv_iload (pc := 132) hx hb d_m_text_132 (lv_at hl 2 rfl) ?_
      refine lv_imul (pc := 134) hx hb d_m_text_134 ?_
      refine lv_lshr (pc := 135) hx hb d_m_text_135 rfl ?_
      refine lv_ldc2 (pc := 136) hx hb hown (hts _ (List.mem_cons_of_mem _ kw_785)) d_m_text_136 ?_
      refine lv_land (pc := 139) hx hb d_m_text_139 ?_
      refine lv_l2i (pc := 140) hx hb d_m_text_140 rfl ?_
      refine lv_istore (pc := 141) (lv' := [(6, .int (Int64.toInt32 ((x1 >>> (Int32.toInt64 ((8 : Int32) * x5) &&& 63)) &&& (255 : Int64)))), (0, .ref q_o), (1, .long x1), (5, .int x5)]) hx hb d_m_text_141 hl (by decide) rfl (fun ls hl => ?_)
      refine lv_iload (pc := 143) hx hb d_m_text_143 (lv_at hl 0 rfl) ?_
      refine lv_if_eq (pc := 145) (tgt := 169) hx hb d_m_text_145 (by decide) (fun hc => ?_) (fun hc => ?_)
      · rw [if_pos hc] at hf
        refine lv_iinc (pc := 169) (v := (x5 + (1 : Int32))) (lv' := [(5, .int (x5 + (1 : Int32))), (6, .int (Int64.toInt32 ((x1 >>> (Int32.toInt64 ((8 : Int32) * x5) &&& 63)) &&& (255 : Int64)))), (0, .ref q_o), (1, .long x1)]) hx hb d_m_text_169 hl (k := 3) rfl rfl (by decide) rfl (fun ls hl => ?_)
        refine lv_goto (pc := 172) (tgt := 122) hx hb d_m_text_172 (by decide) ?_
        exact hk122 x1 (x5 + (1 : Int32)) v_o_fault v_o_size c_o_text _ _ _ hf hP hD hS (lv_sub hl [2, 3, 0] rfl)
      · rw [if_neg hc] at hf
        refine lv_aload_n (pc := 148) hx hb d_m_text_148 rfl (lv_at hl 1 rfl) ?_
        refine va_get (pc := 149) (D := (dC, dI)) (ci := 7) (v := .ref q_o_text) (C := "PathTextsModel") (T := F_Model) (N := 35) hx hb hts (fun w h => List.mem_cons_of_mem _ (in_Model w h)) hown hK hP 0 rfl rfl 2 (by decide) (hts _ (List.mem_cons_of_mem _ kw_673)) (fun _ h9 => h9) fg_Model_2 d_m_text_149 ?_
        refine lv_aload_n (pc := 152) hx hb d_m_text_152 rfl (lv_at hl 1 rfl) ?_
        refine va_get (pc := 153) (D := (dC, dI)) (ci := 7) (v := .int v_o_size) (C := "PathTextsModel") (T := F_Model) (N := 35) hx hb hts (fun w h => List.mem_cons_of_mem _ (in_Model w h)) hown hK hP 0 rfl rfl 1 (by decide) (hts _ (List.mem_cons_of_mem _ kw_672)) (fun _ h9 => h9) fg_Model_1 d_m_text_153 ?_
        refine lv_iload (pc := 156) hx hb d_m_text_156 (lv_at hl 0 rfl) ?_
        obtain ⟨hg1, hf⟩ := kg_some hf
        refine kx_iast (pc := 158) (ws' := [(q_o, .inr (7, f_Model v_o_fault v_o_size q_o_text v_o_commands q_o_kinds q_o_numbers v_o_drawn q_o_drawnKinds q_o_drawnNumbers v_o_depth q_o_matrix v_o_at v_o_value v_o_wrong v_o_wantsMove v_o_x v_o_y v_o_startX v_o_startY v_o_before v_o_turnX v_o_turnY q_o_given v_o_written q_o_signs v_o_edges q_o_fromX q_o_fromY q_o_toX q_o_toY v_o_wide v_o_high q_o_points v_o_behind v_o_whole)), (q_o_text, .inl (k_o_text, 1200, .inl (upd c_o_text (v_o_size).toNatClampNeg (Int64.toInt32 ((x1 >>> (Int32.toInt64 ((8 : Int32) * x5) &&& 63)) &&& (255 : Int64))))))]) hx hb hK hP hD hS 1 0 rfl rfl (ki_in hg1) rfl d_m_text_158 (fun H locs hP hD hS => ?_)
        refine lv_aload_n (pc := 159) hx hb d_m_text_159 rfl (lv_at hl 1 rfl) ?_
        refine lv_dup (pc := 160) hx hb d_m_text_160 rfl ?_
        refine va_get (pc := 161) (D := (dC, dI)) (ci := 7) (v := .int v_o_size) (C := "PathTextsModel") (T := F_Model) (N := 35) hx hb hts (fun w h => List.mem_cons_of_mem _ (in_Model w h)) hown hK hP 0 rfl rfl 1 (by decide) (hts _ (List.mem_cons_of_mem _ kw_672)) (fun _ h9 => h9) fg_Model_1 d_m_text_161 ?_
        refine lv_iconst (pc := 164) (v := (1 : Int32)) hx hb d_m_text_164 (by decide) ?_
        refine lv_iadd (pc := 165) hx hb d_m_text_165 ?_
        refine kx_put (pc := 166) (D := (dC, dI)) (ci := 7) (v := .int (v_o_size + (1 : Int32))) (ty := .int) (C := "PathTextsModel") (T := F_Model) (N := 35) hx hb hts (fun w h => List.mem_cons_of_mem _ (in_Model w h)) t_Model tk_Model n_Model hown hK hP hD hS 0 rfl rfl 1 (by decide) (hts _ (List.mem_cons_of_mem _ kw_672)) (fun _ h9 => h9) rfl (tk_Model 1 (by decide)) rfl rfl fl_Model_1 fs_Model_1 (ws' := [(q_o, .inr (7, f_Model v_o_fault (v_o_size + (1 : Int32)) q_o_text v_o_commands q_o_kinds q_o_numbers v_o_drawn q_o_drawnKinds q_o_drawnNumbers v_o_depth q_o_matrix v_o_at v_o_value v_o_wrong v_o_wantsMove v_o_x v_o_y v_o_startX v_o_startY v_o_before v_o_turnX v_o_turnY q_o_given v_o_written q_o_signs v_o_edges q_o_fromX q_o_fromY q_o_toX q_o_toY v_o_wide v_o_high q_o_points v_o_behind v_o_whole)), (q_o_text, .inl (k_o_text, 1200, .inl (upd c_o_text (v_o_size).toNatClampNeg (Int64.toInt32 ((x1 >>> (Int32.toInt64 ((8 : Int32) * x5) &&& 63)) &&& (255 : Int64))))))]) rfl d_m_text_166 (fun H locs hP hD hS => ?_)
        refine lv_iinc (pc := 169) (v := (x5 + (1 : Int32))) (lv' := [(5, .int (x5 + (1 : Int32))), (6, .int (Int64.toInt32 ((x1 >>> (Int32.toInt64 ((8 : Int32) * x5) &&& 63)) &&& (255 : Int64)))), (0, .ref q_o), (1, .long x1)]) hx hb d_m_text_169 hl (k := 3) rfl rfl (by decide) rfl (fun ls hl => ?_)
        refine lv_goto (pc := 172) (tgt := 122) hx hb d_m_text_172 (by decide) ?_
        exact hk122 x1 (x5 + (1 : Int32)) v_o_fault (v_o_size + (1 : Int32)) (upd c_o_text (v_o_size).toNatClampNeg (Int64.toInt32 ((x1 >>> (Int32.toInt64 ((8 : Int32) * x5) &&& 63)) &&& (255 : Int64)))) _ _ _ hf hP hD hS (lv_sub hl [2, 3, 0] rfl)
  have hL122 : ∀ n : Nat, ∀ (x1 : Int64) (x5 : Int32) (v_o_fault : Int32) (v_o_size : Int32) (c_o_text : (Nat → Int32)) (H : Heap) (locs : List Loc) (ls : Array Slot), (m_text_L122 N n) x1 x5 v_o_fault v_o_size c_o_text = some (rv, v_o_fault_z, v_o_size_z, c_o_text_z) → va_P (dC, dI) clz [(q_o, .inr (7, f_Model v_o_fault v_o_size q_o_text v_o_commands q_o_kinds q_o_numbers v_o_drawn q_o_drawnKinds q_o_drawnNumbers v_o_depth q_o_matrix v_o_at v_o_value v_o_wrong v_o_wantsMove v_o_x v_o_y v_o_startX v_o_startY v_o_before v_o_turnX v_o_turnY q_o_given v_o_written q_o_signs v_o_edges q_o_fromX q_o_fromY q_o_toX q_o_toY v_o_wide v_o_high q_o_points v_o_behind v_o_whole)), (q_o_text, .inl (k_o_text, 1200, .inl c_o_text))] H → va_D A [(q_o, .inr (7, f_Model v_o_fault v_o_size q_o_text v_o_commands q_o_kinds q_o_numbers v_o_drawn q_o_drawnKinds q_o_drawnNumbers v_o_depth q_o_matrix v_o_at v_o_value v_o_wrong v_o_wantsMove v_o_x v_o_y v_o_startX v_o_startY v_o_before v_o_turnX v_o_turnY q_o_given v_o_written q_o_signs v_o_edges q_o_fromX q_o_fromY q_o_toX q_o_toY v_o_wide v_o_high q_o_points v_o_behind v_o_whole)), (q_o_text, .inl (k_o_text, 1200, .inl c_o_text))] → va_S A s.heap H locs → lv_has ls 7 [(0, .ref q_o), (1, .long x1), (5, .int x5)] → W p l e (headSpec w_m_text ({ frames := 1, cells := 0, slots := 0, locals := 25 })).room s m args below meth c H locs 0 0 Q (F0 m 122 ls []) := by
    intro n
    induction n with
    | zero => intro x1 x5 v_o_fault v_o_size c_o_text H locs ls hf hP hD hS hl; have hf : none = some (rv, v_o_fault_z, v_o_size_z, c_o_text_z) := hf; cases hf
    | succ n ih => exact hB122 (m_text_L122 N n) ih
  have hb107 : ∀ (x1 : Int64) (s1 : Int32) (v_o_fault : Int32) (v_o_size : Int32) (c_o_text : (Nat → Int32)) (H : Heap) (locs : List Loc) (ls : Array Slot), m_text_b107 N x1 s1 v_o_size c_o_text = some (rv, v_o_fault_z, v_o_size_z, c_o_text_z) → va_P (dC, dI) clz [(q_o, .inr (7, f_Model v_o_fault v_o_size q_o_text v_o_commands q_o_kinds q_o_numbers v_o_drawn q_o_drawnKinds q_o_drawnNumbers v_o_depth q_o_matrix v_o_at v_o_value v_o_wrong v_o_wantsMove v_o_x v_o_y v_o_startX v_o_startY v_o_before v_o_turnX v_o_turnY q_o_given v_o_written q_o_signs v_o_edges q_o_fromX q_o_fromY q_o_toX q_o_toY v_o_wide v_o_high q_o_points v_o_behind v_o_whole)), (q_o_text, .inl (k_o_text, 1200, .inl c_o_text))] H → va_D A [(q_o, .inr (7, f_Model v_o_fault v_o_size q_o_text v_o_commands q_o_kinds q_o_numbers v_o_drawn q_o_drawnKinds q_o_drawnNumbers v_o_depth q_o_matrix v_o_at v_o_value v_o_wrong v_o_wantsMove v_o_x v_o_y v_o_startX v_o_startY v_o_before v_o_turnX v_o_turnY q_o_given v_o_written q_o_signs v_o_edges q_o_fromX q_o_fromY q_o_toX q_o_toY v_o_wide v_o_high q_o_points v_o_behind v_o_whole)), (q_o_text, .inl (k_o_text, 1200, .inl c_o_text))] → va_S A s.heap H locs → lv_has ls 7 [(0, .ref q_o), (1, .long x1)] → W p l e (headSpec w_m_text ({ frames := 1, cells := 0, slots := 0, locals := 25 })).room s m args below meth c H locs 0 0 Q (F0 m 107 ls [.int s1, .ref q_o]) := by
    intro x1 s1 v_o_fault v_o_size c_o_text H locs ls hf hP hD hS hl
    rw [m_text_b107] at hf
    refine kx_put (pc := 107) (D := (dC, dI)) (ci := 7) (v := .int s1) (ty := .int) (C := "PathTextsModel") (T := F_Model) (N := 35) hx hb hts (fun w h => List.mem_cons_of_mem _ (in_Model w h)) t_Model tk_Model n_Model hown hK hP hD hS 0 rfl rfl 0 (by decide) (hts _ (List.mem_cons_of_mem _ kw_671)) (fun _ h9 => h9) rfl (tk_Model 0 (by decide)) rfl rfl fl_Model_0 fs_Model_0 (ws' := [(q_o, .inr (7, f_Model s1 v_o_size q_o_text v_o_commands q_o_kinds q_o_numbers v_o_drawn q_o_drawnKinds q_o_drawnNumbers v_o_depth q_o_matrix v_o_at v_o_value v_o_wrong v_o_wantsMove v_o_x v_o_y v_o_startX v_o_startY v_o_before v_o_turnX v_o_turnY q_o_given v_o_written q_o_signs v_o_edges q_o_fromX q_o_fromY q_o_toX q_o_toY v_o_wide v_o_high q_o_points v_o_behind v_o_whole)), (q_o_text, .inl (k_o_text, 1200, .inl c_o_text))]) rfl d_m_text_107 (fun H locs hP hD hS => ?_)
    refine lv_aload_n (pc := 110) hx hb d_m_text_110 rfl (lv_at hl 0 rfl) ?_
    refine va_get (pc := 111) (D := (dC, dI)) (ci := 7) (v := .int s1) (C := "PathTextsModel") (T := F_Model) (N := 35) hx hb hts (fun w h => List.mem_cons_of_mem _ (in_Model w h)) hown hK hP 0 rfl rfl 0 (by decide) (hts _ (List.mem_cons_of_mem _ kw_671)) (fun _ h9 => h9) fg_Model_0 d_m_text_111 ?_
    refine lv_if_le (pc := 114) (tgt := 119) hx hb d_m_text_114 (by decide) (fun hc => ?_) (fun hc => ?_)
    · rw [if_pos hc] at hf
      refine lv_iconst (pc := 119) (v := (0 : Int32)) hx hb d_m_text_119 (by decide) ?_
      refine lv_istore (pc := 120) (lv' := [(5, .int (0 : Int32)), (0, .ref q_o), (1, .long x1)]) hx hb d_m_text_120 hl (by decide) rfl (fun ls hl => ?_)
      exact hL122 N x1 (0 : Int32) s1 v_o_size c_o_text _ _ _ hf hP hD hS (lv_sub hl [1, 2, 0] rfl)
    · rw [if_neg hc] at hf
      refine lv_iconst (pc := 117) (v := (0 : Int32)) hx hb d_m_text_117 (by decide) ?_
      obtain ⟨e_0, e_1, e_2, e_3⟩ := kr4 hf
      rw [e_0]
      exact hRet 118 _ _ _ d_m_text_118 (by rw [← e_1, ← e_2, ← e_3]; exact hP) (by rw [← e_1, ← e_2, ← e_3]; exact hD) hS
  have hb41 : ∀ (k8 : Int64 → Int32 → Int32 → Int32 → Int32 → (Nat → Int32) → Option (Int32 × Int32 × Int32 × (Nat → Int32))), (∀ (x1 : Int64) (x3 : Int32) (x4 : Int32) (x5 : Int32) (v_o_fault : Int32) (v_o_size : Int32) (c_o_text : (Nat → Int32)) (H : Heap) (locs : List Loc) (ls : Array Slot), k8 x1 x3 x4 x5 v_o_size c_o_text = some (rv, v_o_fault_z, v_o_size_z, c_o_text_z) → va_P (dC, dI) clz [(q_o, .inr (7, f_Model v_o_fault v_o_size q_o_text v_o_commands q_o_kinds q_o_numbers v_o_drawn q_o_drawnKinds q_o_drawnNumbers v_o_depth q_o_matrix v_o_at v_o_value v_o_wrong v_o_wantsMove v_o_x v_o_y v_o_startX v_o_startY v_o_before v_o_turnX v_o_turnY q_o_given v_o_written q_o_signs v_o_edges q_o_fromX q_o_fromY q_o_toX q_o_toY v_o_wide v_o_high q_o_points v_o_behind v_o_whole)), (q_o_text, .inl (k_o_text, 1200, .inl c_o_text))] H → va_D A [(q_o, .inr (7, f_Model v_o_fault v_o_size q_o_text v_o_commands q_o_kinds q_o_numbers v_o_drawn q_o_drawnKinds q_o_drawnNumbers v_o_depth q_o_matrix v_o_at v_o_value v_o_wrong v_o_wantsMove v_o_x v_o_y v_o_startX v_o_startY v_o_before v_o_turnX v_o_turnY q_o_given v_o_written q_o_signs v_o_edges q_o_fromX q_o_fromY q_o_toX q_o_toY v_o_wide v_o_high q_o_points v_o_behind v_o_whole)), (q_o_text, .inl (k_o_text, 1200, .inl c_o_text))] → va_S A s.heap H locs → lv_has ls 7 [(0, .ref q_o), (1, .long x1), (3, .int x3), (4, .int x4), (5, .int x5)] → W p l e (headSpec w_m_text ({ frames := 1, cells := 0, slots := 0, locals := 25 })).room s m args below meth c H locs 0 0 Q (F0 m 8 ls [])) → ∀ (x1 : Int64) (x4 : Int32) (x5 : Int32) (x6 : Int32) (s0 : Int32) (v_o_fault : Int32) (v_o_size : Int32) (c_o_text : (Nat → Int32)) (H : Heap) (locs : List Loc) (ls : Array Slot), m_text_b41 N k8 x1 x4 x5 x6 s0 v_o_size c_o_text = some (rv, v_o_fault_z, v_o_size_z, c_o_text_z) → va_P (dC, dI) clz [(q_o, .inr (7, f_Model v_o_fault v_o_size q_o_text v_o_commands q_o_kinds q_o_numbers v_o_drawn q_o_drawnKinds q_o_drawnNumbers v_o_depth q_o_matrix v_o_at v_o_value v_o_wrong v_o_wantsMove v_o_x v_o_y v_o_startX v_o_startY v_o_before v_o_turnX v_o_turnY q_o_given v_o_written q_o_signs v_o_edges q_o_fromX q_o_fromY q_o_toX q_o_toY v_o_wide v_o_high q_o_points v_o_behind v_o_whole)), (q_o_text, .inl (k_o_text, 1200, .inl c_o_text))] H → va_D A [(q_o, .inr (7, f_Model v_o_fault v_o_size q_o_text v_o_commands q_o_kinds q_o_numbers v_o_drawn q_o_drawnKinds q_o_drawnNumbers v_o_depth q_o_matrix v_o_at v_o_value v_o_wrong v_o_wantsMove v_o_x v_o_y v_o_startX v_o_startY v_o_before v_o_turnX v_o_turnY q_o_given v_o_written q_o_signs v_o_edges q_o_fromX q_o_fromY q_o_toX q_o_toY v_o_wide v_o_high q_o_points v_o_behind v_o_whole)), (q_o_text, .inl (k_o_text, 1200, .inl c_o_text))] → va_S A s.heap H locs → lv_has ls 7 [(0, .ref q_o), (1, .long x1), (4, .int x4), (5, .int x5), (6, .int x6)] → W p l e (headSpec w_m_text ({ frames := 1, cells := 0, slots := 0, locals := 25 })).room s m args below meth c H locs 0 0 Q (F0 m 41 ls [.int s0]) := by
    intro k8 hk8
    intro x1 x4 x5 x6 s0 v_o_fault v_o_size c_o_text H locs ls hf hP hD hS hl
    rw [m_text_b41] at hf
    refine lv_istore_n (pc := 41) (lv' := [(3, .int s0), (0, .ref q_o), (1, .long x1), (4, .int x4), (5, .int x5), (6, .int x6)]) hx hb d_m_text_41 rfl hl (by decide) rfl (fun ls hl => ?_)
    refine lv_iload (pc := 42) hx hb d_m_text_42 (lv_at hl 3 rfl) ?_
    refine lv_if_eq (pc := 44) (tgt := 71) hx hb d_m_text_44 (by decide) (fun hc => ?_) (fun hc => ?_)
    · rw [if_pos hc] at hf
      refine lv_iconst (pc := 71) (v := (0 : Int32)) hx hb d_m_text_71 (by decide) ?_
      refine lv_istore (pc := 72) (lv' := [(4, .int (0 : Int32)), (3, .int s0), (0, .ref q_o), (1, .long x1), (5, .int x5), (6, .int x6)]) hx hb d_m_text_72 hl (by decide) rfl (fun ls hl => ?_)
      refine lv_iinc (pc := 74) (v := (x5 + (1 : Int32))) (lv' := [(5, .int (x5 + (1 : Int32))), (4, .int (0 : Int32)), (3, .int s0), (0, .ref q_o), (1, .long x1), (6, .int x6)]) hx hb d_m_text_74 hl (k := 4) rfl rfl (by decide) rfl (fun ls hl => ?_)
      refine lv_goto (pc := 77) (tgt := 8) hx hb d_m_text_77 (by decide) ?_
      exact hk8 x1 s0 (0 : Int32) (x5 + (1 : Int32)) v_o_fault v_o_size c_o_text _ _ _ hf hP hD hS (lv_sub hl [3, 4, 2, 1, 0] rfl)
    · rw [if_neg hc] at hf
      refine lv_iload (pc := 47) hx hb d_m_text_47 (lv_at hl 5 rfl) ?_
      refine lv_if_eq (pc := 49) (tgt := 67) hx hb d_m_text_49 (by decide) (fun hc => ?_) (fun hc => ?_)
      · rw [if_pos hc] at hf
        refine lv_iconst (pc := 67) (v := (1 : Int32)) hx hb d_m_text_67 (by decide) ?_
        refine lv_goto (pc := 68) (tgt := 72) hx hb d_m_text_68 (by decide) ?_
        refine lv_istore (pc := 72) (lv' := [(4, .int (1 : Int32)), (3, .int s0), (0, .ref q_o), (1, .long x1), (5, .int x5), (6, .int x6)]) hx hb d_m_text_72 hl (by decide) rfl (fun ls hl => ?_)
        refine lv_iinc (pc := 74) (v := (x5 + (1 : Int32))) (lv' := [(5, .int (x5 + (1 : Int32))), (4, .int (1 : Int32)), (3, .int s0), (0, .ref q_o), (1, .long x1), (6, .int x6)]) hx hb d_m_text_74 hl (k := 4) rfl rfl (by decide) rfl (fun ls hl => ?_)
        refine lv_goto (pc := 77) (tgt := 8) hx hb d_m_text_77 (by decide) ?_
        exact hk8 x1 s0 (1 : Int32) (x5 + (1 : Int32)) v_o_fault v_o_size c_o_text _ _ _ hf hP hD hS (lv_sub hl [3, 4, 2, 1, 0] rfl)
      · rw [if_neg hc] at hf
        refine lv_iload (pc := 52) hx hb d_m_text_52 (lv_at hl 5 rfl) ?_
        refine lv_i2l (pc := 54) hx hb d_m_text_54 rfl ?_
        refine lv_ldc2 (pc := 55) hx hb hown (hts _ (List.mem_cons_of_mem _ kw_786)) d_m_text_55 ?_
        refine lv_ldc2 (pc := 58) hx hb hown (hts _ (List.mem_cons_of_mem _ kw_787)) d_m_text_58 ?_
        obtain ⟨r61, hz, hf⟩ := kb1_some hf
        have hPc := hP.sub (ws' := []) [] rfl
        have hDc := hD.sub (ws' := []) [] (by decide) rfl
        have hKc := hK.sub (tys' := []) [] rfl
        have hFc := va_free (wc := []) hD hS hA [] rfl
        refine va_calli (pc := 61) (va_runS (As := [.long (Int32.toInt64 x6), .long (32 : Int64), .long (126 : Int64)]) (rest := []) ⟨hx, hb, hml, hown, hts⟩ (ct_m_in l dC dI _ (Int32.toInt64 x6) (32 : Int64) (126 : Int64) r61 hz) (va_cwS 3 hts (kw_in3 kw_788 kw_789 kw_8 kw_790) rfl rfl rfl (by decide +kernel) ⟨Nat.le_of_ble_eq_true rfl, Nat.le_of_ble_eq_true rfl⟩) (kx_pre hPc hKc hDc) rfl rfl hl.1 rfl (lv_room (Nat.le_of_ble_eq_true rfl)) d_m_text_61 ⟨Nat.le_of_ble_eq_true rfl, Nat.le_of_ble_eq_true rfl⟩) hS (fun q _ h => hFc q h) hFc (fun r9 u t H1 locs ht hvm hw hB hz1 hk1 hS => ?_)
        obtain ⟨hP1, hK1, hD1⟩ := hB
        rw [ht] at hP1
        have hw := hw.symm
        subst hw
        obtain ⟨hP, hD⟩ := va_join (wr := [(q_o, .inr (7, f_Model v_o_fault v_o_size q_o_text v_o_commands q_o_kinds q_o_numbers v_o_drawn q_o_drawnKinds q_o_drawnNumbers v_o_depth q_o_matrix v_o_at v_o_value v_o_wrong v_o_wantsMove v_o_x v_o_y v_o_startX v_o_startY v_o_before v_o_turnX v_o_turnY q_o_given v_o_written q_o_signs v_o_edges q_o_fromX q_o_fromY q_o_toX q_o_toY v_o_wide v_o_high q_o_points v_o_behind v_o_whole)), (q_o_text, .inl (k_o_text, 1200, .inl c_o_text))]) (w1 := []) hP hD [] [0, 1] rfl rfl (by decide) (by decide) hk1 hFc hP1 hD1
        have hP := hP.sub (ws' := [(q_o, .inr (7, f_Model v_o_fault v_o_size q_o_text v_o_commands q_o_kinds q_o_numbers v_o_drawn q_o_drawnKinds q_o_drawnNumbers v_o_depth q_o_matrix v_o_at v_o_value v_o_wrong v_o_wantsMove v_o_x v_o_y v_o_startX v_o_startY v_o_before v_o_turnX v_o_turnY q_o_given v_o_written q_o_signs v_o_edges q_o_fromX q_o_fromY q_o_toX q_o_toY v_o_wide v_o_high q_o_points v_o_behind v_o_whole)), (q_o_text, .inl (k_o_text, 1200, .inl c_o_text))]) [0, 1] rfl
        have hD := hD.sub (ws' := [(q_o, .inr (7, f_Model v_o_fault v_o_size q_o_text v_o_commands q_o_kinds q_o_numbers v_o_drawn q_o_drawnKinds q_o_drawnNumbers v_o_depth q_o_matrix v_o_at v_o_value v_o_wrong v_o_wantsMove v_o_x v_o_y v_o_startX v_o_startY v_o_before v_o_turnX v_o_turnY q_o_given v_o_written q_o_signs v_o_edges q_o_fromX q_o_fromY q_o_toX q_o_toY v_o_wide v_o_high q_o_points v_o_behind v_o_whole)), (q_o_text, .inl (k_o_text, 1200, .inl c_o_text))]) [0, 1] (by decide) rfl
        clear hP1 hK1 hD1 hk1 hPc hDc hKc hFc hz1 hvm ht hz
        generalize H1 = H at hP hS ⊢
        refine lv_if_eq (pc := 64) (tgt := 71) hx hb d_m_text_64 (by decide) (fun hc => ?_) (fun hc => ?_)
        · rw [if_pos hc] at hf
          refine lv_iconst (pc := 71) (v := (0 : Int32)) hx hb d_m_text_71 (by decide) ?_
          refine lv_istore (pc := 72) (lv' := [(4, .int (0 : Int32)), (3, .int s0), (0, .ref q_o), (1, .long x1), (5, .int x5), (6, .int x6)]) hx hb d_m_text_72 hl (by decide) rfl (fun ls hl => ?_)
          refine lv_iinc (pc := 74) (v := (x5 + (1 : Int32))) (lv' := [(5, .int (x5 + (1 : Int32))), (4, .int (0 : Int32)), (3, .int s0), (0, .ref q_o), (1, .long x1), (6, .int x6)]) hx hb d_m_text_74 hl (k := 4) rfl rfl (by decide) rfl (fun ls hl => ?_)
          refine lv_goto (pc := 77) (tgt := 8) hx hb d_m_text_77 (by decide) ?_
          exact hk8 x1 s0 (0 : Int32) (x5 + (1 : Int32)) v_o_fault v_o_size c_o_text _ _ _ hf hP hD hS (lv_sub hl [3, 4, 2, 1, 0] rfl)
        · rw [if_neg hc] at hf
          refine lv_iconst (pc := 67) (v := (1 : Int32)) hx hb d_m_text_67 (by decide) ?_
          refine lv_goto (pc := 68) (tgt := 72) hx hb d_m_text_68 (by decide) ?_
          refine lv_istore (pc := 72) (lv' := [(4, .int (1 : Int32)), (3, .int s0), (0, .ref q_o), (1, .long x1), (5, .int x5), (6, .int x6)]) hx hb d_m_text_72 hl (by decide) rfl (fun ls hl => ?_)
          refine lv_iinc (pc := 74) (v := (x5 + (1 : Int32))) (lv' := [(5, .int (x5 + (1 : Int32))), (4, .int (1 : Int32)), (3, .int s0), (0, .ref q_o), (1, .long x1), (6, .int x6)]) hx hb d_m_text_74 hl (k := 4) rfl rfl (by decide) rfl (fun ls hl => ?_)
          refine lv_goto (pc := 77) (tgt := 8) hx hb d_m_text_77 (by decide) ?_
          exact hk8 x1 s0 (1 : Int32) (x5 + (1 : Int32)) v_o_fault v_o_size c_o_text _ _ _ hf hP hD hS (lv_sub hl [3, 4, 2, 1, 0] rfl)
  have hB8 : ∀ (k8 : Int64 → Int32 → Int32 → Int32 → Int32 → (Nat → Int32) → Option (Int32 × Int32 × Int32 × (Nat → Int32))), (∀ (x1 : Int64) (x3 : Int32) (x4 : Int32) (x5 : Int32) (v_o_fault : Int32) (v_o_size : Int32) (c_o_text : (Nat → Int32)) (H : Heap) (locs : List Loc) (ls : Array Slot), k8 x1 x3 x4 x5 v_o_size c_o_text = some (rv, v_o_fault_z, v_o_size_z, c_o_text_z) → va_P (dC, dI) clz [(q_o, .inr (7, f_Model v_o_fault v_o_size q_o_text v_o_commands q_o_kinds q_o_numbers v_o_drawn q_o_drawnKinds q_o_drawnNumbers v_o_depth q_o_matrix v_o_at v_o_value v_o_wrong v_o_wantsMove v_o_x v_o_y v_o_startX v_o_startY v_o_before v_o_turnX v_o_turnY q_o_given v_o_written q_o_signs v_o_edges q_o_fromX q_o_fromY q_o_toX q_o_toY v_o_wide v_o_high q_o_points v_o_behind v_o_whole)), (q_o_text, .inl (k_o_text, 1200, .inl c_o_text))] H → va_D A [(q_o, .inr (7, f_Model v_o_fault v_o_size q_o_text v_o_commands q_o_kinds q_o_numbers v_o_drawn q_o_drawnKinds q_o_drawnNumbers v_o_depth q_o_matrix v_o_at v_o_value v_o_wrong v_o_wantsMove v_o_x v_o_y v_o_startX v_o_startY v_o_before v_o_turnX v_o_turnY q_o_given v_o_written q_o_signs v_o_edges q_o_fromX q_o_fromY q_o_toX q_o_toY v_o_wide v_o_high q_o_points v_o_behind v_o_whole)), (q_o_text, .inl (k_o_text, 1200, .inl c_o_text))] → va_S A s.heap H locs → lv_has ls 7 [(0, .ref q_o), (1, .long x1), (3, .int x3), (4, .int x4), (5, .int x5)] → W p l e (headSpec w_m_text ({ frames := 1, cells := 0, slots := 0, locals := 25 })).room s m args below meth c H locs 0 0 Q (F0 m 8 ls [])) → ∀ (x1 : Int64) (x3 : Int32) (x4 : Int32) (x5 : Int32) (v_o_fault : Int32) (v_o_size : Int32) (c_o_text : (Nat → Int32)) (H : Heap) (locs : List Loc) (ls : Array Slot), m_text_B8 N k8 x1 x3 x4 x5 v_o_size c_o_text = some (rv, v_o_fault_z, v_o_size_z, c_o_text_z) → va_P (dC, dI) clz [(q_o, .inr (7, f_Model v_o_fault v_o_size q_o_text v_o_commands q_o_kinds q_o_numbers v_o_drawn q_o_drawnKinds q_o_drawnNumbers v_o_depth q_o_matrix v_o_at v_o_value v_o_wrong v_o_wantsMove v_o_x v_o_y v_o_startX v_o_startY v_o_before v_o_turnX v_o_turnY q_o_given v_o_written q_o_signs v_o_edges q_o_fromX q_o_fromY q_o_toX q_o_toY v_o_wide v_o_high q_o_points v_o_behind v_o_whole)), (q_o_text, .inl (k_o_text, 1200, .inl c_o_text))] H → va_D A [(q_o, .inr (7, f_Model v_o_fault v_o_size q_o_text v_o_commands q_o_kinds q_o_numbers v_o_drawn q_o_drawnKinds q_o_drawnNumbers v_o_depth q_o_matrix v_o_at v_o_value v_o_wrong v_o_wantsMove v_o_x v_o_y v_o_startX v_o_startY v_o_before v_o_turnX v_o_turnY q_o_given v_o_written q_o_signs v_o_edges q_o_fromX q_o_fromY q_o_toX q_o_toY v_o_wide v_o_high q_o_points v_o_behind v_o_whole)), (q_o_text, .inl (k_o_text, 1200, .inl c_o_text))] → va_S A s.heap H locs → lv_has ls 7 [(0, .ref q_o), (1, .long x1), (3, .int x3), (4, .int x4), (5, .int x5)] → W p l e (headSpec w_m_text ({ frames := 1, cells := 0, slots := 0, locals := 25 })).room s m args below meth c H locs 0 0 Q (F0 m 8 ls []) := by
    intro k8 hk8
    intro x1 x3 x4 x5 v_o_fault v_o_size c_o_text H locs ls hf hP hD hS hl
    rw [m_text_B8] at hf
    refine lv_iload (pc := 8) hx hb d_m_text_8 (lv_at hl 4 rfl) ?_
    refine lv_bipush (pc := 10) (v := (8 : Int32)) hx hb d_m_text_10 (by decide) ?_
    refine lv_icmp_ge (pc := 12) (tgt := 80) hx hb d_m_text_12 (by decide) (fun hc => ?_) (fun hc => ?_)
    · rw [if_pos hc] at hf
      refine lv_aload_n (pc := 80) hx hb d_m_text_80 rfl (lv_at hl 0 rfl) ?_
      refine lv_iload (pc := 81) hx hb d_m_text_81 (lv_at hl 3 rfl) ?_
      refine lv_if_ne (pc := 83) (tgt := 90) hx hb d_m_text_83 (by decide) (fun hc => ?_) (fun hc => ?_)
      · rw [if_neg hc] at hf
        refine lv_aload_n (pc := 90) hx hb d_m_text_90 rfl (lv_at hl 0 rfl) ?_
        refine va_get (pc := 91) (D := (dC, dI)) (ci := 7) (v := .int v_o_size) (C := "PathTextsModel") (T := F_Model) (N := 35) hx hb hts (fun w h => List.mem_cons_of_mem _ (in_Model w h)) hown hK hP 0 rfl rfl 1 (by decide) (hts _ (List.mem_cons_of_mem _ kw_672)) (fun _ h9 => h9) fg_Model_1 d_m_text_91 ?_
        refine lv_iload_n (pc := 94) hx hb d_m_text_94 rfl (lv_at hl 2 rfl) ?_
        refine lv_iadd (pc := 95) hx hb d_m_text_95 ?_
        refine lv_sipush (pc := 96) (v := (1200 : Int32)) hx hb d_m_text_96 (by decide) ?_
        refine lv_icmp_le (pc := 99) (tgt := 106) hx hb d_m_text_99 (by decide) (fun hc => ?_) (fun hc => ?_)
        · rw [if_pos hc] at hf
          refine lv_iconst (pc := 106) (v := (0 : Int32)) hx hb d_m_text_106 (by decide) ?_
          exact hb107 x1 (0 : Int32) v_o_fault v_o_size c_o_text _ _ _ hf hP hD hS (lv_sub hl [0, 1] rfl)
        · rw [if_neg hc] at hf
          refine lv_iconst (pc := 102) (v := (2 : Int32)) hx hb d_m_text_102 (by decide) ?_
          refine lv_goto (pc := 103) (tgt := 107) hx hb d_m_text_103 (by decide) ?_
          exact hb107 x1 (2 : Int32) v_o_fault v_o_size c_o_text _ _ _ hf hP hD hS (lv_sub hl [0, 1] rfl)
      · rw [if_pos hc] at hf
        refine lv_iconst (pc := 86) (v := (1 : Int32)) hx hb d_m_text_86 (by decide) ?_
        refine lv_goto (pc := 87) (tgt := 107) hx hb d_m_text_87 (by decide) ?_
        exact hb107 x1 (1 : Int32) v_o_fault v_o_size c_o_text _ _ _ hf hP hD hS (lv_sub hl [0, 1] rfl)
    · rw [if_neg hc] at hf
      refine lv_lload_n (pc := 15) hx hb d_m_text_15 rfl (lv_at hl 1 rfl) ?_
      refine lv_bipush (pc := 16) (v := (8 : Int32)) hx hb d_m_text_16 (by decide) ?_
      refine lv_iload (pc := 18) hx hb d_m_text_18 (lv_at hl 4 rfl) ?_
      refine lv_imul (pc := 20) hx hb d_m_text_20 ?_
      refine lv_lshr (pc := 21) hx hb d_m_text_21 rfl ?_
      refine lv_ldc2 (pc := 22) hx hb hown (hts _ (List.mem_cons_of_mem _ kw_785)) d_m_text_22 ?_
      refine lv_land (pc := 25) hx hb d_m_text_25 ?_
      refine lv_l2i (pc := 26) hx hb d_m_text_26 rfl ?_
      refine lv_istore (pc := 27) (lv' := [(6, .int (Int64.toInt32 ((x1 >>> (Int32.toInt64 ((8 : Int32) * x5) &&& 63)) &&& (255 : Int64)))), (0, .ref q_o), (1, .long x1), (3, .int x3), (4, .int x4), (5, .int x5)]) hx hb d_m_text_27 hl (by decide) rfl (fun ls hl => ?_)
      refine lv_iload (pc := 29) hx hb d_m_text_29 (lv_at hl 0 rfl) ?_
      refine lv_if_eq (pc := 31) (tgt := 40) hx hb d_m_text_31 (by decide) (fun hc => ?_) (fun hc => ?_)
      · rw [if_pos hc] at hf
        refine lv_iload_n (pc := 40) hx hb d_m_text_40 rfl (lv_at hl 3 rfl) ?_
        exact hb41 k8 hk8 x1 x4 x5 (Int64.toInt32 ((x1 >>> (Int32.toInt64 ((8 : Int32) * x5) &&& 63)) &&& (255 : Int64))) x3 v_o_fault v_o_size c_o_text _ _ _ hf hP hD hS (lv_sub hl [1, 2, 4, 5, 0] rfl)
      · rw [if_neg hc] at hf
        refine lv_iload_n (pc := 34) hx hb d_m_text_34 rfl (lv_at hl 3 rfl) ?_
        refine lv_iconst (pc := 35) (v := (1 : Int32)) hx hb d_m_text_35 (by decide) ?_
        refine lv_iadd (pc := 36) hx hb d_m_text_36 ?_
        refine lv_goto (pc := 37) (tgt := 41) hx hb d_m_text_37 (by decide) ?_
        exact hb41 k8 hk8 x1 x4 x5 (Int64.toInt32 ((x1 >>> (Int32.toInt64 ((8 : Int32) * x5) &&& 63)) &&& (255 : Int64))) (x3 + (1 : Int32)) v_o_fault v_o_size c_o_text _ _ _ hf hP hD hS (lv_sub hl [1, 2, 4, 5, 0] rfl)
  have hL8 : ∀ n : Nat, ∀ (x1 : Int64) (x3 : Int32) (x4 : Int32) (x5 : Int32) (v_o_fault : Int32) (v_o_size : Int32) (c_o_text : (Nat → Int32)) (H : Heap) (locs : List Loc) (ls : Array Slot), (m_text_L8 N n) x1 x3 x4 x5 v_o_size c_o_text = some (rv, v_o_fault_z, v_o_size_z, c_o_text_z) → va_P (dC, dI) clz [(q_o, .inr (7, f_Model v_o_fault v_o_size q_o_text v_o_commands q_o_kinds q_o_numbers v_o_drawn q_o_drawnKinds q_o_drawnNumbers v_o_depth q_o_matrix v_o_at v_o_value v_o_wrong v_o_wantsMove v_o_x v_o_y v_o_startX v_o_startY v_o_before v_o_turnX v_o_turnY q_o_given v_o_written q_o_signs v_o_edges q_o_fromX q_o_fromY q_o_toX q_o_toY v_o_wide v_o_high q_o_points v_o_behind v_o_whole)), (q_o_text, .inl (k_o_text, 1200, .inl c_o_text))] H → va_D A [(q_o, .inr (7, f_Model v_o_fault v_o_size q_o_text v_o_commands q_o_kinds q_o_numbers v_o_drawn q_o_drawnKinds q_o_drawnNumbers v_o_depth q_o_matrix v_o_at v_o_value v_o_wrong v_o_wantsMove v_o_x v_o_y v_o_startX v_o_startY v_o_before v_o_turnX v_o_turnY q_o_given v_o_written q_o_signs v_o_edges q_o_fromX q_o_fromY q_o_toX q_o_toY v_o_wide v_o_high q_o_points v_o_behind v_o_whole)), (q_o_text, .inl (k_o_text, 1200, .inl c_o_text))] → va_S A s.heap H locs → lv_has ls 7 [(0, .ref q_o), (1, .long x1), (3, .int x3), (4, .int x4), (5, .int x5)] → W p l e (headSpec w_m_text ({ frames := 1, cells := 0, slots := 0, locals := 25 })).room s m args below meth c H locs 0 0 Q (F0 m 8 ls []) := by
    intro n
    induction n with
    | zero => intro x1 x3 x4 x5 v_o_fault v_o_size c_o_text H locs ls hf hP hD hS hl; have hf : none = some (rv, v_o_fault_z, v_o_size_z, c_o_text_z) := hf; cases hf
    | succ n ih => exact hB8 (m_text_L8 N n) ih
  rw [m_text] at hf
  refine lv_iconst (pc := 0) (v := (0 : Int32)) hx hb d_m_text_0 (by decide) ?_
  refine lv_istore_n (pc := 1) (lv' := [(3, .int (0 : Int32)), (0, .ref q_o), (1, .long x1)]) hx hb d_m_text_1 rfl hl (by decide) rfl (fun ls hl => ?_)
  refine lv_iconst (pc := 2) (v := (1 : Int32)) hx hb d_m_text_2 (by decide) ?_
  refine lv_istore (pc := 3) (lv' := [(4, .int (1 : Int32)), (3, .int (0 : Int32)), (0, .ref q_o), (1, .long x1)]) hx hb d_m_text_3 hl (by decide) rfl (fun ls hl => ?_)
  refine lv_iconst (pc := 5) (v := (0 : Int32)) hx hb d_m_text_5 (by decide) ?_
  refine lv_istore (pc := 6) (lv' := [(5, .int (0 : Int32)), (4, .int (1 : Int32)), (3, .int (0 : Int32)), (0, .ref q_o), (1, .long x1)]) hx hb d_m_text_6 hl (by decide) rfl (fun ls hl => ?_)
  exact hL8 N x1 (0 : Int32) (1 : Int32) (0 : Int32) v_o_fault v_o_size c_o_text _ _ _ hf hP hD hS (lv_sub hl [3, 4, 2, 1, 0] rfl)
set_option maxHeartbeats 4000000 in
set_option maxRecDepth 100000 in
theorem ct_m_sign (l : Launch) (dC : Nat → ClassId) (dI : Nat → Nat → Nat) (q_o : Nat) (q_o_text : Nat) (q_o_kinds : Nat) (q_o_numbers : Nat) (q_o_drawnKinds : Nat) (q_o_drawnNumbers : Nat) (q_o_matrix : Nat) (q_o_given : Nat) (q_o_signs : Nat) (q_o_fromX : Nat) (q_o_fromY : Nat) (q_o_toX : Nat) (q_o_toY : Nat) (q_o_points : Nat) (k_o_text : ClassId) (sz : Nat) (v_o_fault : Int32) (v_o_size : Int32) (v_o_commands : Int32) (v_o_drawn : Int32) (v_o_depth : Int32) (v_o_at : Int32) (v_o_value : Int64) (v_o_wrong : Int32) (v_o_wantsMove : Int32) (v_o_x : Int64) (v_o_y : Int64) (v_o_startX : Int64) (v_o_startY : Int64) (v_o_before : Int32) (v_o_turnX : Int64) (v_o_turnY : Int64) (v_o_written : Int32) (v_o_edges : Int32) (v_o_wide : Int32) (v_o_high : Int32) (v_o_behind : Int32) (v_o_whole : Int64) (c_o_text : (Nat → Int32)) (rv : Int32) (hf : m_sign v_o_size v_o_at c_o_text = some rv) : Met l y_m_sign w_m_sign ({ frames := 0, cells := 0, slots := 0, locals := 0 }) (va_Pc [.ref q_o] (fun U => U.heap.size = sz ∧ va_P (dC, dI) clz [(q_o, .inr (7, f_Model v_o_fault v_o_size q_o_text v_o_commands q_o_kinds q_o_numbers v_o_drawn q_o_drawnKinds q_o_drawnNumbers v_o_depth q_o_matrix v_o_at v_o_value v_o_wrong v_o_wantsMove v_o_x v_o_y v_o_startX v_o_startY v_o_before v_o_turnX v_o_turnY q_o_given v_o_written q_o_signs v_o_edges q_o_fromX q_o_fromY q_o_toX q_o_toY v_o_wide v_o_high q_o_points v_o_behind v_o_whole)), (q_o_text, .inl (k_o_text, 1200, .inl c_o_text))] U.heap ∧ va_K (dC, dI) clz [(k_o_text, .int)] U ∧ va_D (fun _ => True) [(q_o, .inr (7, f_Model v_o_fault v_o_size q_o_text v_o_commands q_o_kinds q_o_numbers v_o_drawn q_o_drawnKinds q_o_drawnNumbers v_o_depth q_o_matrix v_o_at v_o_value v_o_wrong v_o_wantsMove v_o_x v_o_y v_o_startX v_o_startY v_o_before v_o_turnX v_o_turnY q_o_given v_o_written q_o_signs v_o_edges q_o_fromX q_o_fromY q_o_toX q_o_toY v_o_wide v_o_high q_o_points v_o_behind v_o_whole)), (q_o_text, .inl (k_o_text, 1200, .inl c_o_text))])) (va_Qi (fun (r9 : Int32) (_ : Unit) => r9 = rv) (fun _ t => va_P (dC, dI) clz [(q_o, .inr (7, f_Model v_o_fault v_o_size q_o_text v_o_commands q_o_kinds q_o_numbers v_o_drawn q_o_drawnKinds q_o_drawnNumbers v_o_depth q_o_matrix v_o_at v_o_value v_o_wrong v_o_wantsMove v_o_x v_o_y v_o_startX v_o_startY v_o_before v_o_turnX v_o_turnY q_o_given v_o_written q_o_signs v_o_edges q_o_fromX q_o_fromY q_o_toX q_o_toY v_o_wide v_o_high q_o_points v_o_behind v_o_whole)), (q_o_text, .inl (k_o_text, 1200, .inl c_o_text))] t.heap ∧ va_K (dC, dI) clz [(k_o_text, .int)] t ∧ va_D (va_A [(q_o, .inr (7, f_Model v_o_fault v_o_size q_o_text v_o_commands q_o_kinds q_o_numbers v_o_drawn q_o_drawnKinds q_o_drawnNumbers v_o_depth q_o_matrix v_o_at v_o_value v_o_wrong v_o_wantsMove v_o_x v_o_y v_o_startX v_o_startY v_o_before v_o_turnX v_o_turnY q_o_given v_o_written q_o_signs v_o_edges q_o_fromX q_o_fromY q_o_toX q_o_toY v_o_wide v_o_high q_o_points v_o_behind v_o_whole)), (q_o_text, .inl (k_o_text, 1200, .inl c_o_text))] sz) [(q_o, .inr (7, f_Model v_o_fault v_o_size q_o_text v_o_commands q_o_kinds q_o_numbers v_o_drawn q_o_drawnKinds q_o_drawnNumbers v_o_depth q_o_matrix v_o_at v_o_value v_o_wrong v_o_wantsMove v_o_x v_o_y v_o_startX v_o_startY v_o_before v_o_turnX v_o_turnY q_o_given v_o_written q_o_signs v_o_edges q_o_fromX q_o_fromY q_o_toX q_o_toY v_o_wide v_o_high q_o_points v_o_behind v_o_whole)), (q_o_text, .inl (k_o_text, 1200, .inl c_o_text))]) (va_A [(q_o, .inr (7, f_Model v_o_fault v_o_size q_o_text v_o_commands q_o_kinds q_o_numbers v_o_drawn q_o_drawnKinds q_o_drawnNumbers v_o_depth q_o_matrix v_o_at v_o_value v_o_wrong v_o_wantsMove v_o_x v_o_y v_o_startX v_o_startY v_o_before v_o_turnX v_o_turnY q_o_given v_o_written q_o_signs v_o_edges q_o_fromX q_o_fromY q_o_toX q_o_toY v_o_wide v_o_high q_o_points v_o_behind v_o_whole)), (q_o_text, .inl (k_o_text, 1200, .inl c_o_text))] sz)) 0 0 (va_A [(q_o, .inr (7, f_Model v_o_fault v_o_size q_o_text v_o_commands q_o_kinds q_o_numbers v_o_drawn q_o_drawnKinds q_o_drawnNumbers v_o_depth q_o_matrix v_o_at v_o_value v_o_wrong v_o_wantsMove v_o_x v_o_y v_o_startX v_o_startY v_o_before v_o_turnX v_o_turnY q_o_given v_o_written q_o_signs v_o_edges q_o_fromX q_o_fromY q_o_toX q_o_toY v_o_wide v_o_high q_o_points v_o_behind v_o_whole)), (q_o_text, .inl (k_o_text, 1200, .inl c_o_text))] sz) := by
  refine Met.ofW (cc := prog_10_method_6_code) (maxL := 1) (ret := (some .int)) (by decide +kernel) rfl ?_
  intro p e s m args below meth c s₁ B hml hv
  obtain ⟨hargs, hsz, hP, hK, hD0⟩ := hv
  have hx := B.exec
  have hb := B.bytes
  have hr := B.returns
  have hts := atoms_spec (ws := w_m_sign) B.pre
  have hown : s.vm.findClass "PathTextsModel" = some m.cls := findClass_of_methodNamed B.named
  have hlocks := B.notSynchronized
  subst hsz
  have hD := hD0.self (sz := s.heap.size)
  generalize hAe : va_A [(q_o, .inr (7, f_Model v_o_fault v_o_size q_o_text v_o_commands q_o_kinds q_o_numbers v_o_drawn q_o_drawnKinds q_o_drawnNumbers v_o_depth q_o_matrix v_o_at v_o_value v_o_wrong v_o_wantsMove v_o_x v_o_y v_o_startX v_o_startY v_o_before v_o_turnX v_o_turnY q_o_given v_o_written q_o_signs v_o_edges q_o_fromX q_o_fromY q_o_toX q_o_toY v_o_wide v_o_high q_o_points v_o_behind v_o_whole)), (q_o_text, .inl (k_o_text, 1200, .inl c_o_text))] s.heap.size = A at hD ⊢
  have hA : ∀ q : Nat, s.heap.size ≤ q → A q := fun q h => by rw [← hAe]; exact Or.inr h
  clear hAe hD0
  have hS : va_S A s.heap s.heap [] := va_S.rf
  have hl := lv_entry ([.ref q_o]) (n := 1) (Nat.le_of_ble_eq_true rfl)
  have hent : entryFrame m args 1 = F0 m 0 (lg_sl ([.ref q_o]) ++ List.replicate (1 - (lg_sl ([.ref q_o])).length) Slot.unset).toArray [] := by rw [hargs, lg_entry_eq]
  rw [hent]
  clear hent hargs
  generalize (lg_sl ([.ref q_o]) ++ List.replicate (1 - (lg_sl ([.ref q_o])).length) Slot.unset).toArray = ls at hl ⊢
  have hl : lv_has ls 1 [(0, .ref q_o)] := hl
  suffices key : ∀ Q : State → Prop, (∀ (pc : Nat) (H : Heap) (locs : List Loc) (ls : Array Slot), decode prog_10_method_6_code pc = .ok (.ireturn, 1) → va_P (dC, dI) clz [(q_o, .inr (7, f_Model v_o_fault v_o_size q_o_text v_o_commands q_o_kinds q_o_numbers v_o_drawn q_o_drawnKinds q_o_drawnNumbers v_o_depth q_o_matrix v_o_at v_o_value v_o_wrong v_o_wantsMove v_o_x v_o_y v_o_startX v_o_startY v_o_before v_o_turnX v_o_turnY q_o_given v_o_written q_o_signs v_o_edges q_o_fromX q_o_fromY q_o_toX q_o_toY v_o_wide v_o_high q_o_points v_o_behind v_o_whole)), (q_o_text, .inl (k_o_text, 1200, .inl c_o_text))] H → va_D A [(q_o, .inr (7, f_Model v_o_fault v_o_size q_o_text v_o_commands q_o_kinds q_o_numbers v_o_drawn q_o_drawnKinds q_o_drawnNumbers v_o_depth q_o_matrix v_o_at v_o_value v_o_wrong v_o_wantsMove v_o_x v_o_y v_o_startX v_o_startY v_o_before v_o_turnX v_o_turnY q_o_given v_o_written q_o_signs v_o_edges q_o_fromX q_o_fromY q_o_toX q_o_toY v_o_wide v_o_high q_o_points v_o_behind v_o_whole)), (q_o_text, .inl (k_o_text, 1200, .inl c_o_text))] → va_S A s.heap H locs → W p l e (headSpec w_m_sign ({ frames := 0, cells := 0, slots := 0, locals := 0 })).room s m args below meth c H locs 0 0 Q (F0 m pc ls [.int rv])) → W p l e (headSpec w_m_sign ({ frames := 0, cells := 0, slots := 0, locals := 0 })).room s m args below meth c s.heap [] 0 0 Q (F0 m 0 ls []) from key _ (fun pc H locs ls hd hP hD hS => W.iret hx hb hr (fun t ht hW => ⟨⟨rv, (), rfl, rfl, by rw [ht]; exact hP, va_K.moved hW.alike hK, hD⟩, hS.F ht⟩) hS.2.2 hd)
  intro Q hRet
  rw [m_sign] at hf
  refine lv_aload_n (pc := 0) hx hb d_m_sign_0 rfl (lv_at hl 0 rfl) ?_
  refine va_get (pc := 1) (D := (dC, dI)) (ci := 7) (v := .int v_o_at) (C := "PathTextsModel") (T := F_Model) (N := 35) hx hb hts (fun w h => List.mem_cons_of_mem _ (in_Model w h)) hown hK hP 0 rfl rfl 11 (by decide) (hts _ (List.mem_cons_of_mem _ kw_682)) (fun _ h9 => h9) fg_Model_11 d_m_sign_1 ?_
  refine lv_aload_n (pc := 4) hx hb d_m_sign_4 rfl (lv_at hl 0 rfl) ?_
  refine va_get (pc := 5) (D := (dC, dI)) (ci := 7) (v := .int v_o_size) (C := "PathTextsModel") (T := F_Model) (N := 35) hx hb hts (fun w h => List.mem_cons_of_mem _ (in_Model w h)) hown hK hP 0 rfl rfl 1 (by decide) (hts _ (List.mem_cons_of_mem _ kw_672)) (fun _ h9 => h9) fg_Model_1 d_m_sign_5 ?_
  refine lv_icmp_ge (pc := 8) (tgt := 23) hx hb d_m_sign_8 (by decide) (fun hc => ?_) (fun hc => ?_)
  · rw [if_pos hc] at hf
    refine lv_iconst (pc := 23) (v := (0 : Int32)) hx hb d_m_sign_23 (by decide) ?_
    have e_0 := kr1 hf
    rw [e_0]
    exact hRet 24 _ _ _ d_m_sign_24 hP hD hS
  · rw [if_neg hc] at hf
    refine lv_aload_n (pc := 11) hx hb d_m_sign_11 rfl (lv_at hl 0 rfl) ?_
    refine va_get (pc := 12) (D := (dC, dI)) (ci := 7) (v := .ref q_o_text) (C := "PathTextsModel") (T := F_Model) (N := 35) hx hb hts (fun w h => List.mem_cons_of_mem _ (in_Model w h)) hown hK hP 0 rfl rfl 2 (by decide) (hts _ (List.mem_cons_of_mem _ kw_673)) (fun _ h9 => h9) fg_Model_2 d_m_sign_12 ?_
    refine lv_aload_n (pc := 15) hx hb d_m_sign_15 rfl (lv_at hl 0 rfl) ?_
    refine va_get (pc := 16) (D := (dC, dI)) (ci := 7) (v := .int v_o_at) (C := "PathTextsModel") (T := F_Model) (N := 35) hx hb hts (fun w h => List.mem_cons_of_mem _ (in_Model w h)) hown hK hP 0 rfl rfl 11 (by decide) (hts _ (List.mem_cons_of_mem _ kw_682)) (fun _ h9 => h9) fg_Model_11 d_m_sign_16 ?_
    obtain ⟨hg1, hf⟩ := kg_some hf
    refine va_iald (pc := 19) hx hb hK hP 1 0 rfl rfl (ki_in hg1) d_m_sign_19 ?_
    refine lv_goto (pc := 20) (tgt := 24) hx hb d_m_sign_20 (by decide) ?_
    have e_0 := kr1 hf
    rw [e_0]
    exact hRet 24 _ _ _ d_m_sign_24 hP hD hS
set_option maxHeartbeats 4000000 in
set_option maxRecDepth 100000 in
theorem ct_m_skip (l : Launch) (dC : Nat → ClassId) (dI : Nat → Nat → Nat) (q_o : Nat) (q_o_text : Nat) (q_o_kinds : Nat) (q_o_numbers : Nat) (q_o_drawnKinds : Nat) (q_o_drawnNumbers : Nat) (q_o_matrix : Nat) (q_o_given : Nat) (q_o_signs : Nat) (q_o_fromX : Nat) (q_o_fromY : Nat) (q_o_toX : Nat) (q_o_toY : Nat) (q_o_points : Nat) (k_o_text : ClassId) (sz : Nat) (N : Nat) (v_o_fault : Int32) (v_o_size : Int32) (v_o_commands : Int32) (v_o_drawn : Int32) (v_o_depth : Int32) (v_o_at : Int32) (v_o_value : Int64) (v_o_wrong : Int32) (v_o_wantsMove : Int32) (v_o_x : Int64) (v_o_y : Int64) (v_o_startX : Int64) (v_o_startY : Int64) (v_o_before : Int32) (v_o_turnX : Int64) (v_o_turnY : Int64) (v_o_written : Int32) (v_o_edges : Int32) (v_o_wide : Int32) (v_o_high : Int32) (v_o_behind : Int32) (v_o_whole : Int64) (c_o_text : (Nat → Int32)) (v_o_at_z : Int32) (hf : m_skip N v_o_size v_o_at c_o_text = some v_o_at_z) : Met l y_m_skip w_m_skip ({ frames := 1, cells := 0, slots := 0, locals := 20 }) (va_Pc [.ref q_o] (fun U => U.heap.size = sz ∧ va_P (dC, dI) clz [(q_o, .inr (7, f_Model v_o_fault v_o_size q_o_text v_o_commands q_o_kinds q_o_numbers v_o_drawn q_o_drawnKinds q_o_drawnNumbers v_o_depth q_o_matrix v_o_at v_o_value v_o_wrong v_o_wantsMove v_o_x v_o_y v_o_startX v_o_startY v_o_before v_o_turnX v_o_turnY q_o_given v_o_written q_o_signs v_o_edges q_o_fromX q_o_fromY q_o_toX q_o_toY v_o_wide v_o_high q_o_points v_o_behind v_o_whole)), (q_o_text, .inl (k_o_text, 1200, .inl c_o_text))] U.heap ∧ va_K (dC, dI) clz [(k_o_text, .int)] U ∧ va_D (fun _ => True) [(q_o, .inr (7, f_Model v_o_fault v_o_size q_o_text v_o_commands q_o_kinds q_o_numbers v_o_drawn q_o_drawnKinds q_o_drawnNumbers v_o_depth q_o_matrix v_o_at v_o_value v_o_wrong v_o_wantsMove v_o_x v_o_y v_o_startX v_o_startY v_o_before v_o_turnX v_o_turnY q_o_given v_o_written q_o_signs v_o_edges q_o_fromX q_o_fromY q_o_toX q_o_toY v_o_wide v_o_high q_o_points v_o_behind v_o_whole)), (q_o_text, .inl (k_o_text, 1200, .inl c_o_text))])) (va_Qv (fun _ : Unit => True) (fun _ t => va_P (dC, dI) clz [(q_o, .inr (7, f_Model v_o_fault v_o_size q_o_text v_o_commands q_o_kinds q_o_numbers v_o_drawn q_o_drawnKinds q_o_drawnNumbers v_o_depth q_o_matrix v_o_at_z v_o_value v_o_wrong v_o_wantsMove v_o_x v_o_y v_o_startX v_o_startY v_o_before v_o_turnX v_o_turnY q_o_given v_o_written q_o_signs v_o_edges q_o_fromX q_o_fromY q_o_toX q_o_toY v_o_wide v_o_high q_o_points v_o_behind v_o_whole)), (q_o_text, .inl (k_o_text, 1200, .inl c_o_text))] t.heap ∧ va_K (dC, dI) clz [(k_o_text, .int)] t ∧ va_D (va_A [(q_o, .inr (7, f_Model v_o_fault v_o_size q_o_text v_o_commands q_o_kinds q_o_numbers v_o_drawn q_o_drawnKinds q_o_drawnNumbers v_o_depth q_o_matrix v_o_at v_o_value v_o_wrong v_o_wantsMove v_o_x v_o_y v_o_startX v_o_startY v_o_before v_o_turnX v_o_turnY q_o_given v_o_written q_o_signs v_o_edges q_o_fromX q_o_fromY q_o_toX q_o_toY v_o_wide v_o_high q_o_points v_o_behind v_o_whole)), (q_o_text, .inl (k_o_text, 1200, .inl c_o_text))] sz) [(q_o, .inr (7, f_Model v_o_fault v_o_size q_o_text v_o_commands q_o_kinds q_o_numbers v_o_drawn q_o_drawnKinds q_o_drawnNumbers v_o_depth q_o_matrix v_o_at_z v_o_value v_o_wrong v_o_wantsMove v_o_x v_o_y v_o_startX v_o_startY v_o_before v_o_turnX v_o_turnY q_o_given v_o_written q_o_signs v_o_edges q_o_fromX q_o_fromY q_o_toX q_o_toY v_o_wide v_o_high q_o_points v_o_behind v_o_whole)), (q_o_text, .inl (k_o_text, 1200, .inl c_o_text))]) (va_A [(q_o, .inr (7, f_Model v_o_fault v_o_size q_o_text v_o_commands q_o_kinds q_o_numbers v_o_drawn q_o_drawnKinds q_o_drawnNumbers v_o_depth q_o_matrix v_o_at v_o_value v_o_wrong v_o_wantsMove v_o_x v_o_y v_o_startX v_o_startY v_o_before v_o_turnX v_o_turnY q_o_given v_o_written q_o_signs v_o_edges q_o_fromX q_o_fromY q_o_toX q_o_toY v_o_wide v_o_high q_o_points v_o_behind v_o_whole)), (q_o_text, .inl (k_o_text, 1200, .inl c_o_text))] sz)) 0 0 (va_A [(q_o, .inr (7, f_Model v_o_fault v_o_size q_o_text v_o_commands q_o_kinds q_o_numbers v_o_drawn q_o_drawnKinds q_o_drawnNumbers v_o_depth q_o_matrix v_o_at v_o_value v_o_wrong v_o_wantsMove v_o_x v_o_y v_o_startX v_o_startY v_o_before v_o_turnX v_o_turnY q_o_given v_o_written q_o_signs v_o_edges q_o_fromX q_o_fromY q_o_toX q_o_toY v_o_wide v_o_high q_o_points v_o_behind v_o_whole)), (q_o_text, .inl (k_o_text, 1200, .inl c_o_text))] sz) := by
  refine Met.ofW (cc := prog_10_method_7_code) (maxL := 1) (ret := none) (by decide +kernel) rfl ?_
  intro p e s m args below meth c s₁ B hml hv
  obtain ⟨hargs, hsz, hP, hK, hD0⟩ := hv
  have hx := B.exec
  have hb := B.bytes
  have hr := B.returns
  have hts := atoms_spec (ws := w_m_skip) B.pre
  have hown : s.vm.findClass "PathTextsModel" = some m.cls := findClass_of_methodNamed B.named
  have hlocks := B.notSynchronized
  subst hsz
  have hD := hD0.self (sz := s.heap.size)
  generalize hAe : va_A [(q_o, .inr (7, f_Model v_o_fault v_o_size q_o_text v_o_commands q_o_kinds q_o_numbers v_o_drawn q_o_drawnKinds q_o_drawnNumbers v_o_depth q_o_matrix v_o_at v_o_value v_o_wrong v_o_wantsMove v_o_x v_o_y v_o_startX v_o_startY v_o_before v_o_turnX v_o_turnY q_o_given v_o_written q_o_signs v_o_edges q_o_fromX q_o_fromY q_o_toX q_o_toY v_o_wide v_o_high q_o_points v_o_behind v_o_whole)), (q_o_text, .inl (k_o_text, 1200, .inl c_o_text))] s.heap.size = A at hD ⊢
  have hA : ∀ q : Nat, s.heap.size ≤ q → A q := fun q h => by rw [← hAe]; exact Or.inr h
  clear hAe hD0
  have hS : va_S A s.heap s.heap [] := va_S.rf
  have hl := lv_entry ([.ref q_o]) (n := 1) (Nat.le_of_ble_eq_true rfl)
  have hent : entryFrame m args 1 = F0 m 0 (lg_sl ([.ref q_o]) ++ List.replicate (1 - (lg_sl ([.ref q_o])).length) Slot.unset).toArray [] := by rw [hargs, lg_entry_eq]
  rw [hent]
  clear hent hargs
  generalize (lg_sl ([.ref q_o]) ++ List.replicate (1 - (lg_sl ([.ref q_o])).length) Slot.unset).toArray = ls at hl ⊢
  have hl : lv_has ls 1 [(0, .ref q_o)] := hl
  suffices key : ∀ Q : State → Prop, (∀ (pc : Nat) (H : Heap) (locs : List Loc) (ls : Array Slot), decode prog_10_method_7_code pc = .ok (.return_, 1) → va_P (dC, dI) clz [(q_o, .inr (7, f_Model v_o_fault v_o_size q_o_text v_o_commands q_o_kinds q_o_numbers v_o_drawn q_o_drawnKinds q_o_drawnNumbers v_o_depth q_o_matrix v_o_at_z v_o_value v_o_wrong v_o_wantsMove v_o_x v_o_y v_o_startX v_o_startY v_o_before v_o_turnX v_o_turnY q_o_given v_o_written q_o_signs v_o_edges q_o_fromX q_o_fromY q_o_toX q_o_toY v_o_wide v_o_high q_o_points v_o_behind v_o_whole)), (q_o_text, .inl (k_o_text, 1200, .inl c_o_text))] H → va_D A [(q_o, .inr (7, f_Model v_o_fault v_o_size q_o_text v_o_commands q_o_kinds q_o_numbers v_o_drawn q_o_drawnKinds q_o_drawnNumbers v_o_depth q_o_matrix v_o_at_z v_o_value v_o_wrong v_o_wantsMove v_o_x v_o_y v_o_startX v_o_startY v_o_before v_o_turnX v_o_turnY q_o_given v_o_written q_o_signs v_o_edges q_o_fromX q_o_fromY q_o_toX q_o_toY v_o_wide v_o_high q_o_points v_o_behind v_o_whole)), (q_o_text, .inl (k_o_text, 1200, .inl c_o_text))] → va_S A s.heap H locs → W p l e (headSpec w_m_skip ({ frames := 1, cells := 0, slots := 0, locals := 20 })).room s m args below meth c H locs 0 0 Q (F0 m pc ls [])) → W p l e (headSpec w_m_skip ({ frames := 1, cells := 0, slots := 0, locals := 20 })).room s m args below meth c s.heap [] 0 0 Q (F0 m 0 ls []) from key _ (fun pc H locs ls hd hP hD hS => W.vret hx hb hr (fun t ht hW => ⟨⟨(), rfl, trivial, by rw [ht]; exact hP, va_K.moved hW.alike hK, hD⟩, hS.F ht⟩) hS.2.2 hd)
  intro Q hRet
  have hb18 : ∀ (k0 : Int32 → Int32 → (Nat → Int32) → Option (Int32)), (∀ (v_o_at : Int32) (H : Heap) (locs : List Loc) (ls : Array Slot), k0 v_o_size v_o_at c_o_text = some v_o_at_z → va_P (dC, dI) clz [(q_o, .inr (7, f_Model v_o_fault v_o_size q_o_text v_o_commands q_o_kinds q_o_numbers v_o_drawn q_o_drawnKinds q_o_drawnNumbers v_o_depth q_o_matrix v_o_at v_o_value v_o_wrong v_o_wantsMove v_o_x v_o_y v_o_startX v_o_startY v_o_before v_o_turnX v_o_turnY q_o_given v_o_written q_o_signs v_o_edges q_o_fromX q_o_fromY q_o_toX q_o_toY v_o_wide v_o_high q_o_points v_o_behind v_o_whole)), (q_o_text, .inl (k_o_text, 1200, .inl c_o_text))] H → va_D A [(q_o, .inr (7, f_Model v_o_fault v_o_size q_o_text v_o_commands q_o_kinds q_o_numbers v_o_drawn q_o_drawnKinds q_o_drawnNumbers v_o_depth q_o_matrix v_o_at v_o_value v_o_wrong v_o_wantsMove v_o_x v_o_y v_o_startX v_o_startY v_o_before v_o_turnX v_o_turnY q_o_given v_o_written q_o_signs v_o_edges q_o_fromX q_o_fromY q_o_toX q_o_toY v_o_wide v_o_high q_o_points v_o_behind v_o_whole)), (q_o_text, .inl (k_o_text, 1200, .inl c_o_text))] → va_S A s.heap H locs → lv_has ls 1 [(0, .ref q_o)] → W p l e (headSpec w_m_skip ({ frames := 1, cells := 0, slots := 0, locals := 20 })).room s m args below meth c H locs 0 0 Q (F0 m 0 ls [])) → ∀ (v_o_at : Int32) (H : Heap) (locs : List Loc) (ls : Array Slot), m_skip_b18 N k0 v_o_size v_o_at c_o_text = some v_o_at_z → va_P (dC, dI) clz [(q_o, .inr (7, f_Model v_o_fault v_o_size q_o_text v_o_commands q_o_kinds q_o_numbers v_o_drawn q_o_drawnKinds q_o_drawnNumbers v_o_depth q_o_matrix v_o_at v_o_value v_o_wrong v_o_wantsMove v_o_x v_o_y v_o_startX v_o_startY v_o_before v_o_turnX v_o_turnY q_o_given v_o_written q_o_signs v_o_edges q_o_fromX q_o_fromY q_o_toX q_o_toY v_o_wide v_o_high q_o_points v_o_behind v_o_whole)), (q_o_text, .inl (k_o_text, 1200, .inl c_o_text))] H → va_D A [(q_o, .inr (7, f_Model v_o_fault v_o_size q_o_text v_o_commands q_o_kinds q_o_numbers v_o_drawn q_o_drawnKinds q_o_drawnNumbers v_o_depth q_o_matrix v_o_at v_o_value v_o_wrong v_o_wantsMove v_o_x v_o_y v_o_startX v_o_startY v_o_before v_o_turnX v_o_turnY q_o_given v_o_written q_o_signs v_o_edges q_o_fromX q_o_fromY q_o_toX q_o_toY v_o_wide v_o_high q_o_points v_o_behind v_o_whole)), (q_o_text, .inl (k_o_text, 1200, .inl c_o_text))] → va_S A s.heap H locs → lv_has ls 1 [(0, .ref q_o)] → W p l e (headSpec w_m_skip ({ frames := 1, cells := 0, slots := 0, locals := 20 })).room s m args below meth c H locs 0 0 Q (F0 m 18 ls []) := by
    intro k0 hk0
    intro v_o_at H locs ls hf hP hD hS hl
    rw [m_skip_b18] at hf
    refine lv_aload_n (pc := 18) hx hb d_m_skip_18 rfl (lv_at hl 0 rfl) ?_
    refine lv_dup (pc := 19) hx hb d_m_skip_19 rfl ?_
    refine va_get (pc := 20) (D := (dC, dI)) (ci := 7) (v := .int v_o_at) (C := "PathTextsModel") (T := F_Model) (N := 35) hx hb hts (fun w h => List.mem_cons_of_mem _ (in_Model w h)) hown hK hP 0 rfl rfl 11 (by decide) (hts _ (List.mem_cons_of_mem _ kw_682)) (fun _ h9 => h9) fg_Model_11 d_m_skip_20 ?_
    refine lv_iconst (pc := 23) (v := (1 : Int32)) hx hb d_m_skip_23 (by decide) ?_
    refine lv_iadd (pc := 24) hx hb d_m_skip_24 ?_
    refine kx_put (pc := 25) (D := (dC, dI)) (ci := 7) (v := .int (v_o_at + (1 : Int32))) (ty := .int) (C := "PathTextsModel") (T := F_Model) (N := 35) hx hb hts (fun w h => List.mem_cons_of_mem _ (in_Model w h)) t_Model tk_Model n_Model hown hK hP hD hS 0 rfl rfl 11 (by decide) (hts _ (List.mem_cons_of_mem _ kw_682)) (fun _ h9 => h9) rfl (tk_Model 11 (by decide)) rfl rfl fl_Model_11 fs_Model_11 (ws' := [(q_o, .inr (7, f_Model v_o_fault v_o_size q_o_text v_o_commands q_o_kinds q_o_numbers v_o_drawn q_o_drawnKinds q_o_drawnNumbers v_o_depth q_o_matrix (v_o_at + (1 : Int32)) v_o_value v_o_wrong v_o_wantsMove v_o_x v_o_y v_o_startX v_o_startY v_o_before v_o_turnX v_o_turnY q_o_given v_o_written q_o_signs v_o_edges q_o_fromX q_o_fromY q_o_toX q_o_toY v_o_wide v_o_high q_o_points v_o_behind v_o_whole)), (q_o_text, .inl (k_o_text, 1200, .inl c_o_text))]) rfl d_m_skip_25 (fun H locs hP hD hS => ?_)
    refine lv_goto (pc := 28) (tgt := 0) hx hb d_m_skip_28 (by decide) ?_
    exact hk0 (v_o_at + (1 : Int32)) _ _ _ hf hP hD hS (lv_sub hl [0] rfl)
  have hB0 : ∀ (k0 : Int32 → Int32 → (Nat → Int32) → Option (Int32)), (∀ (v_o_at : Int32) (H : Heap) (locs : List Loc) (ls : Array Slot), k0 v_o_size v_o_at c_o_text = some v_o_at_z → va_P (dC, dI) clz [(q_o, .inr (7, f_Model v_o_fault v_o_size q_o_text v_o_commands q_o_kinds q_o_numbers v_o_drawn q_o_drawnKinds q_o_drawnNumbers v_o_depth q_o_matrix v_o_at v_o_value v_o_wrong v_o_wantsMove v_o_x v_o_y v_o_startX v_o_startY v_o_before v_o_turnX v_o_turnY q_o_given v_o_written q_o_signs v_o_edges q_o_fromX q_o_fromY q_o_toX q_o_toY v_o_wide v_o_high q_o_points v_o_behind v_o_whole)), (q_o_text, .inl (k_o_text, 1200, .inl c_o_text))] H → va_D A [(q_o, .inr (7, f_Model v_o_fault v_o_size q_o_text v_o_commands q_o_kinds q_o_numbers v_o_drawn q_o_drawnKinds q_o_drawnNumbers v_o_depth q_o_matrix v_o_at v_o_value v_o_wrong v_o_wantsMove v_o_x v_o_y v_o_startX v_o_startY v_o_before v_o_turnX v_o_turnY q_o_given v_o_written q_o_signs v_o_edges q_o_fromX q_o_fromY q_o_toX q_o_toY v_o_wide v_o_high q_o_points v_o_behind v_o_whole)), (q_o_text, .inl (k_o_text, 1200, .inl c_o_text))] → va_S A s.heap H locs → lv_has ls 1 [(0, .ref q_o)] → W p l e (headSpec w_m_skip ({ frames := 1, cells := 0, slots := 0, locals := 20 })).room s m args below meth c H locs 0 0 Q (F0 m 0 ls [])) → ∀ (v_o_at : Int32) (H : Heap) (locs : List Loc) (ls : Array Slot), m_skip_B0 N k0 v_o_size v_o_at c_o_text = some v_o_at_z → va_P (dC, dI) clz [(q_o, .inr (7, f_Model v_o_fault v_o_size q_o_text v_o_commands q_o_kinds q_o_numbers v_o_drawn q_o_drawnKinds q_o_drawnNumbers v_o_depth q_o_matrix v_o_at v_o_value v_o_wrong v_o_wantsMove v_o_x v_o_y v_o_startX v_o_startY v_o_before v_o_turnX v_o_turnY q_o_given v_o_written q_o_signs v_o_edges q_o_fromX q_o_fromY q_o_toX q_o_toY v_o_wide v_o_high q_o_points v_o_behind v_o_whole)), (q_o_text, .inl (k_o_text, 1200, .inl c_o_text))] H → va_D A [(q_o, .inr (7, f_Model v_o_fault v_o_size q_o_text v_o_commands q_o_kinds q_o_numbers v_o_drawn q_o_drawnKinds q_o_drawnNumbers v_o_depth q_o_matrix v_o_at v_o_value v_o_wrong v_o_wantsMove v_o_x v_o_y v_o_startX v_o_startY v_o_before v_o_turnX v_o_turnY q_o_given v_o_written q_o_signs v_o_edges q_o_fromX q_o_fromY q_o_toX q_o_toY v_o_wide v_o_high q_o_points v_o_behind v_o_whole)), (q_o_text, .inl (k_o_text, 1200, .inl c_o_text))] → va_S A s.heap H locs → lv_has ls 1 [(0, .ref q_o)] → W p l e (headSpec w_m_skip ({ frames := 1, cells := 0, slots := 0, locals := 20 })).room s m args below meth c H locs 0 0 Q (F0 m 0 ls []) := by
    intro k0 hk0
    intro v_o_at H locs ls hf hP hD hS hl
    rw [m_skip_B0] at hf
    refine lv_aload_n (pc := 0) hx hb d_m_skip_0 rfl (lv_at hl 0 rfl) ?_
    obtain ⟨r1, hz, hf⟩ := kb1_some hf
    have hPc := hP.sub (ws' := [(q_o, .inr (7, f_Model v_o_fault v_o_size q_o_text v_o_commands q_o_kinds q_o_numbers v_o_drawn q_o_drawnKinds q_o_drawnNumbers v_o_depth q_o_matrix v_o_at v_o_value v_o_wrong v_o_wantsMove v_o_x v_o_y v_o_startX v_o_startY v_o_before v_o_turnX v_o_turnY q_o_given v_o_written q_o_signs v_o_edges q_o_fromX q_o_fromY q_o_toX q_o_toY v_o_wide v_o_high q_o_points v_o_behind v_o_whole)), (q_o_text, .inl (k_o_text, 1200, .inl c_o_text))]) [0, 1] rfl
    have hDc := hD.sub (ws' := [(q_o, .inr (7, f_Model v_o_fault v_o_size q_o_text v_o_commands q_o_kinds q_o_numbers v_o_drawn q_o_drawnKinds q_o_drawnNumbers v_o_depth q_o_matrix v_o_at v_o_value v_o_wrong v_o_wantsMove v_o_x v_o_y v_o_startX v_o_startY v_o_before v_o_turnX v_o_turnY q_o_given v_o_written q_o_signs v_o_edges q_o_fromX q_o_fromY q_o_toX q_o_toY v_o_wide v_o_high q_o_points v_o_behind v_o_whole)), (q_o_text, .inl (k_o_text, 1200, .inl c_o_text))]) [0, 1] (by decide) rfl
    have hKc := hK.sub (tys' := [(k_o_text, .int)]) [0] rfl
    have hFc := va_free (wc := [(q_o, .inr (7, f_Model v_o_fault v_o_size q_o_text v_o_commands q_o_kinds q_o_numbers v_o_drawn q_o_drawnKinds q_o_drawnNumbers v_o_depth q_o_matrix v_o_at v_o_value v_o_wrong v_o_wantsMove v_o_x v_o_y v_o_startX v_o_startY v_o_before v_o_turnX v_o_turnY q_o_given v_o_written q_o_signs v_o_edges q_o_fromX q_o_fromY q_o_toX q_o_toY v_o_wide v_o_high q_o_points v_o_behind v_o_whole)), (q_o_text, .inl (k_o_text, 1200, .inl c_o_text))]) hD hS hA [0, 1] rfl
    refine va_calli (pc := 1) (va_runV (As := []) (rest := []) ⟨hx, hb, hml, hown, hts⟩ (ct_m_sign l dC dI q_o q_o_text q_o_kinds q_o_numbers q_o_drawnKinds q_o_drawnNumbers q_o_matrix q_o_given q_o_signs q_o_fromX q_o_fromY q_o_toX q_o_toY q_o_points k_o_text _ v_o_fault v_o_size v_o_commands v_o_drawn v_o_depth v_o_at v_o_value v_o_wrong v_o_wantsMove v_o_x v_o_y v_o_startX v_o_startY v_o_before v_o_turnX v_o_turnY v_o_written v_o_edges v_o_wide v_o_high v_o_behind v_o_whole c_o_text r1 hz) (cwV 0 hts (kw_in4 kw_800 kw_802 kw_s3 kw_8 kw_803) rfl rfl rfl (by decide +kernel) ⟨Nat.le_of_ble_eq_true rfl, Nat.le_of_ble_eq_true rfl⟩) (kx_preV hPc hKc hDc 0 rfl rfl) rfl rfl hl.1 rfl (lv_room (Nat.le_of_ble_eq_true rfl)) d_m_skip_1 ⟨Nat.le_of_ble_eq_true rfl, Nat.le_of_ble_eq_true rfl⟩) hS (fun q _ h => hFc q h) hFc (fun r9 u t H1 locs ht hvm hw hB hz1 hk1 hS => ?_)
    obtain ⟨hP1, hK1, hD1⟩ := hB
    rw [ht] at hP1
    have hw := hw.symm
    subst hw
    obtain ⟨hP, hD⟩ := va_join (wr := []) (w1 := [(q_o, .inr (7, f_Model v_o_fault v_o_size q_o_text v_o_commands q_o_kinds q_o_numbers v_o_drawn q_o_drawnKinds q_o_drawnNumbers v_o_depth q_o_matrix v_o_at v_o_value v_o_wrong v_o_wantsMove v_o_x v_o_y v_o_startX v_o_startY v_o_before v_o_turnX v_o_turnY q_o_given v_o_written q_o_signs v_o_edges q_o_fromX q_o_fromY q_o_toX q_o_toY v_o_wide v_o_high q_o_points v_o_behind v_o_whole)), (q_o_text, .inl (k_o_text, 1200, .inl c_o_text))]) hP hD [0, 1] [] rfl rfl (by decide) (by decide) hk1 hFc hP1 hD1
    have hP := hP.sub (ws' := [(q_o, .inr (7, f_Model v_o_fault v_o_size q_o_text v_o_commands q_o_kinds q_o_numbers v_o_drawn q_o_drawnKinds q_o_drawnNumbers v_o_depth q_o_matrix v_o_at v_o_value v_o_wrong v_o_wantsMove v_o_x v_o_y v_o_startX v_o_startY v_o_before v_o_turnX v_o_turnY q_o_given v_o_written q_o_signs v_o_edges q_o_fromX q_o_fromY q_o_toX q_o_toY v_o_wide v_o_high q_o_points v_o_behind v_o_whole)), (q_o_text, .inl (k_o_text, 1200, .inl c_o_text))]) [0, 1] rfl
    have hD := hD.sub (ws' := [(q_o, .inr (7, f_Model v_o_fault v_o_size q_o_text v_o_commands q_o_kinds q_o_numbers v_o_drawn q_o_drawnKinds q_o_drawnNumbers v_o_depth q_o_matrix v_o_at v_o_value v_o_wrong v_o_wantsMove v_o_x v_o_y v_o_startX v_o_startY v_o_before v_o_turnX v_o_turnY q_o_given v_o_written q_o_signs v_o_edges q_o_fromX q_o_fromY q_o_toX q_o_toY v_o_wide v_o_high q_o_points v_o_behind v_o_whole)), (q_o_text, .inl (k_o_text, 1200, .inl c_o_text))]) [0, 1] (by decide) rfl
    clear hP1 hK1 hD1 hk1 hPc hDc hKc hFc hz1 hvm ht hz
    generalize H1 = H at hP hS ⊢
    refine lv_bipush (pc := 4) (v := (32 : Int32)) hx hb d_m_skip_4 (by decide) ?_
    refine lv_icmp_eq (pc := 6) (tgt := 18) hx hb d_m_skip_6 (by decide) (fun hc => ?_) (fun hc => ?_)
    · rw [if_pos hc] at hf
      exact hb18 k0 hk0 v_o_at _ _ _ hf hP hD hS (lv_sub hl [0] rfl)
    · rw [if_neg hc] at hf
      refine lv_aload_n (pc := 9) hx hb d_m_skip_9 rfl (lv_at hl 0 rfl) ?_
      obtain ⟨r10, hz, hf⟩ := kb1_some hf
      have hPc := hP.sub (ws' := [(q_o, .inr (7, f_Model v_o_fault v_o_size q_o_text v_o_commands q_o_kinds q_o_numbers v_o_drawn q_o_drawnKinds q_o_drawnNumbers v_o_depth q_o_matrix v_o_at v_o_value v_o_wrong v_o_wantsMove v_o_x v_o_y v_o_startX v_o_startY v_o_before v_o_turnX v_o_turnY q_o_given v_o_written q_o_signs v_o_edges q_o_fromX q_o_fromY q_o_toX q_o_toY v_o_wide v_o_high q_o_points v_o_behind v_o_whole)), (q_o_text, .inl (k_o_text, 1200, .inl c_o_text))]) [0, 1] rfl
      have hDc := hD.sub (ws' := [(q_o, .inr (7, f_Model v_o_fault v_o_size q_o_text v_o_commands q_o_kinds q_o_numbers v_o_drawn q_o_drawnKinds q_o_drawnNumbers v_o_depth q_o_matrix v_o_at v_o_value v_o_wrong v_o_wantsMove v_o_x v_o_y v_o_startX v_o_startY v_o_before v_o_turnX v_o_turnY q_o_given v_o_written q_o_signs v_o_edges q_o_fromX q_o_fromY q_o_toX q_o_toY v_o_wide v_o_high q_o_points v_o_behind v_o_whole)), (q_o_text, .inl (k_o_text, 1200, .inl c_o_text))]) [0, 1] (by decide) rfl
      have hKc := hK.sub (tys' := [(k_o_text, .int)]) [0] rfl
      have hFc := va_free (wc := [(q_o, .inr (7, f_Model v_o_fault v_o_size q_o_text v_o_commands q_o_kinds q_o_numbers v_o_drawn q_o_drawnKinds q_o_drawnNumbers v_o_depth q_o_matrix v_o_at v_o_value v_o_wrong v_o_wantsMove v_o_x v_o_y v_o_startX v_o_startY v_o_before v_o_turnX v_o_turnY q_o_given v_o_written q_o_signs v_o_edges q_o_fromX q_o_fromY q_o_toX q_o_toY v_o_wide v_o_high q_o_points v_o_behind v_o_whole)), (q_o_text, .inl (k_o_text, 1200, .inl c_o_text))]) hD hS hA [0, 1] rfl
      refine va_calli (pc := 10) (va_runV (As := []) (rest := []) ⟨hx, hb, hml, hown, hts⟩ (ct_m_sign l dC dI q_o q_o_text q_o_kinds q_o_numbers q_o_drawnKinds q_o_drawnNumbers q_o_matrix q_o_given q_o_signs q_o_fromX q_o_fromY q_o_toX q_o_toY q_o_points k_o_text _ v_o_fault v_o_size v_o_commands v_o_drawn v_o_depth v_o_at v_o_value v_o_wrong v_o_wantsMove v_o_x v_o_y v_o_startX v_o_startY v_o_before v_o_turnX v_o_turnY v_o_written v_o_edges v_o_wide v_o_high v_o_behind v_o_whole c_o_text r10 hz) (cwV 0 hts (kw_in4 kw_800 kw_802 kw_s3 kw_8 kw_803) rfl rfl rfl (by decide +kernel) ⟨Nat.le_of_ble_eq_true rfl, Nat.le_of_ble_eq_true rfl⟩) (kx_preV hPc hKc hDc 0 rfl rfl) rfl rfl hl.1 rfl (lv_room (Nat.le_of_ble_eq_true rfl)) d_m_skip_10 ⟨Nat.le_of_ble_eq_true rfl, Nat.le_of_ble_eq_true rfl⟩) hS (fun q _ h => hFc q h) hFc (fun r9 u t H1 locs ht hvm hw hB hz1 hk1 hS => ?_)
      obtain ⟨hP1, hK1, hD1⟩ := hB
      rw [ht] at hP1
      have hw := hw.symm
      subst hw
      obtain ⟨hP, hD⟩ := va_join (wr := []) (w1 := [(q_o, .inr (7, f_Model v_o_fault v_o_size q_o_text v_o_commands q_o_kinds q_o_numbers v_o_drawn q_o_drawnKinds q_o_drawnNumbers v_o_depth q_o_matrix v_o_at v_o_value v_o_wrong v_o_wantsMove v_o_x v_o_y v_o_startX v_o_startY v_o_before v_o_turnX v_o_turnY q_o_given v_o_written q_o_signs v_o_edges q_o_fromX q_o_fromY q_o_toX q_o_toY v_o_wide v_o_high q_o_points v_o_behind v_o_whole)), (q_o_text, .inl (k_o_text, 1200, .inl c_o_text))]) hP hD [0, 1] [] rfl rfl (by decide) (by decide) hk1 hFc hP1 hD1
      have hP := hP.sub (ws' := [(q_o, .inr (7, f_Model v_o_fault v_o_size q_o_text v_o_commands q_o_kinds q_o_numbers v_o_drawn q_o_drawnKinds q_o_drawnNumbers v_o_depth q_o_matrix v_o_at v_o_value v_o_wrong v_o_wantsMove v_o_x v_o_y v_o_startX v_o_startY v_o_before v_o_turnX v_o_turnY q_o_given v_o_written q_o_signs v_o_edges q_o_fromX q_o_fromY q_o_toX q_o_toY v_o_wide v_o_high q_o_points v_o_behind v_o_whole)), (q_o_text, .inl (k_o_text, 1200, .inl c_o_text))]) [0, 1] rfl
      have hD := hD.sub (ws' := [(q_o, .inr (7, f_Model v_o_fault v_o_size q_o_text v_o_commands q_o_kinds q_o_numbers v_o_drawn q_o_drawnKinds q_o_drawnNumbers v_o_depth q_o_matrix v_o_at v_o_value v_o_wrong v_o_wantsMove v_o_x v_o_y v_o_startX v_o_startY v_o_before v_o_turnX v_o_turnY q_o_given v_o_written q_o_signs v_o_edges q_o_fromX q_o_fromY q_o_toX q_o_toY v_o_wide v_o_high q_o_points v_o_behind v_o_whole)), (q_o_text, .inl (k_o_text, 1200, .inl c_o_text))]) [0, 1] (by decide) rfl
      clear hP1 hK1 hD1 hk1 hPc hDc hKc hFc hz1 hvm ht hz
      generalize H1 = H at hP hS ⊢
      refine lv_bipush (pc := 13) (v := (44 : Int32)) hx hb d_m_skip_13 (by decide) ?_
      refine lv_icmp_ne (pc := 15) (tgt := 31) hx hb d_m_skip_15 (by decide) (fun hc => ?_) (fun hc => ?_)
      · rw [if_neg hc] at hf
        have e_0 := kr1 hf
        exact hRet 31 _ _ _ d_m_skip_31 (by rw [← e_0]; exact hP) (by rw [← e_0]; exact hD) hS
      · rw [if_pos hc] at hf
        exact hb18 k0 hk0 v_o_at _ _ _ hf hP hD hS (lv_sub hl [0] rfl)
  have hL0 : ∀ n : Nat, ∀ (v_o_at : Int32) (H : Heap) (locs : List Loc) (ls : Array Slot), (m_skip_L0 N n) v_o_size v_o_at c_o_text = some v_o_at_z → va_P (dC, dI) clz [(q_o, .inr (7, f_Model v_o_fault v_o_size q_o_text v_o_commands q_o_kinds q_o_numbers v_o_drawn q_o_drawnKinds q_o_drawnNumbers v_o_depth q_o_matrix v_o_at v_o_value v_o_wrong v_o_wantsMove v_o_x v_o_y v_o_startX v_o_startY v_o_before v_o_turnX v_o_turnY q_o_given v_o_written q_o_signs v_o_edges q_o_fromX q_o_fromY q_o_toX q_o_toY v_o_wide v_o_high q_o_points v_o_behind v_o_whole)), (q_o_text, .inl (k_o_text, 1200, .inl c_o_text))] H → va_D A [(q_o, .inr (7, f_Model v_o_fault v_o_size q_o_text v_o_commands q_o_kinds q_o_numbers v_o_drawn q_o_drawnKinds q_o_drawnNumbers v_o_depth q_o_matrix v_o_at v_o_value v_o_wrong v_o_wantsMove v_o_x v_o_y v_o_startX v_o_startY v_o_before v_o_turnX v_o_turnY q_o_given v_o_written q_o_signs v_o_edges q_o_fromX q_o_fromY q_o_toX q_o_toY v_o_wide v_o_high q_o_points v_o_behind v_o_whole)), (q_o_text, .inl (k_o_text, 1200, .inl c_o_text))] → va_S A s.heap H locs → lv_has ls 1 [(0, .ref q_o)] → W p l e (headSpec w_m_skip ({ frames := 1, cells := 0, slots := 0, locals := 20 })).room s m args below meth c H locs 0 0 Q (F0 m 0 ls []) := by
    intro n
    induction n with
    | zero => intro v_o_at H locs ls hf hP hD hS hl; have hf : none = some v_o_at_z := hf; cases hf
    | succ n ih => exact hB0 (m_skip_L0 N n) ih
  rw [m_skip] at hf
  exact hL0 N v_o_at _ _ _ hf hP hD hS (lv_sub hl [0] rfl)
set_option maxHeartbeats 4000000 in
set_option maxRecDepth 100000 in
theorem ct_m_isDigit (l : Launch) (dC : Nat → ClassId) (dI : Nat → Nat → Nat) (sz : Nat) (x0 : Int32) (rv : Int32) (hf : m_isDigit x0 = some rv) : Met l y_m_isDigit w_m_isDigit ({ frames := 0, cells := 0, slots := 0, locals := 0 }) (va_Pc [.int x0] (fun U => U.heap.size = sz ∧ va_P (dC, dI) clz [] U.heap ∧ va_K (dC, dI) clz [] U ∧ va_D (fun _ => True) [])) (va_Qi (fun (r9 : Int32) (_ : Unit) => r9 = rv) (fun _ t => va_P (dC, dI) clz [] t.heap ∧ va_K (dC, dI) clz [] t ∧ va_D (va_A [] sz) []) (va_A [] sz)) 0 0 (va_A [] sz) := by
  refine Met.ofW (cc := prog_10_method_8_code) (maxL := 1) (ret := (some .boolean)) (by decide +kernel) rfl ?_
  intro p e s m args below meth c s₁ B hml hv
  obtain ⟨hargs, hsz, hP, hK, hD0⟩ := hv
  have hx := B.exec
  have hb := B.bytes
  have hr := B.returns
  have hts := atoms_spec (ws := w_m_isDigit) B.pre
  have hown : s.vm.findClass "PathTextsModel" = some m.cls := findClass_of_methodNamed B.named
  have hlocks := B.notSynchronized
  subst hsz
  have hD := hD0.self (sz := s.heap.size)
  generalize hAe : va_A [] s.heap.size = A at hD ⊢
  have hA : ∀ q : Nat, s.heap.size ≤ q → A q := fun q h => by rw [← hAe]; exact Or.inr h
  clear hAe hD0
  have hS : va_S A s.heap s.heap [] := va_S.rf
  have hl := lv_entry ([.int x0]) (n := 1) (Nat.le_of_ble_eq_true rfl)
  have hent : entryFrame m args 1 = F0 m 0 (lg_sl ([.int x0]) ++ List.replicate (1 - (lg_sl ([.int x0])).length) Slot.unset).toArray [] := by rw [hargs, lg_entry_eq]
  rw [hent]
  clear hent hargs
  generalize (lg_sl ([.int x0]) ++ List.replicate (1 - (lg_sl ([.int x0])).length) Slot.unset).toArray = ls at hl ⊢
  have hl : lv_has ls 1 [(0, .int x0)] := hl
  suffices key : ∀ Q : State → Prop, (∀ (hn9 : narrow .boolean (.int rv) = .int rv) (pc : Nat) (H : Heap) (locs : List Loc) (ls : Array Slot), decode prog_10_method_8_code pc = .ok (.ireturn, 1) → va_P (dC, dI) clz [] H → va_D A [] → va_S A s.heap H locs → W p l e (headSpec w_m_isDigit ({ frames := 0, cells := 0, slots := 0, locals := 0 })).room s m args below meth c H locs 0 0 Q (F0 m pc ls [.int rv])) → W p l e (headSpec w_m_isDigit ({ frames := 0, cells := 0, slots := 0, locals := 0 })).room s m args below meth c s.heap [] 0 0 Q (F0 m 0 ls []) from key _ (fun hn9 pc H locs ls hd hP hD hS => W.zret hx hb hr hn9 (fun t ht hW => ⟨⟨rv, (), rfl, rfl, by rw [ht]; exact hP, va_K.moved hW.alike hK, hD⟩, hS.F ht⟩) hS.2.2 hd)
  intro Q hRet
  rw [m_isDigit] at hf
  refine lv_iload_n (pc := 0) hx hb d_m_isDigit_0 rfl (lv_at hl 0 rfl) ?_
  refine lv_bipush (pc := 1) (v := (48 : Int32)) hx hb d_m_isDigit_1 (by decide) ?_
  refine lv_icmp_lt (pc := 3) (tgt := 16) hx hb d_m_isDigit_3 (by decide) (fun hc => ?_) (fun hc => ?_)
  · rw [if_pos hc] at hf
    refine lv_iconst (pc := 16) (v := (0 : Int32)) hx hb d_m_isDigit_16 (by decide) ?_
    have e_0 := kr1 hf
    rw [e_0]
    exact hRet (by rw [← e_0]; exact (by decide)) 17 _ _ _ d_m_isDigit_17 hP hD hS
  · rw [if_neg hc] at hf
    refine lv_iload_n (pc := 6) hx hb d_m_isDigit_6 rfl (lv_at hl 0 rfl) ?_
    refine lv_bipush (pc := 7) (v := (57 : Int32)) hx hb d_m_isDigit_7 (by decide) ?_
    refine lv_icmp_gt (pc := 9) (tgt := 16) hx hb d_m_isDigit_9 (by decide) (fun hc => ?_) (fun hc => ?_)
    · rw [if_pos hc] at hf
      refine lv_iconst (pc := 16) (v := (0 : Int32)) hx hb d_m_isDigit_16 (by decide) ?_
      have e_0 := kr1 hf
      rw [e_0]
      exact hRet (by rw [← e_0]; exact (by decide)) 17 _ _ _ d_m_isDigit_17 hP hD hS
    · rw [if_neg hc] at hf
      refine lv_iconst (pc := 12) (v := (1 : Int32)) hx hb d_m_isDigit_12 (by decide) ?_
      refine lv_goto (pc := 13) (tgt := 17) hx hb d_m_isDigit_13 (by decide) ?_
      have e_0 := kr1 hf
      rw [e_0]
      exact hRet (by rw [← e_0]; exact (by decide)) 17 _ _ _ d_m_isDigit_17 hP hD hS
set_option maxHeartbeats 4000000 in
set_option maxRecDepth 100000 in
theorem ct_m_isNumeral (l : Launch) (dC : Nat → ClassId) (dI : Nat → Nat → Nat) (q_o : Nat) (q_o_text : Nat) (q_o_kinds : Nat) (q_o_numbers : Nat) (q_o_drawnKinds : Nat) (q_o_drawnNumbers : Nat) (q_o_matrix : Nat) (q_o_given : Nat) (q_o_signs : Nat) (q_o_fromX : Nat) (q_o_fromY : Nat) (q_o_toX : Nat) (q_o_toY : Nat) (q_o_points : Nat) (k_o_text : ClassId) (sz : Nat) (v_o_fault : Int32) (v_o_size : Int32) (v_o_commands : Int32) (v_o_drawn : Int32) (v_o_depth : Int32) (v_o_at : Int32) (v_o_value : Int64) (v_o_wrong : Int32) (v_o_wantsMove : Int32) (v_o_x : Int64) (v_o_y : Int64) (v_o_startX : Int64) (v_o_startY : Int64) (v_o_before : Int32) (v_o_turnX : Int64) (v_o_turnY : Int64) (v_o_written : Int32) (v_o_edges : Int32) (v_o_wide : Int32) (v_o_high : Int32) (v_o_behind : Int32) (v_o_whole : Int64) (c_o_text : (Nat → Int32)) (rv : Int32) (hf : m_isNumeral v_o_size v_o_at c_o_text = some rv) : Met l y_m_isNumeral w_m_isNumeral ({ frames := 1, cells := 0, slots := 0, locals := 20 }) (va_Pc [.ref q_o] (fun U => U.heap.size = sz ∧ va_P (dC, dI) clz [(q_o, .inr (7, f_Model v_o_fault v_o_size q_o_text v_o_commands q_o_kinds q_o_numbers v_o_drawn q_o_drawnKinds q_o_drawnNumbers v_o_depth q_o_matrix v_o_at v_o_value v_o_wrong v_o_wantsMove v_o_x v_o_y v_o_startX v_o_startY v_o_before v_o_turnX v_o_turnY q_o_given v_o_written q_o_signs v_o_edges q_o_fromX q_o_fromY q_o_toX q_o_toY v_o_wide v_o_high q_o_points v_o_behind v_o_whole)), (q_o_text, .inl (k_o_text, 1200, .inl c_o_text))] U.heap ∧ va_K (dC, dI) clz [(k_o_text, .int)] U ∧ va_D (fun _ => True) [(q_o, .inr (7, f_Model v_o_fault v_o_size q_o_text v_o_commands q_o_kinds q_o_numbers v_o_drawn q_o_drawnKinds q_o_drawnNumbers v_o_depth q_o_matrix v_o_at v_o_value v_o_wrong v_o_wantsMove v_o_x v_o_y v_o_startX v_o_startY v_o_before v_o_turnX v_o_turnY q_o_given v_o_written q_o_signs v_o_edges q_o_fromX q_o_fromY q_o_toX q_o_toY v_o_wide v_o_high q_o_points v_o_behind v_o_whole)), (q_o_text, .inl (k_o_text, 1200, .inl c_o_text))])) (va_Qi (fun (r9 : Int32) (_ : Unit) => r9 = rv) (fun _ t => va_P (dC, dI) clz [(q_o, .inr (7, f_Model v_o_fault v_o_size q_o_text v_o_commands q_o_kinds q_o_numbers v_o_drawn q_o_drawnKinds q_o_drawnNumbers v_o_depth q_o_matrix v_o_at v_o_value v_o_wrong v_o_wantsMove v_o_x v_o_y v_o_startX v_o_startY v_o_before v_o_turnX v_o_turnY q_o_given v_o_written q_o_signs v_o_edges q_o_fromX q_o_fromY q_o_toX q_o_toY v_o_wide v_o_high q_o_points v_o_behind v_o_whole)), (q_o_text, .inl (k_o_text, 1200, .inl c_o_text))] t.heap ∧ va_K (dC, dI) clz [(k_o_text, .int)] t ∧ va_D (va_A [(q_o, .inr (7, f_Model v_o_fault v_o_size q_o_text v_o_commands q_o_kinds q_o_numbers v_o_drawn q_o_drawnKinds q_o_drawnNumbers v_o_depth q_o_matrix v_o_at v_o_value v_o_wrong v_o_wantsMove v_o_x v_o_y v_o_startX v_o_startY v_o_before v_o_turnX v_o_turnY q_o_given v_o_written q_o_signs v_o_edges q_o_fromX q_o_fromY q_o_toX q_o_toY v_o_wide v_o_high q_o_points v_o_behind v_o_whole)), (q_o_text, .inl (k_o_text, 1200, .inl c_o_text))] sz) [(q_o, .inr (7, f_Model v_o_fault v_o_size q_o_text v_o_commands q_o_kinds q_o_numbers v_o_drawn q_o_drawnKinds q_o_drawnNumbers v_o_depth q_o_matrix v_o_at v_o_value v_o_wrong v_o_wantsMove v_o_x v_o_y v_o_startX v_o_startY v_o_before v_o_turnX v_o_turnY q_o_given v_o_written q_o_signs v_o_edges q_o_fromX q_o_fromY q_o_toX q_o_toY v_o_wide v_o_high q_o_points v_o_behind v_o_whole)), (q_o_text, .inl (k_o_text, 1200, .inl c_o_text))]) (va_A [(q_o, .inr (7, f_Model v_o_fault v_o_size q_o_text v_o_commands q_o_kinds q_o_numbers v_o_drawn q_o_drawnKinds q_o_drawnNumbers v_o_depth q_o_matrix v_o_at v_o_value v_o_wrong v_o_wantsMove v_o_x v_o_y v_o_startX v_o_startY v_o_before v_o_turnX v_o_turnY q_o_given v_o_written q_o_signs v_o_edges q_o_fromX q_o_fromY q_o_toX q_o_toY v_o_wide v_o_high q_o_points v_o_behind v_o_whole)), (q_o_text, .inl (k_o_text, 1200, .inl c_o_text))] sz)) 0 0 (va_A [(q_o, .inr (7, f_Model v_o_fault v_o_size q_o_text v_o_commands q_o_kinds q_o_numbers v_o_drawn q_o_drawnKinds q_o_drawnNumbers v_o_depth q_o_matrix v_o_at v_o_value v_o_wrong v_o_wantsMove v_o_x v_o_y v_o_startX v_o_startY v_o_before v_o_turnX v_o_turnY q_o_given v_o_written q_o_signs v_o_edges q_o_fromX q_o_fromY q_o_toX q_o_toY v_o_wide v_o_high q_o_points v_o_behind v_o_whole)), (q_o_text, .inl (k_o_text, 1200, .inl c_o_text))] sz) := by
  refine Met.ofW (cc := prog_10_method_9_code) (maxL := 2) (ret := (some .boolean)) (by decide +kernel) rfl ?_
  intro p e s m args below meth c s₁ B hml hv
  obtain ⟨hargs, hsz, hP, hK, hD0⟩ := hv
  have hx := B.exec
  have hb := B.bytes
  have hr := B.returns
  have hts := atoms_spec (ws := w_m_isNumeral) B.pre
  have hown : s.vm.findClass "PathTextsModel" = some m.cls := findClass_of_methodNamed B.named
  have hlocks := B.notSynchronized
  subst hsz
  have hD := hD0.self (sz := s.heap.size)
  generalize hAe : va_A [(q_o, .inr (7, f_Model v_o_fault v_o_size q_o_text v_o_commands q_o_kinds q_o_numbers v_o_drawn q_o_drawnKinds q_o_drawnNumbers v_o_depth q_o_matrix v_o_at v_o_value v_o_wrong v_o_wantsMove v_o_x v_o_y v_o_startX v_o_startY v_o_before v_o_turnX v_o_turnY q_o_given v_o_written q_o_signs v_o_edges q_o_fromX q_o_fromY q_o_toX q_o_toY v_o_wide v_o_high q_o_points v_o_behind v_o_whole)), (q_o_text, .inl (k_o_text, 1200, .inl c_o_text))] s.heap.size = A at hD ⊢
  have hA : ∀ q : Nat, s.heap.size ≤ q → A q := fun q h => by rw [← hAe]; exact Or.inr h
  clear hAe hD0
  have hS : va_S A s.heap s.heap [] := va_S.rf
  have hl := lv_entry ([.ref q_o]) (n := 2) (Nat.le_of_ble_eq_true rfl)
  have hent : entryFrame m args 2 = F0 m 0 (lg_sl ([.ref q_o]) ++ List.replicate (2 - (lg_sl ([.ref q_o])).length) Slot.unset).toArray [] := by rw [hargs, lg_entry_eq]
  rw [hent]
  clear hent hargs
  generalize (lg_sl ([.ref q_o]) ++ List.replicate (2 - (lg_sl ([.ref q_o])).length) Slot.unset).toArray = ls at hl ⊢
  have hl : lv_has ls 2 [(0, .ref q_o)] := hl
  suffices key : ∀ Q : State → Prop, (∀ (hn9 : narrow .boolean (.int rv) = .int rv) (pc : Nat) (H : Heap) (locs : List Loc) (ls : Array Slot), decode prog_10_method_9_code pc = .ok (.ireturn, 1) → va_P (dC, dI) clz [(q_o, .inr (7, f_Model v_o_fault v_o_size q_o_text v_o_commands q_o_kinds q_o_numbers v_o_drawn q_o_drawnKinds q_o_drawnNumbers v_o_depth q_o_matrix v_o_at v_o_value v_o_wrong v_o_wantsMove v_o_x v_o_y v_o_startX v_o_startY v_o_before v_o_turnX v_o_turnY q_o_given v_o_written q_o_signs v_o_edges q_o_fromX q_o_fromY q_o_toX q_o_toY v_o_wide v_o_high q_o_points v_o_behind v_o_whole)), (q_o_text, .inl (k_o_text, 1200, .inl c_o_text))] H → va_D A [(q_o, .inr (7, f_Model v_o_fault v_o_size q_o_text v_o_commands q_o_kinds q_o_numbers v_o_drawn q_o_drawnKinds q_o_drawnNumbers v_o_depth q_o_matrix v_o_at v_o_value v_o_wrong v_o_wantsMove v_o_x v_o_y v_o_startX v_o_startY v_o_before v_o_turnX v_o_turnY q_o_given v_o_written q_o_signs v_o_edges q_o_fromX q_o_fromY q_o_toX q_o_toY v_o_wide v_o_high q_o_points v_o_behind v_o_whole)), (q_o_text, .inl (k_o_text, 1200, .inl c_o_text))] → va_S A s.heap H locs → W p l e (headSpec w_m_isNumeral ({ frames := 1, cells := 0, slots := 0, locals := 20 })).room s m args below meth c H locs 0 0 Q (F0 m pc ls [.int rv])) → W p l e (headSpec w_m_isNumeral ({ frames := 1, cells := 0, slots := 0, locals := 20 })).room s m args below meth c s.heap [] 0 0 Q (F0 m 0 ls []) from key _ (fun hn9 pc H locs ls hd hP hD hS => W.zret hx hb hr hn9 (fun t ht hW => ⟨⟨rv, (), rfl, rfl, by rw [ht]; exact hP, va_K.moved hW.alike hK, hD⟩, hS.F ht⟩) hS.2.2 hd)
  intro Q hRet
  rw [m_isNumeral] at hf
  refine lv_aload_n (pc := 0) hx hb d_m_isNumeral_0 rfl (lv_at hl 0 rfl) ?_
  obtain ⟨r1, hz, hf⟩ := kb1_some hf
  have hPc := hP.sub (ws' := [(q_o, .inr (7, f_Model v_o_fault v_o_size q_o_text v_o_commands q_o_kinds q_o_numbers v_o_drawn q_o_drawnKinds q_o_drawnNumbers v_o_depth q_o_matrix v_o_at v_o_value v_o_wrong v_o_wantsMove v_o_x v_o_y v_o_startX v_o_startY v_o_before v_o_turnX v_o_turnY q_o_given v_o_written q_o_signs v_o_edges q_o_fromX q_o_fromY q_o_toX q_o_toY v_o_wide v_o_high q_o_points v_o_behind v_o_whole)), (q_o_text, .inl (k_o_text, 1200, .inl c_o_text))]) [0, 1] rfl
  have hDc := hD.sub (ws' := [(q_o, .inr (7, f_Model v_o_fault v_o_size q_o_text v_o_commands q_o_kinds q_o_numbers v_o_drawn q_o_drawnKinds q_o_drawnNumbers v_o_depth q_o_matrix v_o_at v_o_value v_o_wrong v_o_wantsMove v_o_x v_o_y v_o_startX v_o_startY v_o_before v_o_turnX v_o_turnY q_o_given v_o_written q_o_signs v_o_edges q_o_fromX q_o_fromY q_o_toX q_o_toY v_o_wide v_o_high q_o_points v_o_behind v_o_whole)), (q_o_text, .inl (k_o_text, 1200, .inl c_o_text))]) [0, 1] (by decide) rfl
  have hKc := hK.sub (tys' := [(k_o_text, .int)]) [0] rfl
  have hFc := va_free (wc := [(q_o, .inr (7, f_Model v_o_fault v_o_size q_o_text v_o_commands q_o_kinds q_o_numbers v_o_drawn q_o_drawnKinds q_o_drawnNumbers v_o_depth q_o_matrix v_o_at v_o_value v_o_wrong v_o_wantsMove v_o_x v_o_y v_o_startX v_o_startY v_o_before v_o_turnX v_o_turnY q_o_given v_o_written q_o_signs v_o_edges q_o_fromX q_o_fromY q_o_toX q_o_toY v_o_wide v_o_high q_o_points v_o_behind v_o_whole)), (q_o_text, .inl (k_o_text, 1200, .inl c_o_text))]) hD hS hA [0, 1] rfl
  refine va_calli (pc := 1) (va_runV (As := []) (rest := []) ⟨hx, hb, hml, hown, hts⟩ (ct_m_sign l dC dI q_o q_o_text q_o_kinds q_o_numbers q_o_drawnKinds q_o_drawnNumbers q_o_matrix q_o_given q_o_signs q_o_fromX q_o_fromY q_o_toX q_o_toY q_o_points k_o_text _ v_o_fault v_o_size v_o_commands v_o_drawn v_o_depth v_o_at v_o_value v_o_wrong v_o_wantsMove v_o_x v_o_y v_o_startX v_o_startY v_o_before v_o_turnX v_o_turnY v_o_written v_o_edges v_o_wide v_o_high v_o_behind v_o_whole c_o_text r1 hz) (cwV 0 hts (kw_in4 kw_800 kw_802 kw_s3 kw_8 kw_803) rfl rfl rfl (by decide +kernel) ⟨Nat.le_of_ble_eq_true rfl, Nat.le_of_ble_eq_true rfl⟩) (kx_preV hPc hKc hDc 0 rfl rfl) rfl rfl hl.1 rfl (lv_room (Nat.le_of_ble_eq_true rfl)) d_m_isNumeral_1 ⟨Nat.le_of_ble_eq_true rfl, Nat.le_of_ble_eq_true rfl⟩) hS (fun q _ h => hFc q h) hFc (fun r9 u t H1 locs ht hvm hw hB hz1 hk1 hS => ?_)
  obtain ⟨hP1, hK1, hD1⟩ := hB
  rw [ht] at hP1
  have hw := hw.symm
  subst hw
  obtain ⟨hP, hD⟩ := va_join (wr := []) (w1 := [(q_o, .inr (7, f_Model v_o_fault v_o_size q_o_text v_o_commands q_o_kinds q_o_numbers v_o_drawn q_o_drawnKinds q_o_drawnNumbers v_o_depth q_o_matrix v_o_at v_o_value v_o_wrong v_o_wantsMove v_o_x v_o_y v_o_startX v_o_startY v_o_before v_o_turnX v_o_turnY q_o_given v_o_written q_o_signs v_o_edges q_o_fromX q_o_fromY q_o_toX q_o_toY v_o_wide v_o_high q_o_points v_o_behind v_o_whole)), (q_o_text, .inl (k_o_text, 1200, .inl c_o_text))]) hP hD [0, 1] [] rfl rfl (by decide) (by decide) hk1 hFc hP1 hD1
  have hP := hP.sub (ws' := [(q_o, .inr (7, f_Model v_o_fault v_o_size q_o_text v_o_commands q_o_kinds q_o_numbers v_o_drawn q_o_drawnKinds q_o_drawnNumbers v_o_depth q_o_matrix v_o_at v_o_value v_o_wrong v_o_wantsMove v_o_x v_o_y v_o_startX v_o_startY v_o_before v_o_turnX v_o_turnY q_o_given v_o_written q_o_signs v_o_edges q_o_fromX q_o_fromY q_o_toX q_o_toY v_o_wide v_o_high q_o_points v_o_behind v_o_whole)), (q_o_text, .inl (k_o_text, 1200, .inl c_o_text))]) [0, 1] rfl
  have hD := hD.sub (ws' := [(q_o, .inr (7, f_Model v_o_fault v_o_size q_o_text v_o_commands q_o_kinds q_o_numbers v_o_drawn q_o_drawnKinds q_o_drawnNumbers v_o_depth q_o_matrix v_o_at v_o_value v_o_wrong v_o_wantsMove v_o_x v_o_y v_o_startX v_o_startY v_o_before v_o_turnX v_o_turnY q_o_given v_o_written q_o_signs v_o_edges q_o_fromX q_o_fromY q_o_toX q_o_toY v_o_wide v_o_high q_o_points v_o_behind v_o_whole)), (q_o_text, .inl (k_o_text, 1200, .inl c_o_text))]) [0, 1] (by decide) rfl
  clear hP1 hK1 hD1 hk1 hPc hDc hKc hFc hz1 hvm ht hz
  generalize H1 = H at hP hS ⊢
  refine lv_istore_n (pc := 4) (lv' := [(1, .int r1), (0, .ref q_o)]) hx hb d_m_isNumeral_4 rfl hl (by decide) rfl (fun ls hl => ?_)
  refine lv_iload_n (pc := 5) hx hb d_m_isNumeral_5 rfl (lv_at hl 0 rfl) ?_
  obtain ⟨r6, hz, hf⟩ := kb1_some hf
  have hPc := hP.sub (ws' := []) [] rfl
  have hDc := hD.sub (ws' := []) [] (by decide) rfl
  have hKc := hK.sub (tys' := []) [] rfl
  have hFc := va_free (wc := []) hD hS hA [] rfl
  refine va_calli (pc := 6) (va_runS (As := [.int r1]) (rest := []) ⟨hx, hb, hml, hown, hts⟩ (ct_m_isDigit l dC dI _ r1 r6 hz) (va_cwS 1 hts (kw_in3 kw_824 kw_825 kw_8 kw_826) rfl rfl rfl (by decide +kernel) ⟨Nat.le_of_ble_eq_true rfl, Nat.le_of_ble_eq_true rfl⟩) (kx_pre hPc hKc hDc) rfl rfl hl.1 rfl (lv_room (Nat.le_of_ble_eq_true rfl)) d_m_isNumeral_6 ⟨Nat.le_of_ble_eq_true rfl, Nat.le_of_ble_eq_true rfl⟩) hS (fun q _ h => hFc q h) hFc (fun r9 u t H1 locs ht hvm hw hB hz1 hk1 hS => ?_)
  obtain ⟨hP1, hK1, hD1⟩ := hB
  rw [ht] at hP1
  have hw := hw.symm
  subst hw
  obtain ⟨hP, hD⟩ := va_join (wr := [(q_o, .inr (7, f_Model v_o_fault v_o_size q_o_text v_o_commands q_o_kinds q_o_numbers v_o_drawn q_o_drawnKinds q_o_drawnNumbers v_o_depth q_o_matrix v_o_at v_o_value v_o_wrong v_o_wantsMove v_o_x v_o_y v_o_startX v_o_startY v_o_before v_o_turnX v_o_turnY q_o_given v_o_written q_o_signs v_o_edges q_o_fromX q_o_fromY q_o_toX q_o_toY v_o_wide v_o_high q_o_points v_o_behind v_o_whole)), (q_o_text, .inl (k_o_text, 1200, .inl c_o_text))]) (w1 := []) hP hD [] [0, 1] rfl rfl (by decide) (by decide) hk1 hFc hP1 hD1
  have hP := hP.sub (ws' := [(q_o, .inr (7, f_Model v_o_fault v_o_size q_o_text v_o_commands q_o_kinds q_o_numbers v_o_drawn q_o_drawnKinds q_o_drawnNumbers v_o_depth q_o_matrix v_o_at v_o_value v_o_wrong v_o_wantsMove v_o_x v_o_y v_o_startX v_o_startY v_o_before v_o_turnX v_o_turnY q_o_given v_o_written q_o_signs v_o_edges q_o_fromX q_o_fromY q_o_toX q_o_toY v_o_wide v_o_high q_o_points v_o_behind v_o_whole)), (q_o_text, .inl (k_o_text, 1200, .inl c_o_text))]) [0, 1] rfl
  have hD := hD.sub (ws' := [(q_o, .inr (7, f_Model v_o_fault v_o_size q_o_text v_o_commands q_o_kinds q_o_numbers v_o_drawn q_o_drawnKinds q_o_drawnNumbers v_o_depth q_o_matrix v_o_at v_o_value v_o_wrong v_o_wantsMove v_o_x v_o_y v_o_startX v_o_startY v_o_before v_o_turnX v_o_turnY q_o_given v_o_written q_o_signs v_o_edges q_o_fromX q_o_fromY q_o_toX q_o_toY v_o_wide v_o_high q_o_points v_o_behind v_o_whole)), (q_o_text, .inl (k_o_text, 1200, .inl c_o_text))]) [0, 1] (by decide) rfl
  clear hP1 hK1 hD1 hk1 hPc hDc hKc hFc hz1 hvm ht hz
  generalize H1 = H at hP hS ⊢
  refine lv_if_ne (pc := 9) (tgt := 30) hx hb d_m_isNumeral_9 (by decide) (fun hc => ?_) (fun hc => ?_)
  · rw [if_neg hc] at hf
    refine lv_iconst (pc := 30) (v := (1 : Int32)) hx hb d_m_isNumeral_30 (by decide) ?_
    refine lv_goto (pc := 31) (tgt := 35) hx hb d_m_isNumeral_31 (by decide) ?_
    have e_0 := kr1 hf
    rw [e_0]
    exact hRet (by rw [← e_0]; exact (by decide)) 35 _ _ _ d_m_isNumeral_35 hP hD hS
  · rw [if_pos hc] at hf
    refine lv_iload_n (pc := 12) hx hb d_m_isNumeral_12 rfl (lv_at hl 0 rfl) ?_
    refine lv_bipush (pc := 13) (v := (43 : Int32)) hx hb d_m_isNumeral_13 (by decide) ?_
    refine lv_icmp_eq (pc := 15) (tgt := 30) hx hb d_m_isNumeral_15 (by decide) (fun hc => ?_) (fun hc => ?_)
    · rw [if_pos hc] at hf
      refine lv_iconst (pc := 30) (v := (1 : Int32)) hx hb d_m_isNumeral_30 (by decide) ?_
      refine lv_goto (pc := 31) (tgt := 35) hx hb d_m_isNumeral_31 (by decide) ?_
      have e_0 := kr1 hf
      rw [e_0]
      exact hRet (by rw [← e_0]; exact (by decide)) 35 _ _ _ d_m_isNumeral_35 hP hD hS
    · rw [if_neg hc] at hf
      refine lv_iload_n (pc := 18) hx hb d_m_isNumeral_18 rfl (lv_at hl 0 rfl) ?_
      refine lv_bipush (pc := 19) (v := (45 : Int32)) hx hb d_m_isNumeral_19 (by decide) ?_
      refine lv_icmp_eq (pc := 21) (tgt := 30) hx hb d_m_isNumeral_21 (by decide) (fun hc => ?_) (fun hc => ?_)
      · rw [if_pos hc] at hf
        refine lv_iconst (pc := 30) (v := (1 : Int32)) hx hb d_m_isNumeral_30 (by decide) ?_
        refine lv_goto (pc := 31) (tgt := 35) hx hb d_m_isNumeral_31 (by decide) ?_
        have e_0 := kr1 hf
        rw [e_0]
        exact hRet (by rw [← e_0]; exact (by decide)) 35 _ _ _ d_m_isNumeral_35 hP hD hS
      · rw [if_neg hc] at hf
        refine lv_iload_n (pc := 24) hx hb d_m_isNumeral_24 rfl (lv_at hl 0 rfl) ?_
        refine lv_bipush (pc := 25) (v := (46 : Int32)) hx hb d_m_isNumeral_25 (by decide) ?_
        refine lv_icmp_ne (pc := 27) (tgt := 34) hx hb d_m_isNumeral_27 (by decide) (fun hc => ?_) (fun hc => ?_)
        · rw [if_neg hc] at hf
          refine lv_iconst (pc := 34) (v := (0 : Int32)) hx hb d_m_isNumeral_34 (by decide) ?_
          have e_0 := kr1 hf
          rw [e_0]
          exact hRet (by rw [← e_0]; exact (by decide)) 35 _ _ _ d_m_isNumeral_35 hP hD hS
        · rw [if_pos hc] at hf
          refine lv_iconst (pc := 30) (v := (1 : Int32)) hx hb d_m_isNumeral_30 (by decide) ?_
          refine lv_goto (pc := 31) (tgt := 35) hx hb d_m_isNumeral_31 (by decide) ?_
          have e_0 := kr1 hf
          rw [e_0]
          exact hRet (by rw [← e_0]; exact (by decide)) 35 _ _ _ d_m_isNumeral_35 hP hD hS
