set_option maxHeartbeats 4000000 in
set_option maxRecDepth 100000 in
theorem ct_xPen_aimByOneControl (l : Launch) (dC : Nat → ClassId) (dI : Nat → Nat → Nat) (q_o : Nat) (q_o_matrices : Nat) (q_o_points : Nat) (q_o_drawn : Nat) (k_o_points : ClassId) (sz : Nat) (tt : Nat) (v_o_x : Int64) (v_o_y : Int64) (v_o_startX : Int64) (v_o_startY : Int64) (v_o_controlX : Int64) (v_o_controlY : Int64) (v_o_controlFor : Int32) (c_o_points : (Nat → Int64)) (v_o_controlX_z : Int64) (v_o_controlY_z : Int64) (v_o_controlFor_z : Int32) (c_o_points_z : (Nat → Int64)) (hf : xPen_aimByOneControl v_o_x v_o_y c_o_points = some (v_o_controlX_z, v_o_controlY_z, v_o_controlFor_z, c_o_points_z)) : Met l y_xPen_aimByOneControl w_xPen_aimByOneControl ({ frames := 2, cells := 0, slots := 0, locals := 48 }) (va_Pc [.ref q_o] (fun U => U.heap.size = sz ∧ va_P (dC, dI) clz [(q_o, .inr (3, f_Pen q_o_matrices q_o_points q_o_drawn v_o_x v_o_y v_o_startX v_o_startY v_o_controlX v_o_controlY v_o_controlFor)), (q_o_points, .inl (k_o_points, 6, .inr (.inl c_o_points)))] U.heap ∧ va_K (dC, dI) clz [(k_o_points, .long)] U ∧ va_D (fun _ => True) [(q_o, .inr (3, f_Pen q_o_matrices q_o_points q_o_drawn v_o_x v_o_y v_o_startX v_o_startY v_o_controlX v_o_controlY v_o_controlFor)), (q_o_points, .inl (k_o_points, 6, .inr (.inl c_o_points)))] ∧ ke tt (va_A [(q_o, .inr (3, f_Pen q_o_matrices q_o_points q_o_drawn v_o_x v_o_y v_o_startX v_o_startY v_o_controlX v_o_controlY v_o_controlFor)), (q_o_points, .inl (k_o_points, 6, .inr (.inl c_o_points)))] sz) U)) (va_Qv (fun _ : Unit => True) (fun _ t => va_P (dC, dI) clz [(q_o, .inr (3, f_Pen q_o_matrices q_o_points q_o_drawn v_o_x v_o_y v_o_startX v_o_startY v_o_controlX_z v_o_controlY_z v_o_controlFor_z)), (q_o_points, .inl (k_o_points, 6, .inr (.inl c_o_points_z)))] t.heap ∧ va_K (dC, dI) clz [(k_o_points, .long)] t ∧ va_D (va_A [(q_o, .inr (3, f_Pen q_o_matrices q_o_points q_o_drawn v_o_x v_o_y v_o_startX v_o_startY v_o_controlX v_o_controlY v_o_controlFor)), (q_o_points, .inl (k_o_points, 6, .inr (.inl c_o_points)))] sz) [(q_o, .inr (3, f_Pen q_o_matrices q_o_points q_o_drawn v_o_x v_o_y v_o_startX v_o_startY v_o_controlX_z v_o_controlY_z v_o_controlFor_z)), (q_o_points, .inl (k_o_points, 6, .inr (.inl c_o_points_z)))]) (va_A [(q_o, .inr (3, f_Pen q_o_matrices q_o_points q_o_drawn v_o_x v_o_y v_o_startX v_o_startY v_o_controlX v_o_controlY v_o_controlFor)), (q_o_points, .inl (k_o_points, 6, .inr (.inl c_o_points)))] sz)) 0 0 (va_A [(q_o, .inr (3, f_Pen q_o_matrices q_o_points q_o_drawn v_o_x v_o_y v_o_startX v_o_startY v_o_controlX v_o_controlY v_o_controlFor)), (q_o_points, .inl (k_o_points, 6, .inr (.inl c_o_points)))] sz) := by
  refine Met.ofW (cc := prog_5_method_7_code) (maxL := 1) (ret := none) (by decide +kernel) rfl ?_
  intro p e s m args below meth c s₁ B hml hv
  obtain ⟨hargs, hsz, hP, hK, hD0, hE⟩ := hv
  have hx := B.exec
  have hb := B.bytes
  have hr := B.returns
  have hts := atoms_spec (ws := w_xPen_aimByOneControl) B.pre
  have hown : s.vm.findClass "PathTexts$Pen" = some m.cls := findClass_of_methodNamed B.named
  have hlocks := B.notSynchronized
  subst hsz
  have hD := hD0.self (sz := s.heap.size)
  generalize hAe : va_A [(q_o, .inr (3, f_Pen q_o_matrices q_o_points q_o_drawn v_o_x v_o_y v_o_startX v_o_startY v_o_controlX v_o_controlY v_o_controlFor)), (q_o_points, .inl (k_o_points, 6, .inr (.inl c_o_points)))] s.heap.size = A at hD hE ⊢
  have hA : ∀ q : Nat, s.heap.size ≤ q → A q := fun q h => by rw [← hAe]; exact Or.inr h
  clear hAe hD0
  have hS : va_S A s.heap s.heap [] := va_S.rf
  have hl := lv_entry ([.ref q_o]) (n := 1) (Nat.le_of_ble_eq_true rfl)
  have hent : entryFrame m args 1 = F0 m 0 (lg_sl ([.ref q_o]) ++ List.replicate (1 - (lg_sl ([.ref q_o])).length) Slot.unset).toArray [] := by rw [hargs, lg_entry_eq]
  rw [hent]
  clear hent hargs
  generalize (lg_sl ([.ref q_o]) ++ List.replicate (1 - (lg_sl ([.ref q_o])).length) Slot.unset).toArray = ls at hl ⊢
  have hl : lv_has ls 1 [(0, .ref q_o)] := hl
  suffices key : ∀ Q : State → Prop, (∀ (pc : Nat) (H : Heap) (locs : List Loc) (ls : Array Slot), decode prog_5_method_7_code pc = .ok (.return_, 1) → va_P (dC, dI) clz [(q_o, .inr (3, f_Pen q_o_matrices q_o_points q_o_drawn v_o_x v_o_y v_o_startX v_o_startY v_o_controlX_z v_o_controlY_z v_o_controlFor_z)), (q_o_points, .inl (k_o_points, 6, .inr (.inl c_o_points_z)))] H → va_D A [(q_o, .inr (3, f_Pen q_o_matrices q_o_points q_o_drawn v_o_x v_o_y v_o_startX v_o_startY v_o_controlX_z v_o_controlY_z v_o_controlFor_z)), (q_o_points, .inl (k_o_points, 6, .inr (.inl c_o_points_z)))] → va_S A s.heap H locs → W p l e (headSpec w_xPen_aimByOneControl ({ frames := 2, cells := 0, slots := 0, locals := 48 })).room s m args below meth c H locs 0 0 Q (F0 m pc ls [])) → W p l e (headSpec w_xPen_aimByOneControl ({ frames := 2, cells := 0, slots := 0, locals := 48 })).room s m args below meth c s.heap [] 0 0 Q (F0 m 0 ls []) from key _ (fun pc H locs ls hd hP hD hS => W.vret hx hb hr (fun t ht hW => ⟨⟨(), rfl, trivial, by rw [ht]; exact hP, va_K.moved hW.alike hK, hD⟩, hS.F ht⟩) hS.2.2 hd)
  intro Q hRet
  rw [xPen_aimByOneControl] at hf
  refine lv_aload_n (pc := 0) hx hb d_xPen_aimByOneControl_0 rfl (lv_at hl 0 rfl) ?_
  refine lv_aload_n (pc := 1) hx hb d_xPen_aimByOneControl_1 rfl (lv_at hl 0 rfl) ?_
  refine va_get (pc := 2) (D := (dC, dI)) (ci := 3) (v := .ref q_o_points) (C := "PathTexts$Pen") (T := F_Pen) (N := 10) hx hb hts (fun w h => List.mem_cons_of_mem _ (in_Pen w h)) hown hK hP 0 rfl rfl 1 (by decide) (hts _ (List.mem_cons_of_mem _ kw_73)) (fun _ h9 => h9) fg_Pen_1 d_xPen_aimByOneControl_2 ?_
  refine lv_iconst (pc := 5) (v := (0 : Int32)) hx hb d_xPen_aimByOneControl_5 (by decide) ?_
  refine va_lald (pc := 6) hx hb hK hP 1 0 rfl rfl (ki_in (by decide)) d_xPen_aimByOneControl_6 ?_
  refine kx_put (pc := 7) (D := (dC, dI)) (ci := 3) (v := .long (c_o_points ((0 : Int32)).toNatClampNeg)) (ty := .long) (C := "PathTexts$Pen") (T := F_Pen) (N := 10) hx hb hts (fun w h => List.mem_cons_of_mem _ (in_Pen w h)) t_Pen tk_Pen n_Pen hown hK hP hD hS 0 rfl rfl 7 (by decide) (hts _ (List.mem_cons_of_mem _ kw_79)) (fun _ h9 => h9) rfl (tk_Pen 7 (by decide)) rfl rfl fl_Pen_7 fs_Pen_7 (ws' := [(q_o, .inr (3, f_Pen q_o_matrices q_o_points q_o_drawn v_o_x v_o_y v_o_startX v_o_startY (c_o_points ((0 : Int32)).toNatClampNeg) v_o_controlY v_o_controlFor)), (q_o_points, .inl (k_o_points, 6, .inr (.inl c_o_points)))]) rfl d_xPen_aimByOneControl_7 (fun H locs hP hD hS => ?_)
  refine lv_aload_n (pc := 10) hx hb d_xPen_aimByOneControl_10 rfl (lv_at hl 0 rfl) ?_
  refine lv_aload_n (pc := 11) hx hb d_xPen_aimByOneControl_11 rfl (lv_at hl 0 rfl) ?_
  refine va_get (pc := 12) (D := (dC, dI)) (ci := 3) (v := .ref q_o_points) (C := "PathTexts$Pen") (T := F_Pen) (N := 10) hx hb hts (fun w h => List.mem_cons_of_mem _ (in_Pen w h)) hown hK hP 0 rfl rfl 1 (by decide) (hts _ (List.mem_cons_of_mem _ kw_73)) (fun _ h9 => h9) fg_Pen_1 d_xPen_aimByOneControl_12 ?_
  refine lv_iconst (pc := 15) (v := (1 : Int32)) hx hb d_xPen_aimByOneControl_15 (by decide) ?_
  refine va_lald (pc := 16) hx hb hK hP 1 0 rfl rfl (ki_in (by decide)) d_xPen_aimByOneControl_16 ?_
  refine kx_put (pc := 17) (D := (dC, dI)) (ci := 3) (v := .long (c_o_points ((1 : Int32)).toNatClampNeg)) (ty := .long) (C := "PathTexts$Pen") (T := F_Pen) (N := 10) hx hb hts (fun w h => List.mem_cons_of_mem _ (in_Pen w h)) t_Pen tk_Pen n_Pen hown hK hP hD hS 0 rfl rfl 8 (by decide) (hts _ (List.mem_cons_of_mem _ kw_80)) (fun _ h9 => h9) rfl (tk_Pen 8 (by decide)) rfl rfl fl_Pen_8 fs_Pen_8 (ws' := [(q_o, .inr (3, f_Pen q_o_matrices q_o_points q_o_drawn v_o_x v_o_y v_o_startX v_o_startY (c_o_points ((0 : Int32)).toNatClampNeg) (c_o_points ((1 : Int32)).toNatClampNeg) v_o_controlFor)), (q_o_points, .inl (k_o_points, 6, .inr (.inl c_o_points)))]) rfl d_xPen_aimByOneControl_17 (fun H locs hP hD hS => ?_)
  refine lv_aload_n (pc := 20) hx hb d_xPen_aimByOneControl_20 rfl (lv_at hl 0 rfl) ?_
  refine lv_bipush (pc := 21) (v := (81 : Int32)) hx hb d_xPen_aimByOneControl_21 (by decide) ?_
  refine kx_put (pc := 23) (D := (dC, dI)) (ci := 3) (v := .int (81 : Int32)) (ty := .char) (C := "PathTexts$Pen") (T := F_Pen) (N := 10) hx hb hts (fun w h => List.mem_cons_of_mem _ (in_Pen w h)) t_Pen tk_Pen n_Pen hown hK hP hD hS 0 rfl rfl 9 (by decide) (hts _ (List.mem_cons_of_mem _ kw_81)) (fun _ h9 => h9) rfl (tk_Pen 9 (by decide)) (by decide) (by decide) fl_Pen_9 fs_Pen_9 (ws' := [(q_o, .inr (3, f_Pen q_o_matrices q_o_points q_o_drawn v_o_x v_o_y v_o_startX v_o_startY (c_o_points ((0 : Int32)).toNatClampNeg) (c_o_points ((1 : Int32)).toNatClampNeg) (81 : Int32))), (q_o_points, .inl (k_o_points, 6, .inr (.inl c_o_points)))]) rfl d_xPen_aimByOneControl_23 (fun H locs hP hD hS => ?_)
  refine lv_aload_n (pc := 26) hx hb d_xPen_aimByOneControl_26 rfl (lv_at hl 0 rfl) ?_
  refine va_get (pc := 27) (D := (dC, dI)) (ci := 3) (v := .ref q_o_points) (C := "PathTexts$Pen") (T := F_Pen) (N := 10) hx hb hts (fun w h => List.mem_cons_of_mem _ (in_Pen w h)) hown hK hP 0 rfl rfl 1 (by decide) (hts _ (List.mem_cons_of_mem _ kw_73)) (fun _ h9 => h9) fg_Pen_1 d_xPen_aimByOneControl_27 ?_
  refine lv_iconst (pc := 30) (v := (4 : Int32)) hx hb d_xPen_aimByOneControl_30 (by decide) ?_
  refine lv_aload_n (pc := 31) hx hb d_xPen_aimByOneControl_31 rfl (lv_at hl 0 rfl) ?_
  refine va_get (pc := 32) (D := (dC, dI)) (ci := 3) (v := .ref q_o_points) (C := "PathTexts$Pen") (T := F_Pen) (N := 10) hx hb hts (fun w h => List.mem_cons_of_mem _ (in_Pen w h)) hown hK hP 0 rfl rfl 1 (by decide) (hts _ (List.mem_cons_of_mem _ kw_73)) (fun _ h9 => h9) fg_Pen_1 d_xPen_aimByOneControl_32 ?_
  refine lv_iconst (pc := 35) (v := (2 : Int32)) hx hb d_xPen_aimByOneControl_35 (by decide) ?_
  refine va_lald (pc := 36) hx hb hK hP 1 0 rfl rfl (ki_in (by decide)) d_xPen_aimByOneControl_36 ?_
  refine kx_last (pc := 37) (ws' := [(q_o, .inr (3, f_Pen q_o_matrices q_o_points q_o_drawn v_o_x v_o_y v_o_startX v_o_startY (c_o_points ((0 : Int32)).toNatClampNeg) (c_o_points ((1 : Int32)).toNatClampNeg) (81 : Int32))), (q_o_points, .inl (k_o_points, 6, .inr (.inl (vp_updL c_o_points ((4 : Int32)).toNatClampNeg (c_o_points ((2 : Int32)).toNatClampNeg)))))]) hx hb hK hP hD hS 1 0 rfl rfl (ki_in (by decide)) rfl d_xPen_aimByOneControl_37 (fun H locs hP hD hS => ?_)
  refine lv_aload_n (pc := 38) hx hb d_xPen_aimByOneControl_38 rfl (lv_at hl 0 rfl) ?_
  refine va_get (pc := 39) (D := (dC, dI)) (ci := 3) (v := .ref q_o_points) (C := "PathTexts$Pen") (T := F_Pen) (N := 10) hx hb hts (fun w h => List.mem_cons_of_mem _ (in_Pen w h)) hown hK hP 0 rfl rfl 1 (by decide) (hts _ (List.mem_cons_of_mem _ kw_73)) (fun _ h9 => h9) fg_Pen_1 d_xPen_aimByOneControl_39 ?_
  refine lv_iconst (pc := 42) (v := (5 : Int32)) hx hb d_xPen_aimByOneControl_42 (by decide) ?_
  refine lv_aload_n (pc := 43) hx hb d_xPen_aimByOneControl_43 rfl (lv_at hl 0 rfl) ?_
  refine va_get (pc := 44) (D := (dC, dI)) (ci := 3) (v := .ref q_o_points) (C := "PathTexts$Pen") (T := F_Pen) (N := 10) hx hb hts (fun w h => List.mem_cons_of_mem _ (in_Pen w h)) hown hK hP 0 rfl rfl 1 (by decide) (hts _ (List.mem_cons_of_mem _ kw_73)) (fun _ h9 => h9) fg_Pen_1 d_xPen_aimByOneControl_44 ?_
  refine lv_iconst (pc := 47) (v := (3 : Int32)) hx hb d_xPen_aimByOneControl_47 (by decide) ?_
  refine va_lald (pc := 48) hx hb hK hP 1 0 rfl rfl (ki_in (by decide)) d_xPen_aimByOneControl_48 ?_
  refine kx_last (pc := 49) (ws' := [(q_o, .inr (3, f_Pen q_o_matrices q_o_points q_o_drawn v_o_x v_o_y v_o_startX v_o_startY (c_o_points ((0 : Int32)).toNatClampNeg) (c_o_points ((1 : Int32)).toNatClampNeg) (81 : Int32))), (q_o_points, .inl (k_o_points, 6, .inr (.inl (vp_updL (vp_updL c_o_points ((4 : Int32)).toNatClampNeg (c_o_points ((2 : Int32)).toNatClampNeg)) ((5 : Int32)).toNatClampNeg ((vp_updL c_o_points ((4 : Int32)).toNatClampNeg (c_o_points ((2 : Int32)).toNatClampNeg)) ((3 : Int32)).toNatClampNeg)))))]) hx hb hK hP hD hS 1 0 rfl rfl (ki_in (by decide)) rfl d_xPen_aimByOneControl_49 (fun H locs hP hD hS => ?_)
  refine lv_aload_n (pc := 50) hx hb d_xPen_aimByOneControl_50 rfl (lv_at hl 0 rfl) ?_
  refine va_get (pc := 51) (D := (dC, dI)) (ci := 3) (v := .ref q_o_points) (C := "PathTexts$Pen") (T := F_Pen) (N := 10) hx hb hts (fun w h => List.mem_cons_of_mem _ (in_Pen w h)) hown hK hP 0 rfl rfl 1 (by decide) (hts _ (List.mem_cons_of_mem _ kw_73)) (fun _ h9 => h9) fg_Pen_1 d_xPen_aimByOneControl_51 ?_
  refine lv_iconst (pc := 54) (v := (0 : Int32)) hx hb d_xPen_aimByOneControl_54 (by decide) ?_
  refine lv_aload_n (pc := 55) hx hb d_xPen_aimByOneControl_55 rfl (lv_at hl 0 rfl) ?_
  refine va_get (pc := 56) (D := (dC, dI)) (ci := 3) (v := .long v_o_x) (C := "PathTexts$Pen") (T := F_Pen) (N := 10) hx hb hts (fun w h => List.mem_cons_of_mem _ (in_Pen w h)) hown hK hP 0 rfl rfl 3 (by decide) (hts _ (List.mem_cons_of_mem _ kw_75)) (fun _ h9 => h9) fg_Pen_3 d_xPen_aimByOneControl_56 ?_
  refine lv_ldc2 (pc := 59) hx hb hown (hts _ (List.mem_cons_of_mem _ kw_321)) d_xPen_aimByOneControl_59 ?_
  refine lv_aload_n (pc := 62) hx hb d_xPen_aimByOneControl_62 rfl (lv_at hl 0 rfl) ?_
  refine va_get (pc := 63) (D := (dC, dI)) (ci := 3) (v := .long (c_o_points ((0 : Int32)).toNatClampNeg)) (C := "PathTexts$Pen") (T := F_Pen) (N := 10) hx hb hts (fun w h => List.mem_cons_of_mem _ (in_Pen w h)) hown hK hP 0 rfl rfl 7 (by decide) (hts _ (List.mem_cons_of_mem _ kw_79)) (fun _ h9 => h9) fg_Pen_7 d_xPen_aimByOneControl_63 ?_
  refine lv_lmul (pc := 66) hx hb d_xPen_aimByOneControl_66 ?_
  refine lv_ladd (pc := 67) hx hb d_xPen_aimByOneControl_67 ?_
  refine lv_ldc2 (pc := 68) hx hb hown (hts _ (List.mem_cons_of_mem _ kw_326)) d_xPen_aimByOneControl_68 ?_
  obtain ⟨r71, hz, hf⟩ := kb1_some hf
  have hPc := hP.sub (ws' := []) [] rfl
  have hDc := hD.sub (ws' := []) [] (by decide) rfl
  have hKc := hK.sub (tys' := []) [] rfl
  have hFc := va_free (wc := []) hD hS hA [] rfl
  refine va_calll (pc := 71) (va_runSN (As := [.long (v_o_x + ((2 : Int64) * (c_o_points ((0 : Int32)).toNatClampNeg))), .long (3 : Int64)]) (rest := [.int (0 : Int32), .ref q_o_points]) ⟨hx, hb, hml, hown, hts⟩ (ct_xP_nearest l dC dI _ (v_o_x + ((2 : Int64) * (c_o_points ((0 : Int32)).toNatClampNeg))) (3 : Int64) r71 hz) ⟨va_cnB 2 hts (kw_in kw_265) rfl rfl rfl (hE.1 _ kn_9) (hts _ (List.mem_cons_of_mem _ kw_1)) (by decide +kernel) ⟨Nat.le_of_ble_eq_true rfl, Nat.le_of_ble_eq_true rfl⟩, hts _ (List.mem_cons_of_mem _ kw_264), trivial⟩ (kx_pre hPc hKc hDc) rfl rfl hl.1 rfl (lv_room (Nat.le_of_ble_eq_true rfl)) d_xPen_aimByOneControl_71 ⟨Nat.le_of_ble_eq_true rfl, Nat.le_of_ble_eq_true rfl⟩) hS (fun q _ h => hFc q h) hFc (fun r9 u t H1 locs ht hvm hw hB hz1 hk1 hS => ?_)
  obtain ⟨hP1, hK1, hD1⟩ := hB
  rw [ht] at hP1
  have hw := hw.symm
  subst hw
  obtain ⟨hP, hD⟩ := va_join (wr := [(q_o, .inr (3, f_Pen q_o_matrices q_o_points q_o_drawn v_o_x v_o_y v_o_startX v_o_startY (c_o_points ((0 : Int32)).toNatClampNeg) (c_o_points ((1 : Int32)).toNatClampNeg) (81 : Int32))), (q_o_points, .inl (k_o_points, 6, .inr (.inl (vp_updL (vp_updL c_o_points ((4 : Int32)).toNatClampNeg (c_o_points ((2 : Int32)).toNatClampNeg)) ((5 : Int32)).toNatClampNeg ((vp_updL c_o_points ((4 : Int32)).toNatClampNeg (c_o_points ((2 : Int32)).toNatClampNeg)) ((3 : Int32)).toNatClampNeg)))))]) (w1 := []) hP hD [] [0, 1] rfl rfl (by decide) (by decide) hk1 hFc hP1 hD1
  have hP := hP.sub (ws' := [(q_o, .inr (3, f_Pen q_o_matrices q_o_points q_o_drawn v_o_x v_o_y v_o_startX v_o_startY (c_o_points ((0 : Int32)).toNatClampNeg) (c_o_points ((1 : Int32)).toNatClampNeg) (81 : Int32))), (q_o_points, .inl (k_o_points, 6, .inr (.inl (vp_updL (vp_updL c_o_points ((4 : Int32)).toNatClampNeg (c_o_points ((2 : Int32)).toNatClampNeg)) ((5 : Int32)).toNatClampNeg ((vp_updL c_o_points ((4 : Int32)).toNatClampNeg (c_o_points ((2 : Int32)).toNatClampNeg)) ((3 : Int32)).toNatClampNeg)))))]) [0, 1] rfl
  have hD := hD.sub (ws' := [(q_o, .inr (3, f_Pen q_o_matrices q_o_points q_o_drawn v_o_x v_o_y v_o_startX v_o_startY (c_o_points ((0 : Int32)).toNatClampNeg) (c_o_points ((1 : Int32)).toNatClampNeg) (81 : Int32))), (q_o_points, .inl (k_o_points, 6, .inr (.inl (vp_updL (vp_updL c_o_points ((4 : Int32)).toNatClampNeg (c_o_points ((2 : Int32)).toNatClampNeg)) ((5 : Int32)).toNatClampNeg ((vp_updL c_o_points ((4 : Int32)).toNatClampNeg (c_o_points ((2 : Int32)).toNatClampNeg)) ((3 : Int32)).toNatClampNeg)))))]) [0, 1] (by decide) rfl
  clear hP1 hK1 hD1 hk1 hPc hDc hKc hFc hz1 hvm ht hz
  generalize H1 = H at hP hS ⊢
  refine kx_last (pc := 74) (ws' := [(q_o, .inr (3, f_Pen q_o_matrices q_o_points q_o_drawn v_o_x v_o_y v_o_startX v_o_startY (c_o_points ((0 : Int32)).toNatClampNeg) (c_o_points ((1 : Int32)).toNatClampNeg) (81 : Int32))), (q_o_points, .inl (k_o_points, 6, .inr (.inl (vp_updL (vp_updL (vp_updL c_o_points ((4 : Int32)).toNatClampNeg (c_o_points ((2 : Int32)).toNatClampNeg)) ((5 : Int32)).toNatClampNeg ((vp_updL c_o_points ((4 : Int32)).toNatClampNeg (c_o_points ((2 : Int32)).toNatClampNeg)) ((3 : Int32)).toNatClampNeg)) ((0 : Int32)).toNatClampNeg r71))))]) hx hb hK hP hD hS 1 0 rfl rfl (ki_in (by decide)) rfl d_xPen_aimByOneControl_74 (fun H locs hP hD hS => ?_)
  refine lv_aload_n (pc := 75) hx hb d_xPen_aimByOneControl_75 rfl (lv_at hl 0 rfl) ?_
  refine va_get (pc := 76) (D := (dC, dI)) (ci := 3) (v := .ref q_o_points) (C := "PathTexts$Pen") (T := F_Pen) (N := 10) hx hb hts (fun w h => List.mem_cons_of_mem _ (in_Pen w h)) hown hK hP 0 rfl rfl 1 (by decide) (hts _ (List.mem_cons_of_mem _ kw_73)) (fun _ h9 => h9) fg_Pen_1 d_xPen_aimByOneControl_76 ?_
  refine lv_iconst (pc := 79) (v := (1 : Int32)) hx hb d_xPen_aimByOneControl_79 (by decide) ?_
  refine lv_aload_n (pc := 80) hx hb d_xPen_aimByOneControl_80 rfl (lv_at hl 0 rfl) ?_
  refine va_get (pc := 81) (D := (dC, dI)) (ci := 3) (v := .long v_o_y) (C := "PathTexts$Pen") (T := F_Pen) (N := 10) hx hb hts (fun w h => List.mem_cons_of_mem _ (in_Pen w h)) hown hK hP 0 rfl rfl 4 (by decide) (hts _ (List.mem_cons_of_mem _ kw_76)) (fun _ h9 => h9) fg_Pen_4 d_xPen_aimByOneControl_81 ?_
  refine lv_ldc2 (pc := 84) hx hb hown (hts _ (List.mem_cons_of_mem _ kw_321)) d_xPen_aimByOneControl_84 ?_
  refine lv_aload_n (pc := 87) hx hb d_xPen_aimByOneControl_87 rfl (lv_at hl 0 rfl) ?_
  refine va_get (pc := 88) (D := (dC, dI)) (ci := 3) (v := .long (c_o_points ((1 : Int32)).toNatClampNeg)) (C := "PathTexts$Pen") (T := F_Pen) (N := 10) hx hb hts (fun w h => List.mem_cons_of_mem _ (in_Pen w h)) hown hK hP 0 rfl rfl 8 (by decide) (hts _ (List.mem_cons_of_mem _ kw_80)) (fun _ h9 => h9) fg_Pen_8 d_xPen_aimByOneControl_88 ?_
  refine lv_lmul (pc := 91) hx hb d_xPen_aimByOneControl_91 ?_
  refine lv_ladd (pc := 92) hx hb d_xPen_aimByOneControl_92 ?_
  refine lv_ldc2 (pc := 93) hx hb hown (hts _ (List.mem_cons_of_mem _ kw_326)) d_xPen_aimByOneControl_93 ?_
  obtain ⟨r96, hz, hf⟩ := kb1_some hf
  have hPc := hP.sub (ws' := []) [] rfl
  have hDc := hD.sub (ws' := []) [] (by decide) rfl
  have hKc := hK.sub (tys' := []) [] rfl
  have hFc := va_free (wc := []) hD hS hA [] rfl
  refine va_calll (pc := 96) (va_runSN (As := [.long (v_o_y + ((2 : Int64) * (c_o_points ((1 : Int32)).toNatClampNeg))), .long (3 : Int64)]) (rest := [.int (1 : Int32), .ref q_o_points]) ⟨hx, hb, hml, hown, hts⟩ (ct_xP_nearest l dC dI _ (v_o_y + ((2 : Int64) * (c_o_points ((1 : Int32)).toNatClampNeg))) (3 : Int64) r96 hz) ⟨va_cnB 2 hts (kw_in kw_265) rfl rfl rfl (hE.1 _ kn_9) (hts _ (List.mem_cons_of_mem _ kw_1)) (by decide +kernel) ⟨Nat.le_of_ble_eq_true rfl, Nat.le_of_ble_eq_true rfl⟩, hts _ (List.mem_cons_of_mem _ kw_264), trivial⟩ (kx_pre hPc hKc hDc) rfl rfl hl.1 rfl (lv_room (Nat.le_of_ble_eq_true rfl)) d_xPen_aimByOneControl_96 ⟨Nat.le_of_ble_eq_true rfl, Nat.le_of_ble_eq_true rfl⟩) hS (fun q _ h => hFc q h) hFc (fun r9 u t H1 locs ht hvm hw hB hz1 hk1 hS => ?_)
  obtain ⟨hP1, hK1, hD1⟩ := hB
  rw [ht] at hP1
  have hw := hw.symm
  subst hw
  obtain ⟨hP, hD⟩ := va_join (wr := [(q_o, .inr (3, f_Pen q_o_matrices q_o_points q_o_drawn v_o_x v_o_y v_o_startX v_o_startY (c_o_points ((0 : Int32)).toNatClampNeg) (c_o_points ((1 : Int32)).toNatClampNeg) (81 : Int32))), (q_o_points, .inl (k_o_points, 6, .inr (.inl (vp_updL (vp_updL (vp_updL c_o_points ((4 : Int32)).toNatClampNeg (c_o_points ((2 : Int32)).toNatClampNeg)) ((5 : Int32)).toNatClampNeg ((vp_updL c_o_points ((4 : Int32)).toNatClampNeg (c_o_points ((2 : Int32)).toNatClampNeg)) ((3 : Int32)).toNatClampNeg)) ((0 : Int32)).toNatClampNeg r71))))]) (w1 := []) hP hD [] [0, 1] rfl rfl (by decide) (by decide) hk1 hFc hP1 hD1
  have hP := hP.sub (ws' := [(q_o, .inr (3, f_Pen q_o_matrices q_o_points q_o_drawn v_o_x v_o_y v_o_startX v_o_startY (c_o_points ((0 : Int32)).toNatClampNeg) (c_o_points ((1 : Int32)).toNatClampNeg) (81 : Int32))), (q_o_points, .inl (k_o_points, 6, .inr (.inl (vp_updL (vp_updL (vp_updL c_o_points ((4 : Int32)).toNatClampNeg (c_o_points ((2 : Int32)).toNatClampNeg)) ((5 : Int32)).toNatClampNeg ((vp_updL c_o_points ((4 : Int32)).toNatClampNeg (c_o_points ((2 : Int32)).toNatClampNeg)) ((3 : Int32)).toNatClampNeg)) ((0 : Int32)).toNatClampNeg r71))))]) [0, 1] rfl
  have hD := hD.sub (ws' := [(q_o, .inr (3, f_Pen q_o_matrices q_o_points q_o_drawn v_o_x v_o_y v_o_startX v_o_startY (c_o_points ((0 : Int32)).toNatClampNeg) (c_o_points ((1 : Int32)).toNatClampNeg) (81 : Int32))), (q_o_points, .inl (k_o_points, 6, .inr (.inl (vp_updL (vp_updL (vp_updL c_o_points ((4 : Int32)).toNatClampNeg (c_o_points ((2 : Int32)).toNatClampNeg)) ((5 : Int32)).toNatClampNeg ((vp_updL c_o_points ((4 : Int32)).toNatClampNeg (c_o_points ((2 : Int32)).toNatClampNeg)) ((3 : Int32)).toNatClampNeg)) ((0 : Int32)).toNatClampNeg r71))))]) [0, 1] (by decide) rfl
  clear hP1 hK1 hD1 hk1 hPc hDc hKc hFc hz1 hvm ht hz
  generalize H1 = H at hP hS ⊢
  refine kx_last (pc := 99) (ws' := [(q_o, .inr (3, f_Pen q_o_matrices q_o_points q_o_drawn v_o_x v_o_y v_o_startX v_o_startY (c_o_points ((0 : Int32)).toNatClampNeg) (c_o_points ((1 : Int32)).toNatClampNeg) (81 : Int32))), (q_o_points, .inl (k_o_points, 6, .inr (.inl (vp_updL (vp_updL (vp_updL (vp_updL c_o_points ((4 : Int32)).toNatClampNeg (c_o_points ((2 : Int32)).toNatClampNeg)) ((5 : Int32)).toNatClampNeg ((vp_updL c_o_points ((4 : Int32)).toNatClampNeg (c_o_points ((2 : Int32)).toNatClampNeg)) ((3 : Int32)).toNatClampNeg)) ((0 : Int32)).toNatClampNeg r71) ((1 : Int32)).toNatClampNeg r96))))]) hx hb hK hP hD hS 1 0 rfl rfl (ki_in (by decide)) rfl d_xPen_aimByOneControl_99 (fun H locs hP hD hS => ?_)
  refine lv_aload_n (pc := 100) hx hb d_xPen_aimByOneControl_100 rfl (lv_at hl 0 rfl) ?_
  refine va_get (pc := 101) (D := (dC, dI)) (ci := 3) (v := .ref q_o_points) (C := "PathTexts$Pen") (T := F_Pen) (N := 10) hx hb hts (fun w h => List.mem_cons_of_mem _ (in_Pen w h)) hown hK hP 0 rfl rfl 1 (by decide) (hts _ (List.mem_cons_of_mem _ kw_73)) (fun _ h9 => h9) fg_Pen_1 d_xPen_aimByOneControl_101 ?_
  refine lv_iconst (pc := 104) (v := (2 : Int32)) hx hb d_xPen_aimByOneControl_104 (by decide) ?_
  refine lv_aload_n (pc := 105) hx hb d_xPen_aimByOneControl_105 rfl (lv_at hl 0 rfl) ?_
  refine va_get (pc := 106) (D := (dC, dI)) (ci := 3) (v := .ref q_o_points) (C := "PathTexts$Pen") (T := F_Pen) (N := 10) hx hb hts (fun w h => List.mem_cons_of_mem _ (in_Pen w h)) hown hK hP 0 rfl rfl 1 (by decide) (hts _ (List.mem_cons_of_mem _ kw_73)) (fun _ h9 => h9) fg_Pen_1 d_xPen_aimByOneControl_106 ?_
  refine lv_iconst (pc := 109) (v := (4 : Int32)) hx hb d_xPen_aimByOneControl_109 (by decide) ?_
  refine va_lald (pc := 110) hx hb hK hP 1 0 rfl rfl (ki_in (by decide)) d_xPen_aimByOneControl_110 ?_
  refine lv_ldc2 (pc := 111) hx hb hown (hts _ (List.mem_cons_of_mem _ kw_321)) d_xPen_aimByOneControl_111 ?_
  refine lv_aload_n (pc := 114) hx hb d_xPen_aimByOneControl_114 rfl (lv_at hl 0 rfl) ?_
  refine va_get (pc := 115) (D := (dC, dI)) (ci := 3) (v := .long (c_o_points ((0 : Int32)).toNatClampNeg)) (C := "PathTexts$Pen") (T := F_Pen) (N := 10) hx hb hts (fun w h => List.mem_cons_of_mem _ (in_Pen w h)) hown hK hP 0 rfl rfl 7 (by decide) (hts _ (List.mem_cons_of_mem _ kw_79)) (fun _ h9 => h9) fg_Pen_7 d_xPen_aimByOneControl_115 ?_
  refine lv_lmul (pc := 118) hx hb d_xPen_aimByOneControl_118 ?_
  refine lv_ladd (pc := 119) hx hb d_xPen_aimByOneControl_119 ?_
  refine lv_ldc2 (pc := 120) hx hb hown (hts _ (List.mem_cons_of_mem _ kw_326)) d_xPen_aimByOneControl_120 ?_
  obtain ⟨r123, hz, hf⟩ := kb1_some hf
  have hPc := hP.sub (ws' := []) [] rfl
  have hDc := hD.sub (ws' := []) [] (by decide) rfl
  have hKc := hK.sub (tys' := []) [] rfl
  have hFc := va_free (wc := []) hD hS hA [] rfl
  refine va_calll (pc := 123) (va_runSN (As := [.long (((vp_updL (vp_updL (vp_updL (vp_updL c_o_points ((4 : Int32)).toNatClampNeg (c_o_points ((2 : Int32)).toNatClampNeg)) ((5 : Int32)).toNatClampNeg ((vp_updL c_o_points ((4 : Int32)).toNatClampNeg (c_o_points ((2 : Int32)).toNatClampNeg)) ((3 : Int32)).toNatClampNeg)) ((0 : Int32)).toNatClampNeg r71) ((1 : Int32)).toNatClampNeg r96) ((4 : Int32)).toNatClampNeg) + ((2 : Int64) * (c_o_points ((0 : Int32)).toNatClampNeg))), .long (3 : Int64)]) (rest := [.int (2 : Int32), .ref q_o_points]) ⟨hx, hb, hml, hown, hts⟩ (ct_xP_nearest l dC dI _ (((vp_updL (vp_updL (vp_updL (vp_updL c_o_points ((4 : Int32)).toNatClampNeg (c_o_points ((2 : Int32)).toNatClampNeg)) ((5 : Int32)).toNatClampNeg ((vp_updL c_o_points ((4 : Int32)).toNatClampNeg (c_o_points ((2 : Int32)).toNatClampNeg)) ((3 : Int32)).toNatClampNeg)) ((0 : Int32)).toNatClampNeg r71) ((1 : Int32)).toNatClampNeg r96) ((4 : Int32)).toNatClampNeg) + ((2 : Int64) * (c_o_points ((0 : Int32)).toNatClampNeg))) (3 : Int64) r123 hz) ⟨va_cnB 2 hts (kw_in kw_265) rfl rfl rfl (hE.1 _ kn_9) (hts _ (List.mem_cons_of_mem _ kw_1)) (by decide +kernel) ⟨Nat.le_of_ble_eq_true rfl, Nat.le_of_ble_eq_true rfl⟩, hts _ (List.mem_cons_of_mem _ kw_264), trivial⟩ (kx_pre hPc hKc hDc) rfl rfl hl.1 rfl (lv_room (Nat.le_of_ble_eq_true rfl)) d_xPen_aimByOneControl_123 ⟨Nat.le_of_ble_eq_true rfl, Nat.le_of_ble_eq_true rfl⟩) hS (fun q _ h => hFc q h) hFc (fun r9 u t H1 locs ht hvm hw hB hz1 hk1 hS => ?_)
  obtain ⟨hP1, hK1, hD1⟩ := hB
  rw [ht] at hP1
  have hw := hw.symm
  subst hw
  obtain ⟨hP, hD⟩ := va_join (wr := [(q_o, .inr (3, f_Pen q_o_matrices q_o_points q_o_drawn v_o_x v_o_y v_o_startX v_o_startY (c_o_points ((0 : Int32)).toNatClampNeg) (c_o_points ((1 : Int32)).toNatClampNeg) (81 : Int32))), (q_o_points, .inl (k_o_points, 6, .inr (.inl (vp_updL (vp_updL (vp_updL (vp_updL c_o_points ((4 : Int32)).toNatClampNeg (c_o_points ((2 : Int32)).toNatClampNeg)) ((5 : Int32)).toNatClampNeg ((vp_updL c_o_points ((4 : Int32)).toNatClampNeg (c_o_points ((2 : Int32)).toNatClampNeg)) ((3 : Int32)).toNatClampNeg)) ((0 : Int32)).toNatClampNeg r71) ((1 : Int32)).toNatClampNeg r96))))]) (w1 := []) hP hD [] [0, 1] rfl rfl (by decide) (by decide) hk1 hFc hP1 hD1
  have hP := hP.sub (ws' := [(q_o, .inr (3, f_Pen q_o_matrices q_o_points q_o_drawn v_o_x v_o_y v_o_startX v_o_startY (c_o_points ((0 : Int32)).toNatClampNeg) (c_o_points ((1 : Int32)).toNatClampNeg) (81 : Int32))), (q_o_points, .inl (k_o_points, 6, .inr (.inl (vp_updL (vp_updL (vp_updL (vp_updL c_o_points ((4 : Int32)).toNatClampNeg (c_o_points ((2 : Int32)).toNatClampNeg)) ((5 : Int32)).toNatClampNeg ((vp_updL c_o_points ((4 : Int32)).toNatClampNeg (c_o_points ((2 : Int32)).toNatClampNeg)) ((3 : Int32)).toNatClampNeg)) ((0 : Int32)).toNatClampNeg r71) ((1 : Int32)).toNatClampNeg r96))))]) [0, 1] rfl
  have hD := hD.sub (ws' := [(q_o, .inr (3, f_Pen q_o_matrices q_o_points q_o_drawn v_o_x v_o_y v_o_startX v_o_startY (c_o_points ((0 : Int32)).toNatClampNeg) (c_o_points ((1 : Int32)).toNatClampNeg) (81 : Int32))), (q_o_points, .inl (k_o_points, 6, .inr (.inl (vp_updL (vp_updL (vp_updL (vp_updL c_o_points ((4 : Int32)).toNatClampNeg (c_o_points ((2 : Int32)).toNatClampNeg)) ((5 : Int32)).toNatClampNeg ((vp_updL c_o_points ((4 : Int32)).toNatClampNeg (c_o_points ((2 : Int32)).toNatClampNeg)) ((3 : Int32)).toNatClampNeg)) ((0 : Int32)).toNatClampNeg r71) ((1 : Int32)).toNatClampNeg r96))))]) [0, 1] (by decide) rfl
  clear hP1 hK1 hD1 hk1 hPc hDc hKc hFc hz1 hvm ht hz
  generalize H1 = H at hP hS ⊢
  refine kx_last (pc := 126) (ws' := [(q_o, .inr (3, f_Pen q_o_matrices q_o_points q_o_drawn v_o_x v_o_y v_o_startX v_o_startY (c_o_points ((0 : Int32)).toNatClampNeg) (c_o_points ((1 : Int32)).toNatClampNeg) (81 : Int32))), (q_o_points, .inl (k_o_points, 6, .inr (.inl (vp_updL (vp_updL (vp_updL (vp_updL (vp_updL c_o_points ((4 : Int32)).toNatClampNeg (c_o_points ((2 : Int32)).toNatClampNeg)) ((5 : Int32)).toNatClampNeg ((vp_updL c_o_points ((4 : Int32)).toNatClampNeg (c_o_points ((2 : Int32)).toNatClampNeg)) ((3 : Int32)).toNatClampNeg)) ((0 : Int32)).toNatClampNeg r71) ((1 : Int32)).toNatClampNeg r96) ((2 : Int32)).toNatClampNeg r123))))]) hx hb hK hP hD hS 1 0 rfl rfl (ki_in (by decide)) rfl d_xPen_aimByOneControl_126 (fun H locs hP hD hS => ?_)
  refine lv_aload_n (pc := 127) hx hb d_xPen_aimByOneControl_127 rfl (lv_at hl 0 rfl) ?_
  refine va_get (pc := 128) (D := (dC, dI)) (ci := 3) (v := .ref q_o_points) (C := "PathTexts$Pen") (T := F_Pen) (N := 10) hx hb hts (fun w h => List.mem_cons_of_mem _ (in_Pen w h)) hown hK hP 0 rfl rfl 1 (by decide) (hts _ (List.mem_cons_of_mem _ kw_73)) (fun _ h9 => h9) fg_Pen_1 d_xPen_aimByOneControl_128 ?_
  refine lv_iconst (pc := 131) (v := (3 : Int32)) hx hb d_xPen_aimByOneControl_131 (by decide) ?_
  refine lv_aload_n (pc := 132) hx hb d_xPen_aimByOneControl_132 rfl (lv_at hl 0 rfl) ?_
  refine va_get (pc := 133) (D := (dC, dI)) (ci := 3) (v := .ref q_o_points) (C := "PathTexts$Pen") (T := F_Pen) (N := 10) hx hb hts (fun w h => List.mem_cons_of_mem _ (in_Pen w h)) hown hK hP 0 rfl rfl 1 (by decide) (hts _ (List.mem_cons_of_mem _ kw_73)) (fun _ h9 => h9) fg_Pen_1 d_xPen_aimByOneControl_133 ?_
  refine lv_iconst (pc := 136) (v := (5 : Int32)) hx hb d_xPen_aimByOneControl_136 (by decide) ?_
  refine va_lald (pc := 137) hx hb hK hP 1 0 rfl rfl (ki_in (by decide)) d_xPen_aimByOneControl_137 ?_
  refine lv_ldc2 (pc := 138) hx hb hown (hts _ (List.mem_cons_of_mem _ kw_321)) d_xPen_aimByOneControl_138 ?_
  refine lv_aload_n (pc := 141) hx hb d_xPen_aimByOneControl_141 rfl (lv_at hl 0 rfl) ?_
  refine va_get (pc := 142) (D := (dC, dI)) (ci := 3) (v := .long (c_o_points ((1 : Int32)).toNatClampNeg)) (C := "PathTexts$Pen") (T := F_Pen) (N := 10) hx hb hts (fun w h => List.mem_cons_of_mem _ (in_Pen w h)) hown hK hP 0 rfl rfl 8 (by decide) (hts _ (List.mem_cons_of_mem _ kw_80)) (fun _ h9 => h9) fg_Pen_8 d_xPen_aimByOneControl_142 ?_
  refine lv_lmul (pc := 145) hx hb d_xPen_aimByOneControl_145 ?_
  refine lv_ladd (pc := 146) hx hb d_xPen_aimByOneControl_146 ?_
  refine lv_ldc2 (pc := 147) hx hb hown (hts _ (List.mem_cons_of_mem _ kw_326)) d_xPen_aimByOneControl_147 ?_
  obtain ⟨r150, hz, hf⟩ := kb1_some hf
  have hPc := hP.sub (ws' := []) [] rfl
  have hDc := hD.sub (ws' := []) [] (by decide) rfl
  have hKc := hK.sub (tys' := []) [] rfl
  have hFc := va_free (wc := []) hD hS hA [] rfl
  refine va_calll (pc := 150) (va_runSN (As := [.long (((vp_updL (vp_updL (vp_updL (vp_updL (vp_updL c_o_points ((4 : Int32)).toNatClampNeg (c_o_points ((2 : Int32)).toNatClampNeg)) ((5 : Int32)).toNatClampNeg ((vp_updL c_o_points ((4 : Int32)).toNatClampNeg (c_o_points ((2 : Int32)).toNatClampNeg)) ((3 : Int32)).toNatClampNeg)) ((0 : Int32)).toNatClampNeg r71) ((1 : Int32)).toNatClampNeg r96) ((2 : Int32)).toNatClampNeg r123) ((5 : Int32)).toNatClampNeg) + ((2 : Int64) * (c_o_points ((1 : Int32)).toNatClampNeg))), .long (3 : Int64)]) (rest := [.int (3 : Int32), .ref q_o_points]) ⟨hx, hb, hml, hown, hts⟩ (ct_xP_nearest l dC dI _ (((vp_updL (vp_updL (vp_updL (vp_updL (vp_updL c_o_points ((4 : Int32)).toNatClampNeg (c_o_points ((2 : Int32)).toNatClampNeg)) ((5 : Int32)).toNatClampNeg ((vp_updL c_o_points ((4 : Int32)).toNatClampNeg (c_o_points ((2 : Int32)).toNatClampNeg)) ((3 : Int32)).toNatClampNeg)) ((0 : Int32)).toNatClampNeg r71) ((1 : Int32)).toNatClampNeg r96) ((2 : Int32)).toNatClampNeg r123) ((5 : Int32)).toNatClampNeg) + ((2 : Int64) * (c_o_points ((1 : Int32)).toNatClampNeg))) (3 : Int64) r150 hz) ⟨va_cnB 2 hts (kw_in kw_265) rfl rfl rfl (hE.1 _ kn_9) (hts _ (List.mem_cons_of_mem _ kw_1)) (by decide +kernel) ⟨Nat.le_of_ble_eq_true rfl, Nat.le_of_ble_eq_true rfl⟩, hts _ (List.mem_cons_of_mem _ kw_264), trivial⟩ (kx_pre hPc hKc hDc) rfl rfl hl.1 rfl (lv_room (Nat.le_of_ble_eq_true rfl)) d_xPen_aimByOneControl_150 ⟨Nat.le_of_ble_eq_true rfl, Nat.le_of_ble_eq_true rfl⟩) hS (fun q _ h => hFc q h) hFc (fun r9 u t H1 locs ht hvm hw hB hz1 hk1 hS => ?_)
  obtain ⟨hP1, hK1, hD1⟩ := hB
  rw [ht] at hP1
  have hw := hw.symm
  subst hw
  obtain ⟨hP, hD⟩ := va_join (wr := [(q_o, .inr (3, f_Pen q_o_matrices q_o_points q_o_drawn v_o_x v_o_y v_o_startX v_o_startY (c_o_points ((0 : Int32)).toNatClampNeg) (c_o_points ((1 : Int32)).toNatClampNeg) (81 : Int32))), (q_o_points, .inl (k_o_points, 6, .inr (.inl (vp_updL (vp_updL (vp_updL (vp_updL (vp_updL c_o_points ((4 : Int32)).toNatClampNeg (c_o_points ((2 : Int32)).toNatClampNeg)) ((5 : Int32)).toNatClampNeg ((vp_updL c_o_points ((4 : Int32)).toNatClampNeg (c_o_points ((2 : Int32)).toNatClampNeg)) ((3 : Int32)).toNatClampNeg)) ((0 : Int32)).toNatClampNeg r71) ((1 : Int32)).toNatClampNeg r96) ((2 : Int32)).toNatClampNeg r123))))]) (w1 := []) hP hD [] [0, 1] rfl rfl (by decide) (by decide) hk1 hFc hP1 hD1
  have hP := hP.sub (ws' := [(q_o, .inr (3, f_Pen q_o_matrices q_o_points q_o_drawn v_o_x v_o_y v_o_startX v_o_startY (c_o_points ((0 : Int32)).toNatClampNeg) (c_o_points ((1 : Int32)).toNatClampNeg) (81 : Int32))), (q_o_points, .inl (k_o_points, 6, .inr (.inl (vp_updL (vp_updL (vp_updL (vp_updL (vp_updL c_o_points ((4 : Int32)).toNatClampNeg (c_o_points ((2 : Int32)).toNatClampNeg)) ((5 : Int32)).toNatClampNeg ((vp_updL c_o_points ((4 : Int32)).toNatClampNeg (c_o_points ((2 : Int32)).toNatClampNeg)) ((3 : Int32)).toNatClampNeg)) ((0 : Int32)).toNatClampNeg r71) ((1 : Int32)).toNatClampNeg r96) ((2 : Int32)).toNatClampNeg r123))))]) [0, 1] rfl
  have hD := hD.sub (ws' := [(q_o, .inr (3, f_Pen q_o_matrices q_o_points q_o_drawn v_o_x v_o_y v_o_startX v_o_startY (c_o_points ((0 : Int32)).toNatClampNeg) (c_o_points ((1 : Int32)).toNatClampNeg) (81 : Int32))), (q_o_points, .inl (k_o_points, 6, .inr (.inl (vp_updL (vp_updL (vp_updL (vp_updL (vp_updL c_o_points ((4 : Int32)).toNatClampNeg (c_o_points ((2 : Int32)).toNatClampNeg)) ((5 : Int32)).toNatClampNeg ((vp_updL c_o_points ((4 : Int32)).toNatClampNeg (c_o_points ((2 : Int32)).toNatClampNeg)) ((3 : Int32)).toNatClampNeg)) ((0 : Int32)).toNatClampNeg r71) ((1 : Int32)).toNatClampNeg r96) ((2 : Int32)).toNatClampNeg r123))))]) [0, 1] (by decide) rfl
  clear hP1 hK1 hD1 hk1 hPc hDc hKc hFc hz1 hvm ht hz
  generalize H1 = H at hP hS ⊢
  refine kx_last (pc := 153) (ws' := [(q_o, .inr (3, f_Pen q_o_matrices q_o_points q_o_drawn v_o_x v_o_y v_o_startX v_o_startY (c_o_points ((0 : Int32)).toNatClampNeg) (c_o_points ((1 : Int32)).toNatClampNeg) (81 : Int32))), (q_o_points, .inl (k_o_points, 6, .inr (.inl (vp_updL (vp_updL (vp_updL (vp_updL (vp_updL (vp_updL c_o_points ((4 : Int32)).toNatClampNeg (c_o_points ((2 : Int32)).toNatClampNeg)) ((5 : Int32)).toNatClampNeg ((vp_updL c_o_points ((4 : Int32)).toNatClampNeg (c_o_points ((2 : Int32)).toNatClampNeg)) ((3 : Int32)).toNatClampNeg)) ((0 : Int32)).toNatClampNeg r71) ((1 : Int32)).toNatClampNeg r96) ((2 : Int32)).toNatClampNeg r123) ((3 : Int32)).toNatClampNeg r150))))]) hx hb hK hP hD hS 1 0 rfl rfl (ki_in (by decide)) rfl d_xPen_aimByOneControl_153 (fun H locs hP hD hS => ?_)
  obtain ⟨e_0, e_1, e_2, e_3⟩ := kr4 hf
  exact hRet 154 _ _ _ d_xPen_aimByOneControl_154 (by rw [← e_0, ← e_1, ← e_2, ← e_3]; exact hP) (by rw [← e_0, ← e_1, ← e_2, ← e_3]; exact hD) hS
set_option maxHeartbeats 4000000 in
set_option maxRecDepth 100000 in
theorem ct_xPen_draw (l : Launch) (dC : Nat → ClassId) (dI : Nat → Nat → Nat) (q_o : Nat) (q_o_matrices : Nat) (q_o_points : Nat) (q_o_drawn : Nat) (q_o_matrices_rows : Nat) (q_p2 : Nat) (q_p2_kinds : Nat) (q_p2_numbers : Nat) (k_o_points : ClassId) (k_o_matrices_rows : ClassId) (k_o_drawn : ClassId) (k_p2_numbers : ClassId) (k_p2_kinds : ClassId) (sz : Nat) (tt : Nat) (N : Nat) (x1 : Int32) (v_o_x : Int64) (v_o_y : Int64) (v_o_startX : Int64) (v_o_startY : Int64) (v_o_controlX : Int64) (v_o_controlY : Int64) (v_o_controlFor : Int32) (c_o_points : (Nat → Int64)) (v_o_matrices_depth : Int32) (c_o_matrices_rows : (Nat → Int64)) (c_o_drawn : (Nat → Int64)) (v_p2_count : Int32) (c_p2_numbers : (Nat → Int32)) (c_p2_kinds : (Nat → Int32)) (rv : Int32) (v_o_x_z : Int64) (v_o_y_z : Int64) (c_o_drawn_z : (Nat → Int64)) (v_p2_count_z : Int32) (c_p2_numbers_z : (Nat → Int32)) (c_p2_kinds_z : (Nat → Int32)) (hf : xPen_draw N x1 v_o_x v_o_y v_o_startX v_o_startY c_o_points v_o_matrices_depth c_o_matrices_rows c_o_drawn v_p2_count c_p2_numbers c_p2_kinds = some (rv, v_o_x_z, v_o_y_z, c_o_drawn_z, v_p2_count_z, c_p2_numbers_z, c_p2_kinds_z)) : Met l y_xPen_draw w_xPen_draw ({ frames := 3, cells := 0, slots := 0, locals := 77 }) (va_Pc [.ref q_o, .int x1, .ref q_p2] (fun U => U.heap.size = sz ∧ va_P (dC, dI) clz [(q_o, .inr (3, f_Pen q_o_matrices q_o_points q_o_drawn v_o_x v_o_y v_o_startX v_o_startY v_o_controlX v_o_controlY v_o_controlFor)), (q_o_points, .inl (k_o_points, 6, .inr (.inl c_o_points))), (q_o_matrices, .inr (2, f_Matrices q_o_matrices_rows v_o_matrices_depth)), (q_o_matrices_rows, .inl (k_o_matrices_rows, 54, .inr (.inl c_o_matrices_rows))), (q_o_drawn, .inl (k_o_drawn, 6, .inr (.inl c_o_drawn))), (q_p2, .inr (1, f_Drawing q_p2_kinds q_p2_numbers v_p2_count)), (q_p2_numbers, .inl (k_p2_numbers, 900, .inl c_p2_numbers)), (q_p2_kinds, .inl (k_p2_kinds, 150, .inl c_p2_kinds))] U.heap ∧ va_K (dC, dI) clz [(k_o_points, .long), (k_o_matrices_rows, .long), (k_o_drawn, .long), (k_p2_numbers, .int), (k_p2_kinds, .int)] U ∧ va_D (fun _ => True) [(q_o, .inr (3, f_Pen q_o_matrices q_o_points q_o_drawn v_o_x v_o_y v_o_startX v_o_startY v_o_controlX v_o_controlY v_o_controlFor)), (q_o_points, .inl (k_o_points, 6, .inr (.inl c_o_points))), (q_o_matrices, .inr (2, f_Matrices q_o_matrices_rows v_o_matrices_depth)), (q_o_matrices_rows, .inl (k_o_matrices_rows, 54, .inr (.inl c_o_matrices_rows))), (q_o_drawn, .inl (k_o_drawn, 6, .inr (.inl c_o_drawn))), (q_p2, .inr (1, f_Drawing q_p2_kinds q_p2_numbers v_p2_count)), (q_p2_numbers, .inl (k_p2_numbers, 900, .inl c_p2_numbers)), (q_p2_kinds, .inl (k_p2_kinds, 150, .inl c_p2_kinds))] ∧ ke tt (va_A [(q_o, .inr (3, f_Pen q_o_matrices q_o_points q_o_drawn v_o_x v_o_y v_o_startX v_o_startY v_o_controlX v_o_controlY v_o_controlFor)), (q_o_points, .inl (k_o_points, 6, .inr (.inl c_o_points))), (q_o_matrices, .inr (2, f_Matrices q_o_matrices_rows v_o_matrices_depth)), (q_o_matrices_rows, .inl (k_o_matrices_rows, 54, .inr (.inl c_o_matrices_rows))), (q_o_drawn, .inl (k_o_drawn, 6, .inr (.inl c_o_drawn))), (q_p2, .inr (1, f_Drawing q_p2_kinds q_p2_numbers v_p2_count)), (q_p2_numbers, .inl (k_p2_numbers, 900, .inl c_p2_numbers)), (q_p2_kinds, .inl (k_p2_kinds, 150, .inl c_p2_kinds))] sz) U)) (va_Qi (fun (r9 : Int32) (_ : Unit) => r9 = rv) (fun _ t => va_P (dC, dI) clz [(q_o, .inr (3, f_Pen q_o_matrices q_o_points q_o_drawn v_o_x_z v_o_y_z v_o_startX v_o_startY v_o_controlX v_o_controlY v_o_controlFor)), (q_o_points, .inl (k_o_points, 6, .inr (.inl c_o_points))), (q_o_matrices, .inr (2, f_Matrices q_o_matrices_rows v_o_matrices_depth)), (q_o_matrices_rows, .inl (k_o_matrices_rows, 54, .inr (.inl c_o_matrices_rows))), (q_o_drawn, .inl (k_o_drawn, 6, .inr (.inl c_o_drawn_z))), (q_p2, .inr (1, f_Drawing q_p2_kinds q_p2_numbers v_p2_count_z)), (q_p2_numbers, .inl (k_p2_numbers, 900, .inl c_p2_numbers_z)), (q_p2_kinds, .inl (k_p2_kinds, 150, .inl c_p2_kinds_z))] t.heap ∧ va_K (dC, dI) clz [(k_o_points, .long), (k_o_matrices_rows, .long), (k_o_drawn, .long), (k_p2_numbers, .int), (k_p2_kinds, .int)] t ∧ va_D (va_A [(q_o, .inr (3, f_Pen q_o_matrices q_o_points q_o_drawn v_o_x v_o_y v_o_startX v_o_startY v_o_controlX v_o_controlY v_o_controlFor)), (q_o_points, .inl (k_o_points, 6, .inr (.inl c_o_points))), (q_o_matrices, .inr (2, f_Matrices q_o_matrices_rows v_o_matrices_depth)), (q_o_matrices_rows, .inl (k_o_matrices_rows, 54, .inr (.inl c_o_matrices_rows))), (q_o_drawn, .inl (k_o_drawn, 6, .inr (.inl c_o_drawn))), (q_p2, .inr (1, f_Drawing q_p2_kinds q_p2_numbers v_p2_count)), (q_p2_numbers, .inl (k_p2_numbers, 900, .inl c_p2_numbers)), (q_p2_kinds, .inl (k_p2_kinds, 150, .inl c_p2_kinds))] sz) [(q_o, .inr (3, f_Pen q_o_matrices q_o_points q_o_drawn v_o_x_z v_o_y_z v_o_startX v_o_startY v_o_controlX v_o_controlY v_o_controlFor)), (q_o_points, .inl (k_o_points, 6, .inr (.inl c_o_points))), (q_o_matrices, .inr (2, f_Matrices q_o_matrices_rows v_o_matrices_depth)), (q_o_matrices_rows, .inl (k_o_matrices_rows, 54, .inr (.inl c_o_matrices_rows))), (q_o_drawn, .inl (k_o_drawn, 6, .inr (.inl c_o_drawn_z))), (q_p2, .inr (1, f_Drawing q_p2_kinds q_p2_numbers v_p2_count_z)), (q_p2_numbers, .inl (k_p2_numbers, 900, .inl c_p2_numbers_z)), (q_p2_kinds, .inl (k_p2_kinds, 150, .inl c_p2_kinds_z))]) (va_A [(q_o, .inr (3, f_Pen q_o_matrices q_o_points q_o_drawn v_o_x v_o_y v_o_startX v_o_startY v_o_controlX v_o_controlY v_o_controlFor)), (q_o_points, .inl (k_o_points, 6, .inr (.inl c_o_points))), (q_o_matrices, .inr (2, f_Matrices q_o_matrices_rows v_o_matrices_depth)), (q_o_matrices_rows, .inl (k_o_matrices_rows, 54, .inr (.inl c_o_matrices_rows))), (q_o_drawn, .inl (k_o_drawn, 6, .inr (.inl c_o_drawn))), (q_p2, .inr (1, f_Drawing q_p2_kinds q_p2_numbers v_p2_count)), (q_p2_numbers, .inl (k_p2_numbers, 900, .inl c_p2_numbers)), (q_p2_kinds, .inl (k_p2_kinds, 150, .inl c_p2_kinds))] sz)) 0 0 (va_A [(q_o, .inr (3, f_Pen q_o_matrices q_o_points q_o_drawn v_o_x v_o_y v_o_startX v_o_startY v_o_controlX v_o_controlY v_o_controlFor)), (q_o_points, .inl (k_o_points, 6, .inr (.inl c_o_points))), (q_o_matrices, .inr (2, f_Matrices q_o_matrices_rows v_o_matrices_depth)), (q_o_matrices_rows, .inl (k_o_matrices_rows, 54, .inr (.inl c_o_matrices_rows))), (q_o_drawn, .inl (k_o_drawn, 6, .inr (.inl c_o_drawn))), (q_p2, .inr (1, f_Drawing q_p2_kinds q_p2_numbers v_p2_count)), (q_p2_numbers, .inl (k_p2_numbers, 900, .inl c_p2_numbers)), (q_p2_kinds, .inl (k_p2_kinds, 150, .inl c_p2_kinds))] sz) := by
  refine Met.ofW (cc := prog_5_method_8_code) (maxL := 5) (ret := (some .boolean)) (by decide +kernel) rfl ?_
  intro p e s m args below meth c s₁ B hml hv
  obtain ⟨hargs, hsz, hP, hK, hD0, hE⟩ := hv
  have hx := B.exec
  have hb := B.bytes
  have hr := B.returns
  have hts := atoms_spec (ws := w_xPen_draw) B.pre
  have hown : s.vm.findClass "PathTexts$Pen" = some m.cls := findClass_of_methodNamed B.named
  have hlocks := B.notSynchronized
  subst hsz
  have hD := hD0.self (sz := s.heap.size)
  generalize hAe : va_A [(q_o, .inr (3, f_Pen q_o_matrices q_o_points q_o_drawn v_o_x v_o_y v_o_startX v_o_startY v_o_controlX v_o_controlY v_o_controlFor)), (q_o_points, .inl (k_o_points, 6, .inr (.inl c_o_points))), (q_o_matrices, .inr (2, f_Matrices q_o_matrices_rows v_o_matrices_depth)), (q_o_matrices_rows, .inl (k_o_matrices_rows, 54, .inr (.inl c_o_matrices_rows))), (q_o_drawn, .inl (k_o_drawn, 6, .inr (.inl c_o_drawn))), (q_p2, .inr (1, f_Drawing q_p2_kinds q_p2_numbers v_p2_count)), (q_p2_numbers, .inl (k_p2_numbers, 900, .inl c_p2_numbers)), (q_p2_kinds, .inl (k_p2_kinds, 150, .inl c_p2_kinds))] s.heap.size = A at hD hE ⊢
  have hA : ∀ q : Nat, s.heap.size ≤ q → A q := fun q h => by rw [← hAe]; exact Or.inr h
  clear hAe hD0
  have hS : va_S A s.heap s.heap [] := va_S.rf
  have hl := lv_entry ([.ref q_o, .int x1, .ref q_p2]) (n := 5) (Nat.le_of_ble_eq_true rfl)
  have hent : entryFrame m args 5 = F0 m 0 (lg_sl ([.ref q_o, .int x1, .ref q_p2]) ++ List.replicate (5 - (lg_sl ([.ref q_o, .int x1, .ref q_p2])).length) Slot.unset).toArray [] := by rw [hargs, lg_entry_eq]
  rw [hent]
  clear hent hargs
  generalize (lg_sl ([.ref q_o, .int x1, .ref q_p2]) ++ List.replicate (5 - (lg_sl ([.ref q_o, .int x1, .ref q_p2])).length) Slot.unset).toArray = ls at hl ⊢
  have hl : lv_has ls 5 [(0, .ref q_o), (1, .int x1), (2, .ref q_p2)] := hl
  suffices key : ∀ Q : State → Prop, (∀ (hn9 : narrow .boolean (.int rv) = .int rv) (pc : Nat) (H : Heap) (locs : List Loc) (ls : Array Slot), decode prog_5_method_8_code pc = .ok (.ireturn, 1) → va_P (dC, dI) clz [(q_o, .inr (3, f_Pen q_o_matrices q_o_points q_o_drawn v_o_x_z v_o_y_z v_o_startX v_o_startY v_o_controlX v_o_controlY v_o_controlFor)), (q_o_points, .inl (k_o_points, 6, .inr (.inl c_o_points))), (q_o_matrices, .inr (2, f_Matrices q_o_matrices_rows v_o_matrices_depth)), (q_o_matrices_rows, .inl (k_o_matrices_rows, 54, .inr (.inl c_o_matrices_rows))), (q_o_drawn, .inl (k_o_drawn, 6, .inr (.inl c_o_drawn_z))), (q_p2, .inr (1, f_Drawing q_p2_kinds q_p2_numbers v_p2_count_z)), (q_p2_numbers, .inl (k_p2_numbers, 900, .inl c_p2_numbers_z)), (q_p2_kinds, .inl (k_p2_kinds, 150, .inl c_p2_kinds_z))] H → va_D A [(q_o, .inr (3, f_Pen q_o_matrices q_o_points q_o_drawn v_o_x_z v_o_y_z v_o_startX v_o_startY v_o_controlX v_o_controlY v_o_controlFor)), (q_o_points, .inl (k_o_points, 6, .inr (.inl c_o_points))), (q_o_matrices, .inr (2, f_Matrices q_o_matrices_rows v_o_matrices_depth)), (q_o_matrices_rows, .inl (k_o_matrices_rows, 54, .inr (.inl c_o_matrices_rows))), (q_o_drawn, .inl (k_o_drawn, 6, .inr (.inl c_o_drawn_z))), (q_p2, .inr (1, f_Drawing q_p2_kinds q_p2_numbers v_p2_count_z)), (q_p2_numbers, .inl (k_p2_numbers, 900, .inl c_p2_numbers_z)), (q_p2_kinds, .inl (k_p2_kinds, 150, .inl c_p2_kinds_z))] → va_S A s.heap H locs → W p l e (headSpec w_xPen_draw ({ frames := 3, cells := 0, slots := 0, locals := 77 })).room s m args below meth c H locs 0 0 Q (F0 m pc ls [.int rv])) → W p l e (headSpec w_xPen_draw ({ frames := 3, cells := 0, slots := 0, locals := 77 })).room s m args below meth c s.heap [] 0 0 Q (F0 m 0 ls []) from key _ (fun hn9 pc H locs ls hd hP hD hS => W.zret hx hb hr hn9 (fun t ht hW => ⟨⟨rv, (), rfl, rfl, by rw [ht]; exact hP, va_K.moved hW.alike hK, hD⟩, hS.F ht⟩) hS.2.2 hd)
  intro Q hRet
  have hb142 : ∀ (x1 : Int32) (v_o_x : Int64) (v_o_y : Int64) (c_o_drawn : (Nat → Int64)) (v_p2_count : Int32) (c_p2_numbers : (Nat → Int32)) (c_p2_kinds : (Nat → Int32)) (H : Heap) (locs : List Loc) (ls : Array Slot), xPen_draw_b142 N x1 v_o_x v_o_y c_o_drawn v_p2_count c_p2_numbers c_p2_kinds = some (rv, v_o_x_z, v_o_y_z, c_o_drawn_z, v_p2_count_z, c_p2_numbers_z, c_p2_kinds_z) → va_P (dC, dI) clz [(q_o, .inr (3, f_Pen q_o_matrices q_o_points q_o_drawn v_o_x v_o_y v_o_startX v_o_startY v_o_controlX v_o_controlY v_o_controlFor)), (q_o_points, .inl (k_o_points, 6, .inr (.inl c_o_points))), (q_o_matrices, .inr (2, f_Matrices q_o_matrices_rows v_o_matrices_depth)), (q_o_matrices_rows, .inl (k_o_matrices_rows, 54, .inr (.inl c_o_matrices_rows))), (q_o_drawn, .inl (k_o_drawn, 6, .inr (.inl c_o_drawn))), (q_p2, .inr (1, f_Drawing q_p2_kinds q_p2_numbers v_p2_count)), (q_p2_numbers, .inl (k_p2_numbers, 900, .inl c_p2_numbers)), (q_p2_kinds, .inl (k_p2_kinds, 150, .inl c_p2_kinds))] H → va_D A [(q_o, .inr (3, f_Pen q_o_matrices q_o_points q_o_drawn v_o_x v_o_y v_o_startX v_o_startY v_o_controlX v_o_controlY v_o_controlFor)), (q_o_points, .inl (k_o_points, 6, .inr (.inl c_o_points))), (q_o_matrices, .inr (2, f_Matrices q_o_matrices_rows v_o_matrices_depth)), (q_o_matrices_rows, .inl (k_o_matrices_rows, 54, .inr (.inl c_o_matrices_rows))), (q_o_drawn, .inl (k_o_drawn, 6, .inr (.inl c_o_drawn))), (q_p2, .inr (1, f_Drawing q_p2_kinds q_p2_numbers v_p2_count)), (q_p2_numbers, .inl (k_p2_numbers, 900, .inl c_p2_numbers)), (q_p2_kinds, .inl (k_p2_kinds, 150, .inl c_p2_kinds))] → va_S A s.heap H locs → lv_has ls 5 [(0, .ref q_o), (1, .int x1), (2, .ref q_p2)] → W p l e (headSpec w_xPen_draw ({ frames := 3, cells := 0, slots := 0, locals := 77 })).room s m args below meth c H locs 0 0 Q (F0 m 142 ls []) := by
    intro x1 v_o_x v_o_y c_o_drawn v_p2_count c_p2_numbers c_p2_kinds H locs ls hf hP hD hS hl
    rw [xPen_draw_b142] at hf
    refine lv_aload_n (pc := 142) hx hb d_xPen_draw_142 rfl (lv_at hl 2 rfl) ?_
    refine lv_iload_n (pc := 143) hx hb d_xPen_draw_143 rfl (lv_at hl 1 rfl) ?_
    refine lv_aload_n (pc := 144) hx hb d_xPen_draw_144 rfl (lv_at hl 0 rfl) ?_
    refine va_get (pc := 145) (D := (dC, dI)) (ci := 3) (v := .ref q_o_drawn) (C := "PathTexts$Pen") (T := F_Pen) (N := 10) hx hb hts (fun w h => List.mem_cons_of_mem _ (in_Pen w h)) hown hK hP 0 rfl rfl 2 (by decide) (hts _ (List.mem_cons_of_mem _ kw_74)) (fun _ h9 => h9) fg_Pen_2 d_xPen_draw_145 ?_
    obtain ⟨r148, v_p2_count_148, c_p2_numbers_148, c_p2_kinds_148, hz, hf⟩ := kb4_some hf
    have hPc := hP.sub (ws' := [(q_p2, .inr (1, f_Drawing q_p2_kinds q_p2_numbers v_p2_count)), (q_p2_numbers, .inl (k_p2_numbers, 900, .inl c_p2_numbers)), (q_p2_kinds, .inl (k_p2_kinds, 150, .inl c_p2_kinds)), (q_o_drawn, .inl (k_o_drawn, 6, .inr (.inl c_o_drawn)))]) [5, 6, 7, 4] rfl
    have hDc := hD.sub (ws' := [(q_p2, .inr (1, f_Drawing q_p2_kinds q_p2_numbers v_p2_count)), (q_p2_numbers, .inl (k_p2_numbers, 900, .inl c_p2_numbers)), (q_p2_kinds, .inl (k_p2_kinds, 150, .inl c_p2_kinds)), (q_o_drawn, .inl (k_o_drawn, 6, .inr (.inl c_o_drawn)))]) [5, 6, 7, 4] (by decide) rfl
    have hKc := hK.sub (tys' := [(k_p2_numbers, .int), (k_p2_kinds, .int), (k_o_drawn, .long)]) [3, 4, 2] rfl
    have hFc := va_free (wc := [(q_p2, .inr (1, f_Drawing q_p2_kinds q_p2_numbers v_p2_count)), (q_p2_numbers, .inl (k_p2_numbers, 900, .inl c_p2_numbers)), (q_p2_kinds, .inl (k_p2_kinds, 150, .inl c_p2_kinds)), (q_o_drawn, .inl (k_o_drawn, 6, .inr (.inl c_o_drawn)))]) hD hS hA [5, 6, 7, 4] rfl
    refine va_calli (pc := 148) (va_runV (As := [.int x1, .ref q_o_drawn]) (rest := []) ⟨hx, hb, hml, hown, hts⟩ (ct_xDrawing_add l dC dI q_p2 q_p2_kinds q_p2_numbers q_o_drawn k_p2_numbers k_p2_kinds k_o_drawn _ tt N x1 v_p2_count c_p2_numbers c_p2_kinds c_o_drawn r148 v_p2_count_148 c_p2_numbers_148 c_p2_kinds_148 hz) (cwV 2 hts (kw_in4 kw_336 kw_337 kw_338 kw_7 kw_339) rfl rfl rfl (by decide +kernel) ⟨Nat.le_of_ble_eq_true rfl, Nat.le_of_ble_eq_true rfl⟩) (ke_preV hPc hKc hDc hE hS hFc 0 rfl rfl) rfl rfl hl.1 rfl (lv_room (Nat.le_of_ble_eq_true rfl)) d_xPen_draw_148 ⟨Nat.le_of_ble_eq_true rfl, Nat.le_of_ble_eq_true rfl⟩) hS (fun q _ h => hFc q h) hFc (fun r9 u t H1 locs ht hvm hw hB hz1 hk1 hS => ?_)
    obtain ⟨hP1, hK1, hD1⟩ := hB
    rw [ht] at hP1
    have hw := hw.symm
    subst hw
    obtain ⟨hP, hD⟩ := va_join (wr := [(q_o, .inr (3, f_Pen q_o_matrices q_o_points q_o_drawn v_o_x v_o_y v_o_startX v_o_startY v_o_controlX v_o_controlY v_o_controlFor)), (q_o_points, .inl (k_o_points, 6, .inr (.inl c_o_points))), (q_o_matrices, .inr (2, f_Matrices q_o_matrices_rows v_o_matrices_depth)), (q_o_matrices_rows, .inl (k_o_matrices_rows, 54, .inr (.inl c_o_matrices_rows)))]) (w1 := [(q_p2, .inr (1, f_Drawing q_p2_kinds q_p2_numbers v_p2_count_148)), (q_p2_numbers, .inl (k_p2_numbers, 900, .inl c_p2_numbers_148)), (q_p2_kinds, .inl (k_p2_kinds, 150, .inl c_p2_kinds_148)), (q_o_drawn, .inl (k_o_drawn, 6, .inr (.inl c_o_drawn)))]) hP hD [5, 6, 7, 4] [0, 1, 2, 3] rfl rfl (by decide) (by decide) hk1 hFc hP1 hD1
    have hP := hP.sub (ws' := [(q_o, .inr (3, f_Pen q_o_matrices q_o_points q_o_drawn v_o_x v_o_y v_o_startX v_o_startY v_o_controlX v_o_controlY v_o_controlFor)), (q_o_points, .inl (k_o_points, 6, .inr (.inl c_o_points))), (q_o_matrices, .inr (2, f_Matrices q_o_matrices_rows v_o_matrices_depth)), (q_o_matrices_rows, .inl (k_o_matrices_rows, 54, .inr (.inl c_o_matrices_rows))), (q_o_drawn, .inl (k_o_drawn, 6, .inr (.inl c_o_drawn))), (q_p2, .inr (1, f_Drawing q_p2_kinds q_p2_numbers v_p2_count_148)), (q_p2_numbers, .inl (k_p2_numbers, 900, .inl c_p2_numbers_148)), (q_p2_kinds, .inl (k_p2_kinds, 150, .inl c_p2_kinds_148))]) [0, 1, 2, 3, 7, 4, 5, 6] rfl
    have hD := hD.sub (ws' := [(q_o, .inr (3, f_Pen q_o_matrices q_o_points q_o_drawn v_o_x v_o_y v_o_startX v_o_startY v_o_controlX v_o_controlY v_o_controlFor)), (q_o_points, .inl (k_o_points, 6, .inr (.inl c_o_points))), (q_o_matrices, .inr (2, f_Matrices q_o_matrices_rows v_o_matrices_depth)), (q_o_matrices_rows, .inl (k_o_matrices_rows, 54, .inr (.inl c_o_matrices_rows))), (q_o_drawn, .inl (k_o_drawn, 6, .inr (.inl c_o_drawn))), (q_p2, .inr (1, f_Drawing q_p2_kinds q_p2_numbers v_p2_count_148)), (q_p2_numbers, .inl (k_p2_numbers, 900, .inl c_p2_numbers_148)), (q_p2_kinds, .inl (k_p2_kinds, 150, .inl c_p2_kinds_148))]) [0, 1, 2, 3, 7, 4, 5, 6] (by decide) rfl
    clear hP1 hK1 hD1 hk1 hPc hDc hKc hFc hz1 hvm ht hz
    generalize H1 = H at hP hS ⊢
    obtain ⟨hg1, hf⟩ := kg_some hf
    obtain ⟨e_0, e_1, e_2, e_3, e_4, e_5, e_6⟩ := kr7 hf
    rw [e_0]
    exact hRet (by rw [← e_0]; exact kz_n hg1) 151 _ _ _ d_xPen_draw_151 (by rw [← e_1, ← e_2, ← e_3, ← e_4, ← e_5, ← e_6]; exact hP) (by rw [← e_1, ← e_2, ← e_3, ← e_4, ← e_5, ← e_6]; exact hD) hS
  have hb121 : ∀ (x1 : Int32) (v_o_x : Int64) (v_o_y : Int64) (c_o_drawn : (Nat → Int64)) (v_p2_count : Int32) (c_p2_numbers : (Nat → Int32)) (c_p2_kinds : (Nat → Int32)) (H : Heap) (locs : List Loc) (ls : Array Slot), xPen_draw_b121 N x1 v_o_x v_o_y v_o_startX v_o_startY c_o_drawn v_p2_count c_p2_numbers c_p2_kinds = some (rv, v_o_x_z, v_o_y_z, c_o_drawn_z, v_p2_count_z, c_p2_numbers_z, c_p2_kinds_z) → va_P (dC, dI) clz [(q_o, .inr (3, f_Pen q_o_matrices q_o_points q_o_drawn v_o_x v_o_y v_o_startX v_o_startY v_o_controlX v_o_controlY v_o_controlFor)), (q_o_points, .inl (k_o_points, 6, .inr (.inl c_o_points))), (q_o_matrices, .inr (2, f_Matrices q_o_matrices_rows v_o_matrices_depth)), (q_o_matrices_rows, .inl (k_o_matrices_rows, 54, .inr (.inl c_o_matrices_rows))), (q_o_drawn, .inl (k_o_drawn, 6, .inr (.inl c_o_drawn))), (q_p2, .inr (1, f_Drawing q_p2_kinds q_p2_numbers v_p2_count)), (q_p2_numbers, .inl (k_p2_numbers, 900, .inl c_p2_numbers)), (q_p2_kinds, .inl (k_p2_kinds, 150, .inl c_p2_kinds))] H → va_D A [(q_o, .inr (3, f_Pen q_o_matrices q_o_points q_o_drawn v_o_x v_o_y v_o_startX v_o_startY v_o_controlX v_o_controlY v_o_controlFor)), (q_o_points, .inl (k_o_points, 6, .inr (.inl c_o_points))), (q_o_matrices, .inr (2, f_Matrices q_o_matrices_rows v_o_matrices_depth)), (q_o_matrices_rows, .inl (k_o_matrices_rows, 54, .inr (.inl c_o_matrices_rows))), (q_o_drawn, .inl (k_o_drawn, 6, .inr (.inl c_o_drawn))), (q_p2, .inr (1, f_Drawing q_p2_kinds q_p2_numbers v_p2_count)), (q_p2_numbers, .inl (k_p2_numbers, 900, .inl c_p2_numbers)), (q_p2_kinds, .inl (k_p2_kinds, 150, .inl c_p2_kinds))] → va_S A s.heap H locs → lv_has ls 5 [(0, .ref q_o), (1, .int x1), (2, .ref q_p2)] → W p l e (headSpec w_xPen_draw ({ frames := 3, cells := 0, slots := 0, locals := 77 })).room s m args below meth c H locs 0 0 Q (F0 m 121 ls []) := by
    intro x1 v_o_x v_o_y c_o_drawn v_p2_count c_p2_numbers c_p2_kinds H locs ls hf hP hD hS hl
    rw [xPen_draw_b121] at hf
    refine lv_iload_n (pc := 121) hx hb d_xPen_draw_121 rfl (lv_at hl 1 rfl) ?_
    refine lv_iconst (pc := 122) (v := (3 : Int32)) hx hb d_xPen_draw_122 (by decide) ?_
    refine lv_icmp_ne (pc := 123) (tgt := 142) hx hb d_xPen_draw_123 (by decide) (fun hc => ?_) (fun hc => ?_)
    · rw [if_neg hc] at hf
      exact hb142 x1 v_o_x v_o_y c_o_drawn v_p2_count c_p2_numbers c_p2_kinds _ _ _ hf hP hD hS (lv_sub hl [0, 1, 2] rfl)
    · rw [if_pos hc] at hf
      refine lv_aload_n (pc := 126) hx hb d_xPen_draw_126 rfl (lv_at hl 0 rfl) ?_
      refine lv_aload_n (pc := 127) hx hb d_xPen_draw_127 rfl (lv_at hl 0 rfl) ?_
      refine va_get (pc := 128) (D := (dC, dI)) (ci := 3) (v := .long v_o_startX) (C := "PathTexts$Pen") (T := F_Pen) (N := 10) hx hb hts (fun w h => List.mem_cons_of_mem _ (in_Pen w h)) hown hK hP 0 rfl rfl 5 (by decide) (hts _ (List.mem_cons_of_mem _ kw_77)) (fun _ h9 => h9) fg_Pen_5 d_xPen_draw_128 ?_
      refine kx_put (pc := 131) (D := (dC, dI)) (ci := 3) (v := .long v_o_startX) (ty := .long) (C := "PathTexts$Pen") (T := F_Pen) (N := 10) hx hb hts (fun w h => List.mem_cons_of_mem _ (in_Pen w h)) t_Pen tk_Pen n_Pen hown hK hP hD hS 0 rfl rfl 3 (by decide) (hts _ (List.mem_cons_of_mem _ kw_75)) (fun _ h9 => h9) rfl (tk_Pen 3 (by decide)) rfl rfl fl_Pen_3 fs_Pen_3 (ws' := [(q_o, .inr (3, f_Pen q_o_matrices q_o_points q_o_drawn v_o_startX v_o_y v_o_startX v_o_startY v_o_controlX v_o_controlY v_o_controlFor)), (q_o_points, .inl (k_o_points, 6, .inr (.inl c_o_points))), (q_o_matrices, .inr (2, f_Matrices q_o_matrices_rows v_o_matrices_depth)), (q_o_matrices_rows, .inl (k_o_matrices_rows, 54, .inr (.inl c_o_matrices_rows))), (q_o_drawn, .inl (k_o_drawn, 6, .inr (.inl c_o_drawn))), (q_p2, .inr (1, f_Drawing q_p2_kinds q_p2_numbers v_p2_count)), (q_p2_numbers, .inl (k_p2_numbers, 900, .inl c_p2_numbers)), (q_p2_kinds, .inl (k_p2_kinds, 150, .inl c_p2_kinds))]) rfl d_xPen_draw_131 (fun H locs hP hD hS => ?_)
      refine lv_aload_n (pc := 134) hx hb d_xPen_draw_134 rfl (lv_at hl 0 rfl) ?_
      refine lv_aload_n (pc := 135) hx hb d_xPen_draw_135 rfl (lv_at hl 0 rfl) ?_
      refine va_get (pc := 136) (D := (dC, dI)) (ci := 3) (v := .long v_o_startY) (C := "PathTexts$Pen") (T := F_Pen) (N := 10) hx hb hts (fun w h => List.mem_cons_of_mem _ (in_Pen w h)) hown hK hP 0 rfl rfl 6 (by decide) (hts _ (List.mem_cons_of_mem _ kw_78)) (fun _ h9 => h9) fg_Pen_6 d_xPen_draw_136 ?_
      refine kx_put (pc := 139) (D := (dC, dI)) (ci := 3) (v := .long v_o_startY) (ty := .long) (C := "PathTexts$Pen") (T := F_Pen) (N := 10) hx hb hts (fun w h => List.mem_cons_of_mem _ (in_Pen w h)) t_Pen tk_Pen n_Pen hown hK hP hD hS 0 rfl rfl 4 (by decide) (hts _ (List.mem_cons_of_mem _ kw_76)) (fun _ h9 => h9) rfl (tk_Pen 4 (by decide)) rfl rfl fl_Pen_4 fs_Pen_4 (ws' := [(q_o, .inr (3, f_Pen q_o_matrices q_o_points q_o_drawn v_o_startX v_o_startY v_o_startX v_o_startY v_o_controlX v_o_controlY v_o_controlFor)), (q_o_points, .inl (k_o_points, 6, .inr (.inl c_o_points))), (q_o_matrices, .inr (2, f_Matrices q_o_matrices_rows v_o_matrices_depth)), (q_o_matrices_rows, .inl (k_o_matrices_rows, 54, .inr (.inl c_o_matrices_rows))), (q_o_drawn, .inl (k_o_drawn, 6, .inr (.inl c_o_drawn))), (q_p2, .inr (1, f_Drawing q_p2_kinds q_p2_numbers v_p2_count)), (q_p2_numbers, .inl (k_p2_numbers, 900, .inl c_p2_numbers)), (q_p2_kinds, .inl (k_p2_kinds, 150, .inl c_p2_kinds))]) rfl d_xPen_draw_139 (fun H locs hP hD hS => ?_)
      exact hb142 x1 v_o_startX v_o_startY c_o_drawn v_p2_count c_p2_numbers c_p2_kinds _ _ _ hf hP hD hS (lv_sub hl [0, 1, 2] rfl)
  have hB8 : ∀ (k8 : Int32 → Int32 → Int32 → Int64 → Int64 → Int64 → Int64 → (Nat → Int64) → Int32 → (Nat → Int64) → (Nat → Int64) → Int32 → (Nat → Int32) → (Nat → Int32) → Option (Int32 × Int64 × Int64 × (Nat → Int64) × Int32 × (Nat → Int32) × (Nat → Int32))), (∀ (x1 : Int32) (x3 : Int32) (x4 : Int32) (v_o_x : Int64) (v_o_y : Int64) (c_o_drawn : (Nat → Int64)) (v_p2_count : Int32) (c_p2_numbers : (Nat → Int32)) (c_p2_kinds : (Nat → Int32)) (H : Heap) (locs : List Loc) (ls : Array Slot), k8 x1 x3 x4 v_o_x v_o_y v_o_startX v_o_startY c_o_points v_o_matrices_depth c_o_matrices_rows c_o_drawn v_p2_count c_p2_numbers c_p2_kinds = some (rv, v_o_x_z, v_o_y_z, c_o_drawn_z, v_p2_count_z, c_p2_numbers_z, c_p2_kinds_z) → va_P (dC, dI) clz [(q_o, .inr (3, f_Pen q_o_matrices q_o_points q_o_drawn v_o_x v_o_y v_o_startX v_o_startY v_o_controlX v_o_controlY v_o_controlFor)), (q_o_points, .inl (k_o_points, 6, .inr (.inl c_o_points))), (q_o_matrices, .inr (2, f_Matrices q_o_matrices_rows v_o_matrices_depth)), (q_o_matrices_rows, .inl (k_o_matrices_rows, 54, .inr (.inl c_o_matrices_rows))), (q_o_drawn, .inl (k_o_drawn, 6, .inr (.inl c_o_drawn))), (q_p2, .inr (1, f_Drawing q_p2_kinds q_p2_numbers v_p2_count)), (q_p2_numbers, .inl (k_p2_numbers, 900, .inl c_p2_numbers)), (q_p2_kinds, .inl (k_p2_kinds, 150, .inl c_p2_kinds))] H → va_D A [(q_o, .inr (3, f_Pen q_o_matrices q_o_points q_o_drawn v_o_x v_o_y v_o_startX v_o_startY v_o_controlX v_o_controlY v_o_controlFor)), (q_o_points, .inl (k_o_points, 6, .inr (.inl c_o_points))), (q_o_matrices, .inr (2, f_Matrices q_o_matrices_rows v_o_matrices_depth)), (q_o_matrices_rows, .inl (k_o_matrices_rows, 54, .inr (.inl c_o_matrices_rows))), (q_o_drawn, .inl (k_o_drawn, 6, .inr (.inl c_o_drawn))), (q_p2, .inr (1, f_Drawing q_p2_kinds q_p2_numbers v_p2_count)), (q_p2_numbers, .inl (k_p2_numbers, 900, .inl c_p2_numbers)), (q_p2_kinds, .inl (k_p2_kinds, 150, .inl c_p2_kinds))] → va_S A s.heap H locs → lv_has ls 5 [(0, .ref q_o), (1, .int x1), (2, .ref q_p2), (3, .int x3), (4, .int x4)] → W p l e (headSpec w_xPen_draw ({ frames := 3, cells := 0, slots := 0, locals := 77 })).room s m args below meth c H locs 0 0 Q (F0 m 8 ls [])) → ∀ (x1 : Int32) (x3 : Int32) (x4 : Int32) (v_o_x : Int64) (v_o_y : Int64) (c_o_drawn : (Nat → Int64)) (v_p2_count : Int32) (c_p2_numbers : (Nat → Int32)) (c_p2_kinds : (Nat → Int32)) (H : Heap) (locs : List Loc) (ls : Array Slot), xPen_draw_B8 N k8 x1 x3 x4 v_o_x v_o_y v_o_startX v_o_startY c_o_points v_o_matrices_depth c_o_matrices_rows c_o_drawn v_p2_count c_p2_numbers c_p2_kinds = some (rv, v_o_x_z, v_o_y_z, c_o_drawn_z, v_p2_count_z, c_p2_numbers_z, c_p2_kinds_z) → va_P (dC, dI) clz [(q_o, .inr (3, f_Pen q_o_matrices q_o_points q_o_drawn v_o_x v_o_y v_o_startX v_o_startY v_o_controlX v_o_controlY v_o_controlFor)), (q_o_points, .inl (k_o_points, 6, .inr (.inl c_o_points))), (q_o_matrices, .inr (2, f_Matrices q_o_matrices_rows v_o_matrices_depth)), (q_o_matrices_rows, .inl (k_o_matrices_rows, 54, .inr (.inl c_o_matrices_rows))), (q_o_drawn, .inl (k_o_drawn, 6, .inr (.inl c_o_drawn))), (q_p2, .inr (1, f_Drawing q_p2_kinds q_p2_numbers v_p2_count)), (q_p2_numbers, .inl (k_p2_numbers, 900, .inl c_p2_numbers)), (q_p2_kinds, .inl (k_p2_kinds, 150, .inl c_p2_kinds))] H → va_D A [(q_o, .inr (3, f_Pen q_o_matrices q_o_points q_o_drawn v_o_x v_o_y v_o_startX v_o_startY v_o_controlX v_o_controlY v_o_controlFor)), (q_o_points, .inl (k_o_points, 6, .inr (.inl c_o_points))), (q_o_matrices, .inr (2, f_Matrices q_o_matrices_rows v_o_matrices_depth)), (q_o_matrices_rows, .inl (k_o_matrices_rows, 54, .inr (.inl c_o_matrices_rows))), (q_o_drawn, .inl (k_o_drawn, 6, .inr (.inl c_o_drawn))), (q_p2, .inr (1, f_Drawing q_p2_kinds q_p2_numbers v_p2_count)), (q_p2_numbers, .inl (k_p2_numbers, 900, .inl c_p2_numbers)), (q_p2_kinds, .inl (k_p2_kinds, 150, .inl c_p2_kinds))] → va_S A s.heap H locs → lv_has ls 5 [(0, .ref q_o), (1, .int x1), (2, .ref q_p2), (3, .int x3), (4, .int x4)] → W p l e (headSpec w_xPen_draw ({ frames := 3, cells := 0, slots := 0, locals := 77 })).room s m args below meth c H locs 0 0 Q (F0 m 8 ls []) := by
    intro k8 hk8
    intro x1 x3 x4 v_o_x v_o_y c_o_drawn v_p2_count c_p2_numbers c_p2_kinds H locs ls hf hP hD hS hl
    rw [xPen_draw_B8] at hf
    refine lv_iload (pc := 8) hx hb d_xPen_draw_8 (lv_at hl 4 rfl) ?_
    refine lv_iconst (pc := 10) (v := (1 : Int32)) hx hb d_xPen_draw_10 (by decide) ?_
    refine lv_iadd (pc := 11) hx hb d_xPen_draw_11 ?_
    refine lv_iload_n (pc := 12) hx hb d_xPen_draw_12 rfl (lv_at hl 3 rfl) ?_
    refine lv_icmp_ge (pc := 13) (tgt := 121) hx hb d_xPen_draw_13 (by decide) (fun hc => ?_) (fun hc => ?_)
    · rw [if_pos hc] at hf
      exact hb121 x1 v_o_x v_o_y c_o_drawn v_p2_count c_p2_numbers c_p2_kinds _ _ _ hf hP hD hS (lv_sub hl [0, 1, 2] rfl)
    · rw [if_neg hc] at hf
      refine lv_iload (pc := 16) hx hb d_xPen_draw_16 (lv_at hl 4 rfl) ?_
      refine lv_iconst (pc := 18) (v := (1 : Int32)) hx hb d_xPen_draw_18 (by decide) ?_
      refine lv_iadd (pc := 19) hx hb d_xPen_draw_19 ?_
      refine lv_bipush (pc := 20) (v := (6 : Int32)) hx hb d_xPen_draw_20 (by decide) ?_
      refine lv_icmp_ge (pc := 22) (tgt := 121) hx hb d_xPen_draw_22 (by decide) (fun hc => ?_) (fun hc => ?_)
      · rw [if_pos hc] at hf
        exact hb121 x1 v_o_x v_o_y c_o_drawn v_p2_count c_p2_numbers c_p2_kinds _ _ _ hf hP hD hS (lv_sub hl [0, 1, 2] rfl)
      · rw [if_neg hc] at hf
        refine lv_aload_n (pc := 25) hx hb d_xPen_draw_25 rfl (lv_at hl 0 rfl) ?_
        refine va_get (pc := 26) (D := (dC, dI)) (ci := 3) (v := .ref q_o_drawn) (C := "PathTexts$Pen") (T := F_Pen) (N := 10) hx hb hts (fun w h => List.mem_cons_of_mem _ (in_Pen w h)) hown hK hP 0 rfl rfl 2 (by decide) (hts _ (List.mem_cons_of_mem _ kw_74)) (fun _ h9 => h9) fg_Pen_2 d_xPen_draw_26 ?_
        refine lv_iload (pc := 29) hx hb d_xPen_draw_29 (lv_at hl 4 rfl) ?_
        refine lv_aload_n (pc := 31) hx hb d_xPen_draw_31 rfl (lv_at hl 0 rfl) ?_
        refine va_get (pc := 32) (D := (dC, dI)) (ci := 3) (v := .ref q_o_matrices) (C := "PathTexts$Pen") (T := F_Pen) (N := 10) hx hb hts (fun w h => List.mem_cons_of_mem _ (in_Pen w h)) hown hK hP 0 rfl rfl 0 (by decide) (hts _ (List.mem_cons_of_mem _ kw_71)) (fun _ h9 => h9) fg_Pen_0 d_xPen_draw_32 ?_
        refine lv_aload_n (pc := 35) hx hb d_xPen_draw_35 rfl (lv_at hl 0 rfl) ?_
        refine va_get (pc := 36) (D := (dC, dI)) (ci := 3) (v := .ref q_o_points) (C := "PathTexts$Pen") (T := F_Pen) (N := 10) hx hb hts (fun w h => List.mem_cons_of_mem _ (in_Pen w h)) hown hK hP 0 rfl rfl 1 (by decide) (hts _ (List.mem_cons_of_mem _ kw_73)) (fun _ h9 => h9) fg_Pen_1 d_xPen_draw_36 ?_
        refine lv_iload (pc := 39) hx hb d_xPen_draw_39 (lv_at hl 4 rfl) ?_
        obtain ⟨hg2, hf⟩ := kg_some hf
        refine va_lald (pc := 41) hx hb hK hP 1 0 rfl rfl (ki_in hg2) d_xPen_draw_41 ?_
        refine lv_aload_n (pc := 42) hx hb d_xPen_draw_42 rfl (lv_at hl 0 rfl) ?_
        refine va_get (pc := 43) (D := (dC, dI)) (ci := 3) (v := .ref q_o_points) (C := "PathTexts$Pen") (T := F_Pen) (N := 10) hx hb hts (fun w h => List.mem_cons_of_mem _ (in_Pen w h)) hown hK hP 0 rfl rfl 1 (by decide) (hts _ (List.mem_cons_of_mem _ kw_73)) (fun _ h9 => h9) fg_Pen_1 d_xPen_draw_43 ?_
        refine lv_iload (pc := 46) hx hb d_xPen_draw_46 (lv_at hl 4 rfl) ?_
        refine lv_iconst (pc := 48) (v := (1 : Int32)) hx hb d_xPen_draw_48 (by decide) ?_
        refine lv_iadd (pc := 49) hx hb d_xPen_draw_49 ?_
        obtain ⟨hg3, hf⟩ := kg_some hf
        refine va_lald (pc := 50) hx hb hK hP 1 0 rfl rfl (ki_in hg3) d_xPen_draw_50 ?_
        refine lv_iconst (pc := 51) (v := (0 : Int32)) hx hb d_xPen_draw_51 (by decide) ?_
        refine lv_iconst (pc := 52) (v := (1 : Int32)) hx hb d_xPen_draw_52 (by decide) ?_
        obtain ⟨r53, hz, hf⟩ := kb1_some hf
        have hPc := hP.sub (ws' := [(q_o_matrices, .inr (2, f_Matrices q_o_matrices_rows v_o_matrices_depth)), (q_o_matrices_rows, .inl (k_o_matrices_rows, 54, .inr (.inl c_o_matrices_rows)))]) [2, 3] rfl
        have hDc := hD.sub (ws' := [(q_o_matrices, .inr (2, f_Matrices q_o_matrices_rows v_o_matrices_depth)), (q_o_matrices_rows, .inl (k_o_matrices_rows, 54, .inr (.inl c_o_matrices_rows)))]) [2, 3] (by decide) rfl
        have hKc := hK.sub (tys' := [(k_o_matrices_rows, .long)]) [1] rfl
        have hFc := va_free (wc := [(q_o_matrices, .inr (2, f_Matrices q_o_matrices_rows v_o_matrices_depth)), (q_o_matrices_rows, .inl (k_o_matrices_rows, 54, .inr (.inl c_o_matrices_rows)))]) hD hS hA [2, 3] rfl
        refine va_calll (pc := 53) (va_runV (As := [.long (c_o_points (x4).toNatClampNeg), .long (c_o_points ((x4 + (1 : Int32))).toNatClampNeg), .int (0 : Int32), .int (1 : Int32)]) (rest := [.int x4, .ref q_o_drawn]) ⟨hx, hb, hml, hown, hts⟩ (ct_xMatrices_across l dC dI q_o_matrices q_o_matrices_rows k_o_matrices_rows _ tt (c_o_points (x4).toNatClampNeg) (c_o_points ((x4 + (1 : Int32))).toNatClampNeg) (0 : Int32) (1 : Int32) v_o_matrices_depth c_o_matrices_rows r53 hz) (cwV 4 hts (kw_in4 kw_335 kw_281 kw_282 kw_5 kw_283) rfl rfl rfl (by decide +kernel) ⟨Nat.le_of_ble_eq_true rfl, Nat.le_of_ble_eq_true rfl⟩) (ke_preV hPc hKc hDc hE hS hFc 0 rfl rfl) rfl rfl hl.1 rfl (lv_room (Nat.le_of_ble_eq_true rfl)) d_xPen_draw_53 ⟨Nat.le_of_ble_eq_true rfl, Nat.le_of_ble_eq_true rfl⟩) hS (fun q _ h => hFc q h) hFc (fun r9 u t H1 locs ht hvm hw hB hz1 hk1 hS => ?_)
        obtain ⟨hP1, hK1, hD1⟩ := hB
        rw [ht] at hP1
        have hw := hw.symm
        subst hw
        obtain ⟨hP, hD⟩ := va_join (wr := [(q_o, .inr (3, f_Pen q_o_matrices q_o_points q_o_drawn v_o_x v_o_y v_o_startX v_o_startY v_o_controlX v_o_controlY v_o_controlFor)), (q_o_points, .inl (k_o_points, 6, .inr (.inl c_o_points))), (q_o_drawn, .inl (k_o_drawn, 6, .inr (.inl c_o_drawn))), (q_p2, .inr (1, f_Drawing q_p2_kinds q_p2_numbers v_p2_count)), (q_p2_numbers, .inl (k_p2_numbers, 900, .inl c_p2_numbers)), (q_p2_kinds, .inl (k_p2_kinds, 150, .inl c_p2_kinds))]) (w1 := [(q_o_matrices, .inr (2, f_Matrices q_o_matrices_rows v_o_matrices_depth)), (q_o_matrices_rows, .inl (k_o_matrices_rows, 54, .inr (.inl c_o_matrices_rows)))]) hP hD [2, 3] [0, 1, 4, 5, 6, 7] rfl rfl (by decide) (by decide) hk1 hFc hP1 hD1
        have hP := hP.sub (ws' := [(q_o, .inr (3, f_Pen q_o_matrices q_o_points q_o_drawn v_o_x v_o_y v_o_startX v_o_startY v_o_controlX v_o_controlY v_o_controlFor)), (q_o_points, .inl (k_o_points, 6, .inr (.inl c_o_points))), (q_o_matrices, .inr (2, f_Matrices q_o_matrices_rows v_o_matrices_depth)), (q_o_matrices_rows, .inl (k_o_matrices_rows, 54, .inr (.inl c_o_matrices_rows))), (q_o_drawn, .inl (k_o_drawn, 6, .inr (.inl c_o_drawn))), (q_p2, .inr (1, f_Drawing q_p2_kinds q_p2_numbers v_p2_count)), (q_p2_numbers, .inl (k_p2_numbers, 900, .inl c_p2_numbers)), (q_p2_kinds, .inl (k_p2_kinds, 150, .inl c_p2_kinds))]) [0, 1, 6, 7, 2, 3, 4, 5] rfl
        have hD := hD.sub (ws' := [(q_o, .inr (3, f_Pen q_o_matrices q_o_points q_o_drawn v_o_x v_o_y v_o_startX v_o_startY v_o_controlX v_o_controlY v_o_controlFor)), (q_o_points, .inl (k_o_points, 6, .inr (.inl c_o_points))), (q_o_matrices, .inr (2, f_Matrices q_o_matrices_rows v_o_matrices_depth)), (q_o_matrices_rows, .inl (k_o_matrices_rows, 54, .inr (.inl c_o_matrices_rows))), (q_o_drawn, .inl (k_o_drawn, 6, .inr (.inl c_o_drawn))), (q_p2, .inr (1, f_Drawing q_p2_kinds q_p2_numbers v_p2_count)), (q_p2_numbers, .inl (k_p2_numbers, 900, .inl c_p2_numbers)), (q_p2_kinds, .inl (k_p2_kinds, 150, .inl c_p2_kinds))]) [0, 1, 6, 7, 2, 3, 4, 5] (by decide) rfl
        clear hP1 hK1 hD1 hk1 hPc hDc hKc hFc hz1 hvm ht hz
        generalize H1 = H at hP hS ⊢
        obtain ⟨hg4, hf⟩ := kg_some hf
        refine kx_last (pc := 56) (ws' := [(q_o, .inr (3, f_Pen q_o_matrices q_o_points q_o_drawn v_o_x v_o_y v_o_startX v_o_startY v_o_controlX v_o_controlY v_o_controlFor)), (q_o_points, .inl (k_o_points, 6, .inr (.inl c_o_points))), (q_o_matrices, .inr (2, f_Matrices q_o_matrices_rows v_o_matrices_depth)), (q_o_matrices_rows, .inl (k_o_matrices_rows, 54, .inr (.inl c_o_matrices_rows))), (q_o_drawn, .inl (k_o_drawn, 6, .inr (.inl (vp_updL c_o_drawn (x4).toNatClampNeg r53)))), (q_p2, .inr (1, f_Drawing q_p2_kinds q_p2_numbers v_p2_count)), (q_p2_numbers, .inl (k_p2_numbers, 900, .inl c_p2_numbers)), (q_p2_kinds, .inl (k_p2_kinds, 150, .inl c_p2_kinds))]) hx hb hK hP hD hS 4 2 rfl rfl (ki_in hg4) rfl d_xPen_draw_56 (fun H locs hP hD hS => ?_)
        refine lv_aload_n (pc := 57) hx hb d_xPen_draw_57 rfl (lv_at hl 0 rfl) ?_
        refine va_get (pc := 58) (D := (dC, dI)) (ci := 3) (v := .ref q_o_drawn) (C := "PathTexts$Pen") (T := F_Pen) (N := 10) hx hb hts (fun w h => List.mem_cons_of_mem _ (in_Pen w h)) hown hK hP 0 rfl rfl 2 (by decide) (hts _ (List.mem_cons_of_mem _ kw_74)) (fun _ h9 => h9) fg_Pen_2 d_xPen_draw_58 ?_
        refine lv_iload (pc := 61) hx hb d_xPen_draw_61 (lv_at hl 4 rfl) ?_
        refine lv_iconst (pc := 63) (v := (1 : Int32)) hx hb d_xPen_draw_63 (by decide) ?_
        refine lv_iadd (pc := 64) hx hb d_xPen_draw_64 ?_
        refine lv_aload_n (pc := 65) hx hb d_xPen_draw_65 rfl (lv_at hl 0 rfl) ?_
        refine va_get (pc := 66) (D := (dC, dI)) (ci := 3) (v := .ref q_o_matrices) (C := "PathTexts$Pen") (T := F_Pen) (N := 10) hx hb hts (fun w h => List.mem_cons_of_mem _ (in_Pen w h)) hown hK hP 0 rfl rfl 0 (by decide) (hts _ (List.mem_cons_of_mem _ kw_71)) (fun _ h9 => h9) fg_Pen_0 d_xPen_draw_66 ?_
        refine lv_aload_n (pc := 69) hx hb d_xPen_draw_69 rfl (lv_at hl 0 rfl) ?_
        refine va_get (pc := 70) (D := (dC, dI)) (ci := 3) (v := .ref q_o_points) (C := "PathTexts$Pen") (T := F_Pen) (N := 10) hx hb hts (fun w h => List.mem_cons_of_mem _ (in_Pen w h)) hown hK hP 0 rfl rfl 1 (by decide) (hts _ (List.mem_cons_of_mem _ kw_73)) (fun _ h9 => h9) fg_Pen_1 d_xPen_draw_70 ?_
        refine lv_iload (pc := 73) hx hb d_xPen_draw_73 (lv_at hl 4 rfl) ?_
        obtain ⟨hg5, hf⟩ := kg_some hf
        refine va_lald (pc := 75) hx hb hK hP 1 0 rfl rfl (ki_in hg5) d_xPen_draw_75 ?_
        refine lv_aload_n (pc := 76) hx hb d_xPen_draw_76 rfl (lv_at hl 0 rfl) ?_
        refine va_get (pc := 77) (D := (dC, dI)) (ci := 3) (v := .ref q_o_points) (C := "PathTexts$Pen") (T := F_Pen) (N := 10) hx hb hts (fun w h => List.mem_cons_of_mem _ (in_Pen w h)) hown hK hP 0 rfl rfl 1 (by decide) (hts _ (List.mem_cons_of_mem _ kw_73)) (fun _ h9 => h9) fg_Pen_1 d_xPen_draw_77 ?_
        refine lv_iload (pc := 80) hx hb d_xPen_draw_80 (lv_at hl 4 rfl) ?_
        refine lv_iconst (pc := 82) (v := (1 : Int32)) hx hb d_xPen_draw_82 (by decide) ?_
        refine lv_iadd (pc := 83) hx hb d_xPen_draw_83 ?_
        obtain ⟨hg6, hf⟩ := kg_some hf
        refine va_lald (pc := 84) hx hb hK hP 1 0 rfl rfl (ki_in hg6) d_xPen_draw_84 ?_
        refine lv_iconst (pc := 85) (v := (1 : Int32)) hx hb d_xPen_draw_85 (by decide) ?_
        refine lv_iconst (pc := 86) (v := (1 : Int32)) hx hb d_xPen_draw_86 (by decide) ?_
        obtain ⟨r87, hz, hf⟩ := kb1_some hf
        have hPc := hP.sub (ws' := [(q_o_matrices, .inr (2, f_Matrices q_o_matrices_rows v_o_matrices_depth)), (q_o_matrices_rows, .inl (k_o_matrices_rows, 54, .inr (.inl c_o_matrices_rows)))]) [2, 3] rfl
        have hDc := hD.sub (ws' := [(q_o_matrices, .inr (2, f_Matrices q_o_matrices_rows v_o_matrices_depth)), (q_o_matrices_rows, .inl (k_o_matrices_rows, 54, .inr (.inl c_o_matrices_rows)))]) [2, 3] (by decide) rfl
        have hKc := hK.sub (tys' := [(k_o_matrices_rows, .long)]) [1] rfl
        have hFc := va_free (wc := [(q_o_matrices, .inr (2, f_Matrices q_o_matrices_rows v_o_matrices_depth)), (q_o_matrices_rows, .inl (k_o_matrices_rows, 54, .inr (.inl c_o_matrices_rows)))]) hD hS hA [2, 3] rfl
        refine va_calll (pc := 87) (va_runV (As := [.long (c_o_points (x4).toNatClampNeg), .long (c_o_points ((x4 + (1 : Int32))).toNatClampNeg), .int (1 : Int32), .int (1 : Int32)]) (rest := [.int (x4 + (1 : Int32)), .ref q_o_drawn]) ⟨hx, hb, hml, hown, hts⟩ (ct_xMatrices_across l dC dI q_o_matrices q_o_matrices_rows k_o_matrices_rows _ tt (c_o_points (x4).toNatClampNeg) (c_o_points ((x4 + (1 : Int32))).toNatClampNeg) (1 : Int32) (1 : Int32) v_o_matrices_depth c_o_matrices_rows r87 hz) (cwV 4 hts (kw_in4 kw_335 kw_281 kw_282 kw_5 kw_283) rfl rfl rfl (by decide +kernel) ⟨Nat.le_of_ble_eq_true rfl, Nat.le_of_ble_eq_true rfl⟩) (ke_preV hPc hKc hDc hE hS hFc 0 rfl rfl) rfl rfl hl.1 rfl (lv_room (Nat.le_of_ble_eq_true rfl)) d_xPen_draw_87 ⟨Nat.le_of_ble_eq_true rfl, Nat.le_of_ble_eq_true rfl⟩) hS (fun q _ h => hFc q h) hFc (fun r9 u t H1 locs ht hvm hw hB hz1 hk1 hS => ?_)
        obtain ⟨hP1, hK1, hD1⟩ := hB
        rw [ht] at hP1
        have hw := hw.symm
        subst hw
        obtain ⟨hP, hD⟩ := va_join (wr := [(q_o, .inr (3, f_Pen q_o_matrices q_o_points q_o_drawn v_o_x v_o_y v_o_startX v_o_startY v_o_controlX v_o_controlY v_o_controlFor)), (q_o_points, .inl (k_o_points, 6, .inr (.inl c_o_points))), (q_o_drawn, .inl (k_o_drawn, 6, .inr (.inl (vp_updL c_o_drawn (x4).toNatClampNeg r53)))), (q_p2, .inr (1, f_Drawing q_p2_kinds q_p2_numbers v_p2_count)), (q_p2_numbers, .inl (k_p2_numbers, 900, .inl c_p2_numbers)), (q_p2_kinds, .inl (k_p2_kinds, 150, .inl c_p2_kinds))]) (w1 := [(q_o_matrices, .inr (2, f_Matrices q_o_matrices_rows v_o_matrices_depth)), (q_o_matrices_rows, .inl (k_o_matrices_rows, 54, .inr (.inl c_o_matrices_rows)))]) hP hD [2, 3] [0, 1, 4, 5, 6, 7] rfl rfl (by decide) (by decide) hk1 hFc hP1 hD1
        have hP := hP.sub (ws' := [(q_o, .inr (3, f_Pen q_o_matrices q_o_points q_o_drawn v_o_x v_o_y v_o_startX v_o_startY v_o_controlX v_o_controlY v_o_controlFor)), (q_o_points, .inl (k_o_points, 6, .inr (.inl c_o_points))), (q_o_matrices, .inr (2, f_Matrices q_o_matrices_rows v_o_matrices_depth)), (q_o_matrices_rows, .inl (k_o_matrices_rows, 54, .inr (.inl c_o_matrices_rows))), (q_o_drawn, .inl (k_o_drawn, 6, .inr (.inl (vp_updL c_o_drawn (x4).toNatClampNeg r53)))), (q_p2, .inr (1, f_Drawing q_p2_kinds q_p2_numbers v_p2_count)), (q_p2_numbers, .inl (k_p2_numbers, 900, .inl c_p2_numbers)), (q_p2_kinds, .inl (k_p2_kinds, 150, .inl c_p2_kinds))]) [0, 1, 6, 7, 2, 3, 4, 5] rfl
        have hD := hD.sub (ws' := [(q_o, .inr (3, f_Pen q_o_matrices q_o_points q_o_drawn v_o_x v_o_y v_o_startX v_o_startY v_o_controlX v_o_controlY v_o_controlFor)), (q_o_points, .inl (k_o_points, 6, .inr (.inl c_o_points))), (q_o_matrices, .inr (2, f_Matrices q_o_matrices_rows v_o_matrices_depth)), (q_o_matrices_rows, .inl (k_o_matrices_rows, 54, .inr (.inl c_o_matrices_rows))), (q_o_drawn, .inl (k_o_drawn, 6, .inr (.inl (vp_updL c_o_drawn (x4).toNatClampNeg r53)))), (q_p2, .inr (1, f_Drawing q_p2_kinds q_p2_numbers v_p2_count)), (q_p2_numbers, .inl (k_p2_numbers, 900, .inl c_p2_numbers)), (q_p2_kinds, .inl (k_p2_kinds, 150, .inl c_p2_kinds))]) [0, 1, 6, 7, 2, 3, 4, 5] (by decide) rfl
        clear hP1 hK1 hD1 hk1 hPc hDc hKc hFc hz1 hvm ht hz
        generalize H1 = H at hP hS ⊢
        obtain ⟨hg7, hf⟩ := kg_some hf
        refine kx_last (pc := 90) (ws' := [(q_o, .inr (3, f_Pen q_o_matrices q_o_points q_o_drawn v_o_x v_o_y v_o_startX v_o_startY v_o_controlX v_o_controlY v_o_controlFor)), (q_o_points, .inl (k_o_points, 6, .inr (.inl c_o_points))), (q_o_matrices, .inr (2, f_Matrices q_o_matrices_rows v_o_matrices_depth)), (q_o_matrices_rows, .inl (k_o_matrices_rows, 54, .inr (.inl c_o_matrices_rows))), (q_o_drawn, .inl (k_o_drawn, 6, .inr (.inl (vp_updL (vp_updL c_o_drawn (x4).toNatClampNeg r53) ((x4 + (1 : Int32))).toNatClampNeg r87)))), (q_p2, .inr (1, f_Drawing q_p2_kinds q_p2_numbers v_p2_count)), (q_p2_numbers, .inl (k_p2_numbers, 900, .inl c_p2_numbers)), (q_p2_kinds, .inl (k_p2_kinds, 150, .inl c_p2_kinds))]) hx hb hK hP hD hS 4 2 rfl rfl (ki_in hg7) rfl d_xPen_draw_90 (fun H locs hP hD hS => ?_)
        refine lv_aload_n (pc := 91) hx hb d_xPen_draw_91 rfl (lv_at hl 0 rfl) ?_
        refine lv_aload_n (pc := 92) hx hb d_xPen_draw_92 rfl (lv_at hl 0 rfl) ?_
        refine va_get (pc := 93) (D := (dC, dI)) (ci := 3) (v := .ref q_o_points) (C := "PathTexts$Pen") (T := F_Pen) (N := 10) hx hb hts (fun w h => List.mem_cons_of_mem _ (in_Pen w h)) hown hK hP 0 rfl rfl 1 (by decide) (hts _ (List.mem_cons_of_mem _ kw_73)) (fun _ h9 => h9) fg_Pen_1 d_xPen_draw_93 ?_
        refine lv_iload (pc := 96) hx hb d_xPen_draw_96 (lv_at hl 4 rfl) ?_
        obtain ⟨hg8, hf⟩ := kg_some hf
        refine va_lald (pc := 98) hx hb hK hP 1 0 rfl rfl (ki_in hg8) d_xPen_draw_98 ?_
        refine kx_put (pc := 99) (D := (dC, dI)) (ci := 3) (v := .long (c_o_points (x4).toNatClampNeg)) (ty := .long) (C := "PathTexts$Pen") (T := F_Pen) (N := 10) hx hb hts (fun w h => List.mem_cons_of_mem _ (in_Pen w h)) t_Pen tk_Pen n_Pen hown hK hP hD hS 0 rfl rfl 3 (by decide) (hts _ (List.mem_cons_of_mem _ kw_75)) (fun _ h9 => h9) rfl (tk_Pen 3 (by decide)) rfl rfl fl_Pen_3 fs_Pen_3 (ws' := [(q_o, .inr (3, f_Pen q_o_matrices q_o_points q_o_drawn (c_o_points (x4).toNatClampNeg) v_o_y v_o_startX v_o_startY v_o_controlX v_o_controlY v_o_controlFor)), (q_o_points, .inl (k_o_points, 6, .inr (.inl c_o_points))), (q_o_matrices, .inr (2, f_Matrices q_o_matrices_rows v_o_matrices_depth)), (q_o_matrices_rows, .inl (k_o_matrices_rows, 54, .inr (.inl c_o_matrices_rows))), (q_o_drawn, .inl (k_o_drawn, 6, .inr (.inl (vp_updL (vp_updL c_o_drawn (x4).toNatClampNeg r53) ((x4 + (1 : Int32))).toNatClampNeg r87)))), (q_p2, .inr (1, f_Drawing q_p2_kinds q_p2_numbers v_p2_count)), (q_p2_numbers, .inl (k_p2_numbers, 900, .inl c_p2_numbers)), (q_p2_kinds, .inl (k_p2_kinds, 150, .inl c_p2_kinds))]) rfl d_xPen_draw_99 (fun H locs hP hD hS => ?_)
        refine lv_aload_n (pc := 102) hx hb d_xPen_draw_102 rfl (lv_at hl 0 rfl) ?_
        refine lv_aload_n (pc := 103) hx hb d_xPen_draw_103 rfl (lv_at hl 0 rfl) ?_
        refine va_get (pc := 104) (D := (dC, dI)) (ci := 3) (v := .ref q_o_points) (C := "PathTexts$Pen") (T := F_Pen) (N := 10) hx hb hts (fun w h => List.mem_cons_of_mem _ (in_Pen w h)) hown hK hP 0 rfl rfl 1 (by decide) (hts _ (List.mem_cons_of_mem _ kw_73)) (fun _ h9 => h9) fg_Pen_1 d_xPen_draw_104 ?_
        refine lv_iload (pc := 107) hx hb d_xPen_draw_107 (lv_at hl 4 rfl) ?_
        refine lv_iconst (pc := 109) (v := (1 : Int32)) hx hb d_xPen_draw_109 (by decide) ?_
        refine lv_iadd (pc := 110) hx hb d_xPen_draw_110 ?_
        obtain ⟨hg9, hf⟩ := kg_some hf
        refine va_lald (pc := 111) hx hb hK hP 1 0 rfl rfl (ki_in hg9) d_xPen_draw_111 ?_
        refine kx_put (pc := 112) (D := (dC, dI)) (ci := 3) (v := .long (c_o_points ((x4 + (1 : Int32))).toNatClampNeg)) (ty := .long) (C := "PathTexts$Pen") (T := F_Pen) (N := 10) hx hb hts (fun w h => List.mem_cons_of_mem _ (in_Pen w h)) t_Pen tk_Pen n_Pen hown hK hP hD hS 0 rfl rfl 4 (by decide) (hts _ (List.mem_cons_of_mem _ kw_76)) (fun _ h9 => h9) rfl (tk_Pen 4 (by decide)) rfl rfl fl_Pen_4 fs_Pen_4 (ws' := [(q_o, .inr (3, f_Pen q_o_matrices q_o_points q_o_drawn (c_o_points (x4).toNatClampNeg) (c_o_points ((x4 + (1 : Int32))).toNatClampNeg) v_o_startX v_o_startY v_o_controlX v_o_controlY v_o_controlFor)), (q_o_points, .inl (k_o_points, 6, .inr (.inl c_o_points))), (q_o_matrices, .inr (2, f_Matrices q_o_matrices_rows v_o_matrices_depth)), (q_o_matrices_rows, .inl (k_o_matrices_rows, 54, .inr (.inl c_o_matrices_rows))), (q_o_drawn, .inl (k_o_drawn, 6, .inr (.inl (vp_updL (vp_updL c_o_drawn (x4).toNatClampNeg r53) ((x4 + (1 : Int32))).toNatClampNeg r87)))), (q_p2, .inr (1, f_Drawing q_p2_kinds q_p2_numbers v_p2_count)), (q_p2_numbers, .inl (k_p2_numbers, 900, .inl c_p2_numbers)), (q_p2_kinds, .inl (k_p2_kinds, 150, .inl c_p2_kinds))]) rfl d_xPen_draw_112 (fun H locs hP hD hS => ?_)
        refine lv_iinc (pc := 115) (v := (x4 + (2 : Int32))) (lv' := [(4, .int (x4 + (2 : Int32))), (0, .ref q_o), (1, .int x1), (2, .ref q_p2), (3, .int x3)]) hx hb d_xPen_draw_115 hl (k := 4) rfl rfl (by decide) rfl (fun ls hl => ?_)
        refine lv_goto (pc := 118) (tgt := 8) hx hb d_xPen_draw_118 (by decide) ?_
        exact hk8 x1 x3 (x4 + (2 : Int32)) (c_o_points (x4).toNatClampNeg) (c_o_points ((x4 + (1 : Int32))).toNatClampNeg) (vp_updL (vp_updL c_o_drawn (x4).toNatClampNeg r53) ((x4 + (1 : Int32))).toNatClampNeg r87) v_p2_count c_p2_numbers c_p2_kinds _ _ _ hf hP hD hS (lv_sub hl [1, 2, 3, 4, 0] rfl)
  have hL8 : ∀ n : Nat, ∀ (x1 : Int32) (x3 : Int32) (x4 : Int32) (v_o_x : Int64) (v_o_y : Int64) (c_o_drawn : (Nat → Int64)) (v_p2_count : Int32) (c_p2_numbers : (Nat → Int32)) (c_p2_kinds : (Nat → Int32)) (H : Heap) (locs : List Loc) (ls : Array Slot), (xPen_draw_L8 N n) x1 x3 x4 v_o_x v_o_y v_o_startX v_o_startY c_o_points v_o_matrices_depth c_o_matrices_rows c_o_drawn v_p2_count c_p2_numbers c_p2_kinds = some (rv, v_o_x_z, v_o_y_z, c_o_drawn_z, v_p2_count_z, c_p2_numbers_z, c_p2_kinds_z) → va_P (dC, dI) clz [(q_o, .inr (3, f_Pen q_o_matrices q_o_points q_o_drawn v_o_x v_o_y v_o_startX v_o_startY v_o_controlX v_o_controlY v_o_controlFor)), (q_o_points, .inl (k_o_points, 6, .inr (.inl c_o_points))), (q_o_matrices, .inr (2, f_Matrices q_o_matrices_rows v_o_matrices_depth)), (q_o_matrices_rows, .inl (k_o_matrices_rows, 54, .inr (.inl c_o_matrices_rows))), (q_o_drawn, .inl (k_o_drawn, 6, .inr (.inl c_o_drawn))), (q_p2, .inr (1, f_Drawing q_p2_kinds q_p2_numbers v_p2_count)), (q_p2_numbers, .inl (k_p2_numbers, 900, .inl c_p2_numbers)), (q_p2_kinds, .inl (k_p2_kinds, 150, .inl c_p2_kinds))] H → va_D A [(q_o, .inr (3, f_Pen q_o_matrices q_o_points q_o_drawn v_o_x v_o_y v_o_startX v_o_startY v_o_controlX v_o_controlY v_o_controlFor)), (q_o_points, .inl (k_o_points, 6, .inr (.inl c_o_points))), (q_o_matrices, .inr (2, f_Matrices q_o_matrices_rows v_o_matrices_depth)), (q_o_matrices_rows, .inl (k_o_matrices_rows, 54, .inr (.inl c_o_matrices_rows))), (q_o_drawn, .inl (k_o_drawn, 6, .inr (.inl c_o_drawn))), (q_p2, .inr (1, f_Drawing q_p2_kinds q_p2_numbers v_p2_count)), (q_p2_numbers, .inl (k_p2_numbers, 900, .inl c_p2_numbers)), (q_p2_kinds, .inl (k_p2_kinds, 150, .inl c_p2_kinds))] → va_S A s.heap H locs → lv_has ls 5 [(0, .ref q_o), (1, .int x1), (2, .ref q_p2), (3, .int x3), (4, .int x4)] → W p l e (headSpec w_xPen_draw ({ frames := 3, cells := 0, slots := 0, locals := 77 })).room s m args below meth c H locs 0 0 Q (F0 m 8 ls []) := by
    intro n
    induction n with
    | zero => intro x1 x3 x4 v_o_x v_o_y c_o_drawn v_p2_count c_p2_numbers c_p2_kinds H locs ls hf hP hD hS hl; have hf : none = some (rv, v_o_x_z, v_o_y_z, c_o_drawn_z, v_p2_count_z, c_p2_numbers_z, c_p2_kinds_z) := hf; cases hf
    | succ n ih => exact hB8 (xPen_draw_L8 N n) ih
  rw [xPen_draw] at hf
  refine lv_iload_n (pc := 0) hx hb d_xPen_draw_0 rfl (lv_at hl 1 rfl) ?_
  obtain ⟨r1, hz, hf⟩ := kb1_some hf
  have hPc := hP.sub (ws' := []) [] rfl
  have hDc := hD.sub (ws' := []) [] (by decide) rfl
  have hKc := hK.sub (tys' := []) [] rfl
  have hFc := va_free (wc := []) hD hS hA [] rfl
  refine va_calli (pc := 1) (va_runSN (As := [.int x1]) (rest := []) ⟨hx, hb, hml, hown, hts⟩ (ct_xP_numbersOf l dC dI _ x1 r1 hz) ⟨va_cnB 1 hts (kw_in kw_334) rfl rfl rfl (hE.1 _ kn_10) (hts _ (List.mem_cons_of_mem _ kw_1)) (by decide +kernel) ⟨Nat.le_of_ble_eq_true rfl, Nat.le_of_ble_eq_true rfl⟩, hts _ (List.mem_cons_of_mem _ kw_333), trivial⟩ (kx_pre hPc hKc hDc) rfl rfl hl.1 rfl (lv_room (Nat.le_of_ble_eq_true rfl)) d_xPen_draw_1 ⟨Nat.le_of_ble_eq_true rfl, Nat.le_of_ble_eq_true rfl⟩) hS (fun q _ h => hFc q h) hFc (fun r9 u t H1 locs ht hvm hw hB hz1 hk1 hS => ?_)
  obtain ⟨hP1, hK1, hD1⟩ := hB
  rw [ht] at hP1
  have hw := hw.symm
  subst hw
  obtain ⟨hP, hD⟩ := va_join (wr := [(q_o, .inr (3, f_Pen q_o_matrices q_o_points q_o_drawn v_o_x v_o_y v_o_startX v_o_startY v_o_controlX v_o_controlY v_o_controlFor)), (q_o_points, .inl (k_o_points, 6, .inr (.inl c_o_points))), (q_o_matrices, .inr (2, f_Matrices q_o_matrices_rows v_o_matrices_depth)), (q_o_matrices_rows, .inl (k_o_matrices_rows, 54, .inr (.inl c_o_matrices_rows))), (q_o_drawn, .inl (k_o_drawn, 6, .inr (.inl c_o_drawn))), (q_p2, .inr (1, f_Drawing q_p2_kinds q_p2_numbers v_p2_count)), (q_p2_numbers, .inl (k_p2_numbers, 900, .inl c_p2_numbers)), (q_p2_kinds, .inl (k_p2_kinds, 150, .inl c_p2_kinds))]) (w1 := []) hP hD [] [0, 1, 2, 3, 4, 5, 6, 7] rfl rfl (by decide) (by decide) hk1 hFc hP1 hD1
  have hP := hP.sub (ws' := [(q_o, .inr (3, f_Pen q_o_matrices q_o_points q_o_drawn v_o_x v_o_y v_o_startX v_o_startY v_o_controlX v_o_controlY v_o_controlFor)), (q_o_points, .inl (k_o_points, 6, .inr (.inl c_o_points))), (q_o_matrices, .inr (2, f_Matrices q_o_matrices_rows v_o_matrices_depth)), (q_o_matrices_rows, .inl (k_o_matrices_rows, 54, .inr (.inl c_o_matrices_rows))), (q_o_drawn, .inl (k_o_drawn, 6, .inr (.inl c_o_drawn))), (q_p2, .inr (1, f_Drawing q_p2_kinds q_p2_numbers v_p2_count)), (q_p2_numbers, .inl (k_p2_numbers, 900, .inl c_p2_numbers)), (q_p2_kinds, .inl (k_p2_kinds, 150, .inl c_p2_kinds))]) [0, 1, 2, 3, 4, 5, 6, 7] rfl
  have hD := hD.sub (ws' := [(q_o, .inr (3, f_Pen q_o_matrices q_o_points q_o_drawn v_o_x v_o_y v_o_startX v_o_startY v_o_controlX v_o_controlY v_o_controlFor)), (q_o_points, .inl (k_o_points, 6, .inr (.inl c_o_points))), (q_o_matrices, .inr (2, f_Matrices q_o_matrices_rows v_o_matrices_depth)), (q_o_matrices_rows, .inl (k_o_matrices_rows, 54, .inr (.inl c_o_matrices_rows))), (q_o_drawn, .inl (k_o_drawn, 6, .inr (.inl c_o_drawn))), (q_p2, .inr (1, f_Drawing q_p2_kinds q_p2_numbers v_p2_count)), (q_p2_numbers, .inl (k_p2_numbers, 900, .inl c_p2_numbers)), (q_p2_kinds, .inl (k_p2_kinds, 150, .inl c_p2_kinds))]) [0, 1, 2, 3, 4, 5, 6, 7] (by decide) rfl
  clear hP1 hK1 hD1 hk1 hPc hDc hKc hFc hz1 hvm ht hz
  generalize H1 = H at hP hS ⊢
  refine lv_istore_n (pc := 4) (lv' := [(3, .int r1), (0, .ref q_o), (1, .int x1), (2, .ref q_p2)]) hx hb d_xPen_draw_4 rfl hl (by decide) rfl (fun ls hl => ?_)
  refine lv_iconst (pc := 5) (v := (0 : Int32)) hx hb d_xPen_draw_5 (by decide) ?_
  refine lv_istore (pc := 6) (lv' := [(4, .int (0 : Int32)), (3, .int r1), (0, .ref q_o), (1, .int x1), (2, .ref q_p2)]) hx hb d_xPen_draw_6 hl (by decide) rfl (fun ls hl => ?_)
  exact hL8 N x1 r1 (0 : Int32) v_o_x v_o_y c_o_drawn v_p2_count c_p2_numbers c_p2_kinds _ _ _ hf hP hD hS (lv_sub hl [2, 3, 4, 1, 0] rfl)
set_option maxHeartbeats 4000000 in
set_option maxRecDepth 100000 in
theorem ct_xReader_passBracket (l : Launch) (dC : Nat → ClassId) (dI : Nat → Nat → Nat) (q_o : Nat) (q_o_text : Nat) (q_o_pen : Nat) (q_o_numbers : Nat) (q_o_pen_matrices : Nat) (q_o_pen_points : Nat) (q_o_pen_drawn : Nat) (sz : Nat) (v_o_at : Int32) (v_o_wrong : Int32) (v_o_moveIsDue : Int32) (v_o_pen_x : Int64) (v_o_pen_y : Int64) (v_o_pen_startX : Int64) (v_o_pen_startY : Int64) (v_o_pen_controlX : Int64) (v_o_pen_controlY : Int64) (v_o_pen_controlFor : Int32) (v_o_moveIsDue_z : Int32) (v_o_pen_x_z : Int64) (v_o_pen_y_z : Int64) (v_o_pen_controlFor_z : Int32) (hf : xReader_passBracket = some (v_o_moveIsDue_z, v_o_pen_x_z, v_o_pen_y_z, v_o_pen_controlFor_z)) : Met l y_xReader_passBracket w_xReader_passBracket ({ frames := 1, cells := 0, slots := 0, locals := 20 }) (va_Pc [.ref q_o] (fun U => U.heap.size = sz ∧ va_P (dC, dI) clz [(q_o, .inr (4, f_Reader q_o_text q_o_pen q_o_numbers v_o_at v_o_wrong v_o_moveIsDue)), (q_o_pen, .inr (3, f_Pen q_o_pen_matrices q_o_pen_points q_o_pen_drawn v_o_pen_x v_o_pen_y v_o_pen_startX v_o_pen_startY v_o_pen_controlX v_o_pen_controlY v_o_pen_controlFor))] U.heap ∧ va_K (dC, dI) clz [] U ∧ va_D (fun _ => True) [(q_o, .inr (4, f_Reader q_o_text q_o_pen q_o_numbers v_o_at v_o_wrong v_o_moveIsDue)), (q_o_pen, .inr (3, f_Pen q_o_pen_matrices q_o_pen_points q_o_pen_drawn v_o_pen_x v_o_pen_y v_o_pen_startX v_o_pen_startY v_o_pen_controlX v_o_pen_controlY v_o_pen_controlFor))])) (va_Qv (fun _ : Unit => True) (fun _ t => va_P (dC, dI) clz [(q_o, .inr (4, f_Reader q_o_text q_o_pen q_o_numbers v_o_at v_o_wrong v_o_moveIsDue_z)), (q_o_pen, .inr (3, f_Pen q_o_pen_matrices q_o_pen_points q_o_pen_drawn v_o_pen_x_z v_o_pen_y_z v_o_pen_startX v_o_pen_startY v_o_pen_controlX v_o_pen_controlY v_o_pen_controlFor_z))] t.heap ∧ va_K (dC, dI) clz [] t ∧ va_D (va_A [(q_o, .inr (4, f_Reader q_o_text q_o_pen q_o_numbers v_o_at v_o_wrong v_o_moveIsDue)), (q_o_pen, .inr (3, f_Pen q_o_pen_matrices q_o_pen_points q_o_pen_drawn v_o_pen_x v_o_pen_y v_o_pen_startX v_o_pen_startY v_o_pen_controlX v_o_pen_controlY v_o_pen_controlFor))] sz) [(q_o, .inr (4, f_Reader q_o_text q_o_pen q_o_numbers v_o_at v_o_wrong v_o_moveIsDue_z)), (q_o_pen, .inr (3, f_Pen q_o_pen_matrices q_o_pen_points q_o_pen_drawn v_o_pen_x_z v_o_pen_y_z v_o_pen_startX v_o_pen_startY v_o_pen_controlX v_o_pen_controlY v_o_pen_controlFor_z))]) (va_A [(q_o, .inr (4, f_Reader q_o_text q_o_pen q_o_numbers v_o_at v_o_wrong v_o_moveIsDue)), (q_o_pen, .inr (3, f_Pen q_o_pen_matrices q_o_pen_points q_o_pen_drawn v_o_pen_x v_o_pen_y v_o_pen_startX v_o_pen_startY v_o_pen_controlX v_o_pen_controlY v_o_pen_controlFor))] sz)) 0 0 (va_A [(q_o, .inr (4, f_Reader q_o_text q_o_pen q_o_numbers v_o_at v_o_wrong v_o_moveIsDue)), (q_o_pen, .inr (3, f_Pen q_o_pen_matrices q_o_pen_points q_o_pen_drawn v_o_pen_x v_o_pen_y v_o_pen_startX v_o_pen_startY v_o_pen_controlX v_o_pen_controlY v_o_pen_controlFor))] sz) := by
  refine Met.ofW (cc := prog_6_method_5_code) (maxL := 1) (ret := none) (by decide +kernel) rfl ?_
  intro p e s m args below meth c s₁ B hml hv
  obtain ⟨hargs, hsz, hP, hK, hD0⟩ := hv
  have hx := B.exec
  have hb := B.bytes
  have hr := B.returns
  have hts := atoms_spec (ws := w_xReader_passBracket) B.pre
  have hown : s.vm.findClass "PathTexts$Reader" = some m.cls := findClass_of_methodNamed B.named
  have hlocks := B.notSynchronized
  subst hsz
  have hD := hD0.self (sz := s.heap.size)
  generalize hAe : va_A [(q_o, .inr (4, f_Reader q_o_text q_o_pen q_o_numbers v_o_at v_o_wrong v_o_moveIsDue)), (q_o_pen, .inr (3, f_Pen q_o_pen_matrices q_o_pen_points q_o_pen_drawn v_o_pen_x v_o_pen_y v_o_pen_startX v_o_pen_startY v_o_pen_controlX v_o_pen_controlY v_o_pen_controlFor))] s.heap.size = A at hD ⊢
  have hA : ∀ q : Nat, s.heap.size ≤ q → A q := fun q h => by rw [← hAe]; exact Or.inr h
  clear hAe hD0
  have hS : va_S A s.heap s.heap [] := va_S.rf
  have hl := lv_entry ([.ref q_o]) (n := 1) (Nat.le_of_ble_eq_true rfl)
  have hent : entryFrame m args 1 = F0 m 0 (lg_sl ([.ref q_o]) ++ List.replicate (1 - (lg_sl ([.ref q_o])).length) Slot.unset).toArray [] := by rw [hargs, lg_entry_eq]
  rw [hent]
  clear hent hargs
  generalize (lg_sl ([.ref q_o]) ++ List.replicate (1 - (lg_sl ([.ref q_o])).length) Slot.unset).toArray = ls at hl ⊢
  have hl : lv_has ls 1 [(0, .ref q_o)] := hl
  suffices key : ∀ Q : State → Prop, (∀ (pc : Nat) (H : Heap) (locs : List Loc) (ls : Array Slot), decode prog_6_method_5_code pc = .ok (.return_, 1) → va_P (dC, dI) clz [(q_o, .inr (4, f_Reader q_o_text q_o_pen q_o_numbers v_o_at v_o_wrong v_o_moveIsDue_z)), (q_o_pen, .inr (3, f_Pen q_o_pen_matrices q_o_pen_points q_o_pen_drawn v_o_pen_x_z v_o_pen_y_z v_o_pen_startX v_o_pen_startY v_o_pen_controlX v_o_pen_controlY v_o_pen_controlFor_z))] H → va_D A [(q_o, .inr (4, f_Reader q_o_text q_o_pen q_o_numbers v_o_at v_o_wrong v_o_moveIsDue_z)), (q_o_pen, .inr (3, f_Pen q_o_pen_matrices q_o_pen_points q_o_pen_drawn v_o_pen_x_z v_o_pen_y_z v_o_pen_startX v_o_pen_startY v_o_pen_controlX v_o_pen_controlY v_o_pen_controlFor_z))] → va_S A s.heap H locs → W p l e (headSpec w_xReader_passBracket ({ frames := 1, cells := 0, slots := 0, locals := 20 })).room s m args below meth c H locs 0 0 Q (F0 m pc ls [])) → W p l e (headSpec w_xReader_passBracket ({ frames := 1, cells := 0, slots := 0, locals := 20 })).room s m args below meth c s.heap [] 0 0 Q (F0 m 0 ls []) from key _ (fun pc H locs ls hd hP hD hS => W.vret hx hb hr (fun t ht hW => ⟨⟨(), rfl, trivial, by rw [ht]; exact hP, va_K.moved hW.alike hK, hD⟩, hS.F ht⟩) hS.2.2 hd)
  intro Q hRet
  rw [xReader_passBracket] at hf
  refine lv_aload_n (pc := 0) hx hb d_xReader_passBracket_0 rfl (lv_at hl 0 rfl) ?_
  refine lv_iconst (pc := 1) (v := (1 : Int32)) hx hb d_xReader_passBracket_1 (by decide) ?_
  refine kx_put (pc := 2) (D := (dC, dI)) (ci := 4) (v := .int (1 : Int32)) (ty := .boolean) (C := "PathTexts$Reader") (T := F_Reader) (N := 6) hx hb hts (fun w h => List.mem_cons_of_mem _ (in_Reader w h)) t_Reader tk_Reader n_Reader hown hK hP hD hS 0 rfl rfl 5 (by decide) (hts _ (List.mem_cons_of_mem _ kw_108)) (fun _ h9 => h9) rfl (tk_Reader 5 (by decide)) (by decide) (by decide) fl_Reader_5 fs_Reader_5 (ws' := [(q_o, .inr (4, f_Reader q_o_text q_o_pen q_o_numbers v_o_at v_o_wrong (1 : Int32))), (q_o_pen, .inr (3, f_Pen q_o_pen_matrices q_o_pen_points q_o_pen_drawn v_o_pen_x v_o_pen_y v_o_pen_startX v_o_pen_startY v_o_pen_controlX v_o_pen_controlY v_o_pen_controlFor))]) rfl d_xReader_passBracket_2 (fun H locs hP hD hS => ?_)
  refine lv_aload_n (pc := 5) hx hb d_xReader_passBracket_5 rfl (lv_at hl 0 rfl) ?_
  refine va_get (pc := 6) (D := (dC, dI)) (ci := 4) (v := .ref q_o_pen) (C := "PathTexts$Reader") (T := F_Reader) (N := 6) hx hb hts (fun w h => List.mem_cons_of_mem _ (in_Reader w h)) hown hK hP 0 rfl rfl 1 (by decide) (hts _ (List.mem_cons_of_mem _ kw_104)) (fun _ h9 => h9) fg_Reader_1 d_xReader_passBracket_6 ?_
  obtain ⟨v_o_pen_x_9, v_o_pen_y_9, v_o_pen_controlFor_9, hz, hf⟩ := kb3_some hf
  have hPc := hP.sub (ws' := [(q_o_pen, .inr (3, f_Pen q_o_pen_matrices q_o_pen_points q_o_pen_drawn v_o_pen_x v_o_pen_y v_o_pen_startX v_o_pen_startY v_o_pen_controlX v_o_pen_controlY v_o_pen_controlFor))]) [1] rfl
  have hDc := hD.sub (ws' := [(q_o_pen, .inr (3, f_Pen q_o_pen_matrices q_o_pen_points q_o_pen_drawn v_o_pen_x v_o_pen_y v_o_pen_startX v_o_pen_startY v_o_pen_controlX v_o_pen_controlY v_o_pen_controlFor))]) [1] (by decide) rfl
  have hKc := hK.sub (tys' := []) [] rfl
  have hFc := va_free (wc := [(q_o_pen, .inr (3, f_Pen q_o_pen_matrices q_o_pen_points q_o_pen_drawn v_o_pen_x v_o_pen_y v_o_pen_startX v_o_pen_startY v_o_pen_controlX v_o_pen_controlY v_o_pen_controlFor))]) hD hS hA [1] rfl
  refine va_callv (pc := 9) (va_runV (As := []) (rest := []) ⟨hx, hb, hml, hown, hts⟩ (ct_xPen_standAtZero l dC dI q_o_pen q_o_pen_matrices q_o_pen_points q_o_pen_drawn _ v_o_pen_x v_o_pen_y v_o_pen_startX v_o_pen_startY v_o_pen_controlX v_o_pen_controlY v_o_pen_controlFor v_o_pen_x_9 v_o_pen_y_9 v_o_pen_controlFor_9 hz) (cwV 0 hts (kw_in4 kw_224 kw_225 kw_226 kw_4 kw_227) rfl rfl rfl (by decide +kernel) ⟨Nat.le_of_ble_eq_true rfl, Nat.le_of_ble_eq_true rfl⟩) (kx_preV hPc hKc hDc 0 rfl rfl) rfl rfl hl.1 rfl (lv_room (Nat.le_of_ble_eq_true rfl)) d_xReader_passBracket_9 ⟨Nat.le_of_ble_eq_true rfl, Nat.le_of_ble_eq_true rfl⟩) hS (fun q _ h => hFc q h) hFc (fun u t H1 locs ht hvm hw hB hz1 hk1 hS => ?_)
  obtain ⟨hP1, hK1, hD1⟩ := hB
  rw [ht] at hP1
  obtain ⟨hP, hD⟩ := va_join (wr := [(q_o, .inr (4, f_Reader q_o_text q_o_pen q_o_numbers v_o_at v_o_wrong (1 : Int32)))]) (w1 := [(q_o_pen, .inr (3, f_Pen q_o_pen_matrices q_o_pen_points q_o_pen_drawn v_o_pen_x_9 v_o_pen_y_9 v_o_pen_startX v_o_pen_startY v_o_pen_controlX v_o_pen_controlY v_o_pen_controlFor_9))]) hP hD [1] [0] rfl rfl (by decide) (by decide) hk1 hFc hP1 hD1
  have hP := hP.sub (ws' := [(q_o, .inr (4, f_Reader q_o_text q_o_pen q_o_numbers v_o_at v_o_wrong (1 : Int32))), (q_o_pen, .inr (3, f_Pen q_o_pen_matrices q_o_pen_points q_o_pen_drawn v_o_pen_x_9 v_o_pen_y_9 v_o_pen_startX v_o_pen_startY v_o_pen_controlX v_o_pen_controlY v_o_pen_controlFor_9))]) [0, 1] rfl
  have hD := hD.sub (ws' := [(q_o, .inr (4, f_Reader q_o_text q_o_pen q_o_numbers v_o_at v_o_wrong (1 : Int32))), (q_o_pen, .inr (3, f_Pen q_o_pen_matrices q_o_pen_points q_o_pen_drawn v_o_pen_x_9 v_o_pen_y_9 v_o_pen_startX v_o_pen_startY v_o_pen_controlX v_o_pen_controlY v_o_pen_controlFor_9))]) [0, 1] (by decide) rfl
  clear hP1 hK1 hD1 hk1 hPc hDc hKc hFc hz1 hvm ht hz
  generalize H1 = H at hP hS ⊢
  obtain ⟨e_0, e_1, e_2, e_3⟩ := kr4 hf
  exact hRet 12 _ _ _ d_xReader_passBracket_12 (by rw [← e_0, ← e_1, ← e_2, ← e_3]; exact hP) (by rw [← e_0, ← e_1, ← e_2, ← e_3]; exact hD) hS
set_option maxHeartbeats 4000000 in
set_option maxRecDepth 100000 in
theorem ct_xReader_numbersBehind (l : Launch) (dC : Nat → ClassId) (dI : Nat → Nat → Nat) (sz : Nat) (x0 : Int32) (rv : Int32) (hf : xReader_numbersBehind x0 = some rv) : Met l y_xReader_numbersBehind w_xReader_numbersBehind ({ frames := 0, cells := 0, slots := 0, locals := 0 }) (va_Pc [.int x0] (fun U => U.heap.size = sz ∧ va_P (dC, dI) clz [] U.heap ∧ va_K (dC, dI) clz [] U ∧ va_D (fun _ => True) [])) (va_Qi (fun (r9 : Int32) (_ : Unit) => r9 = rv) (fun _ t => va_P (dC, dI) clz [] t.heap ∧ va_K (dC, dI) clz [] t ∧ va_D (va_A [] sz) []) (va_A [] sz)) 0 0 (va_A [] sz) := by
  refine Met.ofW (cc := prog_6_method_7_code) (maxL := 1) (ret := (some .int)) (by decide +kernel) rfl ?_
  intro p e s m args below meth c s₁ B hml hv
  obtain ⟨hargs, hsz, hP, hK, hD0⟩ := hv
  have hx := B.exec
  have hb := B.bytes
  have hr := B.returns
  have hts := atoms_spec (ws := w_xReader_numbersBehind) B.pre
  have hown : s.vm.findClass "PathTexts$Reader" = some m.cls := findClass_of_methodNamed B.named
  have hlocks := B.notSynchronized
  subst hsz
  have hD := hD0.self (sz := s.heap.size)
  generalize hAe : va_A [] s.heap.size = A at hD ⊢
  have hA : ∀ q : Nat, s.heap.size ≤ q → A q := fun q h => by rw [← hAe]; exact Or.inr h
  clear hAe hD0
  have hS : va_S A s.heap s.heap [] := va_S.rf
  have hl := lv_entry ([.int x0]) (n := 1) (Nat.le_of_ble_eq_true rfl)
  have hent : entryFrame m args 1 = F0 m 0 (lg_sl ([.int x0]) ++ List.replicate (1 - (lg_sl ([.int x0])).length) Slot.unset).toArray [] := by rw [hargs, lg_entry_eq]
  rw [hent]
  clear hent hargs
  generalize (lg_sl ([.int x0]) ++ List.replicate (1 - (lg_sl ([.int x0])).length) Slot.unset).toArray = ls at hl ⊢
  have hl : lv_has ls 1 [(0, .int x0)] := hl
  suffices key : ∀ Q : State → Prop, (∀ (pc : Nat) (H : Heap) (locs : List Loc) (ls : Array Slot), decode prog_6_method_7_code pc = .ok (.ireturn, 1) → va_P (dC, dI) clz [] H → va_D A [] → va_S A s.heap H locs → W p l e (headSpec w_xReader_numbersBehind ({ frames := 0, cells := 0, slots := 0, locals := 0 })).room s m args below meth c H locs 0 0 Q (F0 m pc ls [.int rv])) → W p l e (headSpec w_xReader_numbersBehind ({ frames := 0, cells := 0, slots := 0, locals := 0 })).room s m args below meth c s.heap [] 0 0 Q (F0 m 0 ls []) from key _ (fun pc H locs ls hd hP hD hS => W.iret hx hb hr (fun t ht hW => ⟨⟨rv, (), rfl, rfl, by rw [ht]; exact hP, va_K.moved hW.alike hK, hD⟩, hS.F ht⟩) hS.2.2 hd)
  intro Q hRet
  rw [xReader_numbersBehind] at hf
  refine lv_iload_n (pc := 0) hx hb d_xReader_numbersBehind_0 rfl (lv_at hl 0 rfl) ?_
  by_cases hc67 : x0 = (67 : Int32)
  · rw [if_pos hc67] at hf
    refine lv_tableIn (pc := 1) (tgt := 120) hx hb d_xReader_numbersBehind_1 (by rw [hc67]; decide) (by rw [hc67]; decide) (by rw [hc67]; rfl) (by decide) ?_
    refine lv_bipush (pc := 120) (v := (6 : Int32)) hx hb d_xReader_numbersBehind_120 (by decide) ?_
    have e_0 := kr1 hf
    rw [e_0]
    exact hRet 122 _ _ _ d_xReader_numbersBehind_122 hP hD hS
  rw [if_neg hc67] at hf
  by_cases hc72 : x0 = (72 : Int32)
  · rw [if_pos hc72] at hf
    refine lv_tableIn (pc := 1) (tgt := 114) hx hb d_xReader_numbersBehind_1 (by rw [hc72]; decide) (by rw [hc72]; decide) (by rw [hc72]; rfl) (by decide) ?_
    refine lv_iconst (pc := 114) (v := (1 : Int32)) hx hb d_xReader_numbersBehind_114 (by decide) ?_
    have e_0 := kr1 hf
    rw [e_0]
    exact hRet 115 _ _ _ d_xReader_numbersBehind_115 hP hD hS
  rw [if_neg hc72] at hf
  by_cases hc76 : x0 = (76 : Int32)
  · rw [if_pos hc76] at hf
    refine lv_tableIn (pc := 1) (tgt := 116) hx hb d_xReader_numbersBehind_1 (by rw [hc76]; decide) (by rw [hc76]; decide) (by rw [hc76]; rfl) (by decide) ?_
    refine lv_iconst (pc := 116) (v := (2 : Int32)) hx hb d_xReader_numbersBehind_116 (by decide) ?_
    have e_0 := kr1 hf
    rw [e_0]
    exact hRet 117 _ _ _ d_xReader_numbersBehind_117 hP hD hS
  rw [if_neg hc76] at hf
  by_cases hc77 : x0 = (77 : Int32)
  · rw [if_pos hc77] at hf
    refine lv_tableIn (pc := 1) (tgt := 116) hx hb d_xReader_numbersBehind_1 (by rw [hc77]; decide) (by rw [hc77]; decide) (by rw [hc77]; rfl) (by decide) ?_
    refine lv_iconst (pc := 116) (v := (2 : Int32)) hx hb d_xReader_numbersBehind_116 (by decide) ?_
    have e_0 := kr1 hf
    rw [e_0]
    exact hRet 117 _ _ _ d_xReader_numbersBehind_117 hP hD hS
  rw [if_neg hc77] at hf
  by_cases hc81 : x0 = (81 : Int32)
  · rw [if_pos hc81] at hf
    refine lv_tableIn (pc := 1) (tgt := 118) hx hb d_xReader_numbersBehind_1 (by rw [hc81]; decide) (by rw [hc81]; decide) (by rw [hc81]; rfl) (by decide) ?_
    refine lv_iconst (pc := 118) (v := (4 : Int32)) hx hb d_xReader_numbersBehind_118 (by decide) ?_
    have e_0 := kr1 hf
    rw [e_0]
    exact hRet 119 _ _ _ d_xReader_numbersBehind_119 hP hD hS
  rw [if_neg hc81] at hf
  by_cases hc83 : x0 = (83 : Int32)
  · rw [if_pos hc83] at hf
    refine lv_tableIn (pc := 1) (tgt := 118) hx hb d_xReader_numbersBehind_1 (by rw [hc83]; decide) (by rw [hc83]; decide) (by rw [hc83]; rfl) (by decide) ?_
    refine lv_iconst (pc := 118) (v := (4 : Int32)) hx hb d_xReader_numbersBehind_118 (by decide) ?_
    have e_0 := kr1 hf
    rw [e_0]
    exact hRet 119 _ _ _ d_xReader_numbersBehind_119 hP hD hS
  rw [if_neg hc83] at hf
  by_cases hc84 : x0 = (84 : Int32)
  · rw [if_pos hc84] at hf
    refine lv_tableIn (pc := 1) (tgt := 116) hx hb d_xReader_numbersBehind_1 (by rw [hc84]; decide) (by rw [hc84]; decide) (by rw [hc84]; rfl) (by decide) ?_
    refine lv_iconst (pc := 116) (v := (2 : Int32)) hx hb d_xReader_numbersBehind_116 (by decide) ?_
    have e_0 := kr1 hf
    rw [e_0]
    exact hRet 117 _ _ _ d_xReader_numbersBehind_117 hP hD hS
  rw [if_neg hc84] at hf
  by_cases hc86 : x0 = (86 : Int32)
  · rw [if_pos hc86] at hf
    refine lv_tableIn (pc := 1) (tgt := 114) hx hb d_xReader_numbersBehind_1 (by rw [hc86]; decide) (by rw [hc86]; decide) (by rw [hc86]; rfl) (by decide) ?_
    refine lv_iconst (pc := 114) (v := (1 : Int32)) hx hb d_xReader_numbersBehind_114 (by decide) ?_
    have e_0 := kr1 hf
    rw [e_0]
    exact hRet 115 _ _ _ d_xReader_numbersBehind_115 hP hD hS
  rw [if_neg hc86] at hf
  by_cases hc90 : x0 = (90 : Int32)
  · rw [if_pos hc90] at hf
    refine lv_tableIn (pc := 1) (tgt := 112) hx hb d_xReader_numbersBehind_1 (by rw [hc90]; decide) (by rw [hc90]; decide) (by rw [hc90]; rfl) (by decide) ?_
    refine lv_iconst (pc := 112) (v := (0 : Int32)) hx hb d_xReader_numbersBehind_112 (by decide) ?_
    have e_0 := kr1 hf
    rw [e_0]
    exact hRet 113 _ _ _ d_xReader_numbersBehind_113 hP hD hS
  rw [if_neg hc90] at hf
  have hn67 := lv_neT hc67 (a := 67) (by decide)
  have hn72 := lv_neT hc72 (a := 72) (by decide)
  have hn76 := lv_neT hc76 (a := 76) (by decide)
  have hn77 := lv_neT hc77 (a := 77) (by decide)
  have hn81 := lv_neT hc81 (a := 81) (by decide)
  have hn83 := lv_neT hc83 (a := 83) (by decide)
  have hn84 := lv_neT hc84 (a := 84) (by decide)
  have hn86 := lv_neT hc86 (a := 86) (by decide)
  have hn90 := lv_neT hc90 (a := 90) (by decide)
  by_cases hr9 : x0.toInt < 67 ∨ 90 < x0.toInt
  · refine lv_tableOut (pc := 1) (tgt := 123) hx hb d_xReader_numbersBehind_1 hr9 (by decide) ?_
    refine lv_iconst (pc := 123) (v := (-1 : Int32)) hx hb d_xReader_numbersBehind_123 (by decide) ?_
    have e_0 := kr1 hf
    rw [e_0]
    exact hRet 124 _ _ _ d_xReader_numbersBehind_124 hP hD hS
  · obtain ⟨k9, hk9, hk8⟩ : ∃ k9 : Nat, k9 < 24 ∧ x0.toInt = 67 + (k9 : Int) := ⟨(x0.toInt - 67).toNat, by omega, by omega⟩
    have hk7 : k9 ≠ 0 ∧ k9 ≠ 5 ∧ k9 ≠ 9 ∧ k9 ≠ 10 ∧ k9 ≠ 14 ∧ k9 ≠ 16 ∧ k9 ≠ 17 ∧ k9 ≠ 19 ∧ k9 ≠ 23 := by omega
    have kq : ∀ k : Nat, k < 24 → (k ≠ 0 ∧ k ≠ 5 ∧ k ≠ 9 ∧ k ≠ 10 ∧ k ≠ 14 ∧ k ≠ 16 ∧ k ≠ 17 ∧ k ≠ 19 ∧ k ≠ 23) → (#[119, 122, 122, 122, 122, 113, 122, 122, 122, 115, 115, 122, 122, 122, 117, 122, 117, 115, 122, 113, 122, 122, 122, 111] : Array Int)[k]? = some 122 := by decide
    refine lv_tableIn (pc := 1) (off := 122) (tgt := 123) hx hb d_xReader_numbersBehind_1 (by omega) (by omega) (by rw [hk8, show (67 + (k9 : Int) - 67).toNat = k9 by omega]; exact kq k9 hk9 hk7) (by decide) ?_
    refine lv_iconst (pc := 123) (v := (-1 : Int32)) hx hb d_xReader_numbersBehind_123 (by decide) ?_
    have e_0 := kr1 hf
    rw [e_0]
    exact hRet 124 _ _ _ d_xReader_numbersBehind_124 hP hD hS
set_option maxHeartbeats 4000000 in
set_option maxRecDepth 100000 in
theorem ct_xReader_isDigit (l : Launch) (dC : Nat → ClassId) (dI : Nat → Nat → Nat) (sz : Nat) (x0 : Int32) (rv : Int32) (hf : xReader_isDigit x0 = some rv) : Met l y_xReader_isDigit w_xReader_isDigit ({ frames := 0, cells := 0, slots := 0, locals := 0 }) (va_Pc [.int x0] (fun U => U.heap.size = sz ∧ va_P (dC, dI) clz [] U.heap ∧ va_K (dC, dI) clz [] U ∧ va_D (fun _ => True) [])) (va_Qi (fun (r9 : Int32) (_ : Unit) => r9 = rv) (fun _ t => va_P (dC, dI) clz [] t.heap ∧ va_K (dC, dI) clz [] t ∧ va_D (va_A [] sz) []) (va_A [] sz)) 0 0 (va_A [] sz) := by
  refine Met.ofW (cc := prog_6_method_11_code) (maxL := 1) (ret := (some .boolean)) (by decide +kernel) rfl ?_
  intro p e s m args below meth c s₁ B hml hv
  obtain ⟨hargs, hsz, hP, hK, hD0⟩ := hv
  have hx := B.exec
  have hb := B.bytes
  have hr := B.returns
  have hts := atoms_spec (ws := w_xReader_isDigit) B.pre
  have hown : s.vm.findClass "PathTexts$Reader" = some m.cls := findClass_of_methodNamed B.named
  have hlocks := B.notSynchronized
  subst hsz
  have hD := hD0.self (sz := s.heap.size)
  generalize hAe : va_A [] s.heap.size = A at hD ⊢
  have hA : ∀ q : Nat, s.heap.size ≤ q → A q := fun q h => by rw [← hAe]; exact Or.inr h
  clear hAe hD0
  have hS : va_S A s.heap s.heap [] := va_S.rf
  have hl := lv_entry ([.int x0]) (n := 1) (Nat.le_of_ble_eq_true rfl)
  have hent : entryFrame m args 1 = F0 m 0 (lg_sl ([.int x0]) ++ List.replicate (1 - (lg_sl ([.int x0])).length) Slot.unset).toArray [] := by rw [hargs, lg_entry_eq]
  rw [hent]
  clear hent hargs
  generalize (lg_sl ([.int x0]) ++ List.replicate (1 - (lg_sl ([.int x0])).length) Slot.unset).toArray = ls at hl ⊢
  have hl : lv_has ls 1 [(0, .int x0)] := hl
  suffices key : ∀ Q : State → Prop, (∀ (hn9 : narrow .boolean (.int rv) = .int rv) (pc : Nat) (H : Heap) (locs : List Loc) (ls : Array Slot), decode prog_6_method_11_code pc = .ok (.ireturn, 1) → va_P (dC, dI) clz [] H → va_D A [] → va_S A s.heap H locs → W p l e (headSpec w_xReader_isDigit ({ frames := 0, cells := 0, slots := 0, locals := 0 })).room s m args below meth c H locs 0 0 Q (F0 m pc ls [.int rv])) → W p l e (headSpec w_xReader_isDigit ({ frames := 0, cells := 0, slots := 0, locals := 0 })).room s m args below meth c s.heap [] 0 0 Q (F0 m 0 ls []) from key _ (fun hn9 pc H locs ls hd hP hD hS => W.zret hx hb hr hn9 (fun t ht hW => ⟨⟨rv, (), rfl, rfl, by rw [ht]; exact hP, va_K.moved hW.alike hK, hD⟩, hS.F ht⟩) hS.2.2 hd)
  intro Q hRet
  rw [xReader_isDigit] at hf
  refine lv_iload_n (pc := 0) hx hb d_xReader_isDigit_0 rfl (lv_at hl 0 rfl) ?_
  refine lv_bipush (pc := 1) (v := (48 : Int32)) hx hb d_xReader_isDigit_1 (by decide) ?_
  refine lv_icmp_lt (pc := 3) (tgt := 16) hx hb d_xReader_isDigit_3 (by decide) (fun hc => ?_) (fun hc => ?_)
  · rw [if_pos hc] at hf
    refine lv_iconst (pc := 16) (v := (0 : Int32)) hx hb d_xReader_isDigit_16 (by decide) ?_
    have e_0 := kr1 hf
    rw [e_0]
    exact hRet (by rw [← e_0]; exact (by decide)) 17 _ _ _ d_xReader_isDigit_17 hP hD hS
  · rw [if_neg hc] at hf
    refine lv_iload_n (pc := 6) hx hb d_xReader_isDigit_6 rfl (lv_at hl 0 rfl) ?_
    refine lv_bipush (pc := 7) (v := (57 : Int32)) hx hb d_xReader_isDigit_7 (by decide) ?_
    refine lv_icmp_gt (pc := 9) (tgt := 16) hx hb d_xReader_isDigit_9 (by decide) (fun hc => ?_) (fun hc => ?_)
    · rw [if_pos hc] at hf
      refine lv_iconst (pc := 16) (v := (0 : Int32)) hx hb d_xReader_isDigit_16 (by decide) ?_
      have e_0 := kr1 hf
      rw [e_0]
      exact hRet (by rw [← e_0]; exact (by decide)) 17 _ _ _ d_xReader_isDigit_17 hP hD hS
    · rw [if_neg hc] at hf
      refine lv_iconst (pc := 12) (v := (1 : Int32)) hx hb d_xReader_isDigit_12 (by decide) ?_
      refine lv_goto (pc := 13) (tgt := 17) hx hb d_xReader_isDigit_13 (by decide) ?_
      have e_0 := kr1 hf
      rw [e_0]
      exact hRet (by rw [← e_0]; exact (by decide)) 17 _ _ _ d_xReader_isDigit_17 hP hD hS
set_option maxHeartbeats 4000000 in
set_option maxRecDepth 100000 in
theorem ct_xReader_passBlanks (l : Launch) (dC : Nat → ClassId) (dI : Nat → Nat → Nat) (q_o : Nat) (q_o_text : Nat) (q_o_pen : Nat) (q_o_numbers : Nat) (q_o_text_characters : Nat) (k_o_text_characters : ClassId) (sz : Nat) (N : Nat) (v_o_at : Int32) (v_o_wrong : Int32) (v_o_moveIsDue : Int32) (v_o_text_length : Int32) (c_o_text_characters : (Nat → Int32)) (v_o_at_z : Int32) (hf : xReader_passBlanks N v_o_at v_o_text_length c_o_text_characters = some v_o_at_z) : Met l y_xReader_passBlanks w_xReader_passBlanks ({ frames := 1, cells := 0, slots := 0, locals := 21 }) (va_Pc [.ref q_o] (fun U => U.heap.size = sz ∧ va_P (dC, dI) clz [(q_o, .inr (4, f_Reader q_o_text q_o_pen q_o_numbers v_o_at v_o_wrong v_o_moveIsDue)), (q_o_text, .inr (5, f_Row q_o_text_characters v_o_text_length)), (q_o_text_characters, .inl (k_o_text_characters, 1200, .inl c_o_text_characters))] U.heap ∧ va_K (dC, dI) clz [(k_o_text_characters, .char)] U ∧ va_D (fun _ => True) [(q_o, .inr (4, f_Reader q_o_text q_o_pen q_o_numbers v_o_at v_o_wrong v_o_moveIsDue)), (q_o_text, .inr (5, f_Row q_o_text_characters v_o_text_length)), (q_o_text_characters, .inl (k_o_text_characters, 1200, .inl c_o_text_characters))])) (va_Qv (fun _ : Unit => True) (fun _ t => va_P (dC, dI) clz [(q_o, .inr (4, f_Reader q_o_text q_o_pen q_o_numbers v_o_at_z v_o_wrong v_o_moveIsDue)), (q_o_text, .inr (5, f_Row q_o_text_characters v_o_text_length)), (q_o_text_characters, .inl (k_o_text_characters, 1200, .inl c_o_text_characters))] t.heap ∧ va_K (dC, dI) clz [(k_o_text_characters, .char)] t ∧ va_D (va_A [(q_o, .inr (4, f_Reader q_o_text q_o_pen q_o_numbers v_o_at v_o_wrong v_o_moveIsDue)), (q_o_text, .inr (5, f_Row q_o_text_characters v_o_text_length)), (q_o_text_characters, .inl (k_o_text_characters, 1200, .inl c_o_text_characters))] sz) [(q_o, .inr (4, f_Reader q_o_text q_o_pen q_o_numbers v_o_at_z v_o_wrong v_o_moveIsDue)), (q_o_text, .inr (5, f_Row q_o_text_characters v_o_text_length)), (q_o_text_characters, .inl (k_o_text_characters, 1200, .inl c_o_text_characters))]) (va_A [(q_o, .inr (4, f_Reader q_o_text q_o_pen q_o_numbers v_o_at v_o_wrong v_o_moveIsDue)), (q_o_text, .inr (5, f_Row q_o_text_characters v_o_text_length)), (q_o_text_characters, .inl (k_o_text_characters, 1200, .inl c_o_text_characters))] sz)) 0 0 (va_A [(q_o, .inr (4, f_Reader q_o_text q_o_pen q_o_numbers v_o_at v_o_wrong v_o_moveIsDue)), (q_o_text, .inr (5, f_Row q_o_text_characters v_o_text_length)), (q_o_text_characters, .inl (k_o_text_characters, 1200, .inl c_o_text_characters))] sz) := by
  refine Met.ofW (cc := prog_6_method_12_code) (maxL := 1) (ret := none) (by decide +kernel) rfl ?_
  intro p e s m args below meth c s₁ B hml hv
  obtain ⟨hargs, hsz, hP, hK, hD0⟩ := hv
  have hx := B.exec
  have hb := B.bytes
  have hr := B.returns
  have hts := atoms_spec (ws := w_xReader_passBlanks) B.pre
  have hown : s.vm.findClass "PathTexts$Reader" = some m.cls := findClass_of_methodNamed B.named
  have hlocks := B.notSynchronized
  subst hsz
  have hD := hD0.self (sz := s.heap.size)
  generalize hAe : va_A [(q_o, .inr (4, f_Reader q_o_text q_o_pen q_o_numbers v_o_at v_o_wrong v_o_moveIsDue)), (q_o_text, .inr (5, f_Row q_o_text_characters v_o_text_length)), (q_o_text_characters, .inl (k_o_text_characters, 1200, .inl c_o_text_characters))] s.heap.size = A at hD ⊢
  have hA : ∀ q : Nat, s.heap.size ≤ q → A q := fun q h => by rw [← hAe]; exact Or.inr h
  clear hAe hD0
  have hS : va_S A s.heap s.heap [] := va_S.rf
  have hl := lv_entry ([.ref q_o]) (n := 1) (Nat.le_of_ble_eq_true rfl)
  have hent : entryFrame m args 1 = F0 m 0 (lg_sl ([.ref q_o]) ++ List.replicate (1 - (lg_sl ([.ref q_o])).length) Slot.unset).toArray [] := by rw [hargs, lg_entry_eq]
  rw [hent]
  clear hent hargs
  generalize (lg_sl ([.ref q_o]) ++ List.replicate (1 - (lg_sl ([.ref q_o])).length) Slot.unset).toArray = ls at hl ⊢
  have hl : lv_has ls 1 [(0, .ref q_o)] := hl
  suffices key : ∀ Q : State → Prop, (∀ (pc : Nat) (H : Heap) (locs : List Loc) (ls : Array Slot), decode prog_6_method_12_code pc = .ok (.return_, 1) → va_P (dC, dI) clz [(q_o, .inr (4, f_Reader q_o_text q_o_pen q_o_numbers v_o_at_z v_o_wrong v_o_moveIsDue)), (q_o_text, .inr (5, f_Row q_o_text_characters v_o_text_length)), (q_o_text_characters, .inl (k_o_text_characters, 1200, .inl c_o_text_characters))] H → va_D A [(q_o, .inr (4, f_Reader q_o_text q_o_pen q_o_numbers v_o_at_z v_o_wrong v_o_moveIsDue)), (q_o_text, .inr (5, f_Row q_o_text_characters v_o_text_length)), (q_o_text_characters, .inl (k_o_text_characters, 1200, .inl c_o_text_characters))] → va_S A s.heap H locs → W p l e (headSpec w_xReader_passBlanks ({ frames := 1, cells := 0, slots := 0, locals := 21 })).room s m args below meth c H locs 0 0 Q (F0 m pc ls [])) → W p l e (headSpec w_xReader_passBlanks ({ frames := 1, cells := 0, slots := 0, locals := 21 })).room s m args below meth c s.heap [] 0 0 Q (F0 m 0 ls []) from key _ (fun pc H locs ls hd hP hD hS => W.vret hx hb hr (fun t ht hW => ⟨⟨(), rfl, trivial, by rw [ht]; exact hP, va_K.moved hW.alike hK, hD⟩, hS.F ht⟩) hS.2.2 hd)
  intro Q hRet
  have hb46 : ∀ (k0 : Int32 → Int32 → (Nat → Int32) → Option (Int32)), (∀ (v_o_at : Int32) (H : Heap) (locs : List Loc) (ls : Array Slot), k0 v_o_at v_o_text_length c_o_text_characters = some v_o_at_z → va_P (dC, dI) clz [(q_o, .inr (4, f_Reader q_o_text q_o_pen q_o_numbers v_o_at v_o_wrong v_o_moveIsDue)), (q_o_text, .inr (5, f_Row q_o_text_characters v_o_text_length)), (q_o_text_characters, .inl (k_o_text_characters, 1200, .inl c_o_text_characters))] H → va_D A [(q_o, .inr (4, f_Reader q_o_text q_o_pen q_o_numbers v_o_at v_o_wrong v_o_moveIsDue)), (q_o_text, .inr (5, f_Row q_o_text_characters v_o_text_length)), (q_o_text_characters, .inl (k_o_text_characters, 1200, .inl c_o_text_characters))] → va_S A s.heap H locs → lv_has ls 1 [(0, .ref q_o)] → W p l e (headSpec w_xReader_passBlanks ({ frames := 1, cells := 0, slots := 0, locals := 21 })).room s m args below meth c H locs 0 0 Q (F0 m 0 ls [])) → ∀ (v_o_at : Int32) (H : Heap) (locs : List Loc) (ls : Array Slot), xReader_passBlanks_b46 N k0 v_o_at v_o_text_length c_o_text_characters = some v_o_at_z → va_P (dC, dI) clz [(q_o, .inr (4, f_Reader q_o_text q_o_pen q_o_numbers v_o_at v_o_wrong v_o_moveIsDue)), (q_o_text, .inr (5, f_Row q_o_text_characters v_o_text_length)), (q_o_text_characters, .inl (k_o_text_characters, 1200, .inl c_o_text_characters))] H → va_D A [(q_o, .inr (4, f_Reader q_o_text q_o_pen q_o_numbers v_o_at v_o_wrong v_o_moveIsDue)), (q_o_text, .inr (5, f_Row q_o_text_characters v_o_text_length)), (q_o_text_characters, .inl (k_o_text_characters, 1200, .inl c_o_text_characters))] → va_S A s.heap H locs → lv_has ls 1 [(0, .ref q_o)] → W p l e (headSpec w_xReader_passBlanks ({ frames := 1, cells := 0, slots := 0, locals := 21 })).room s m args below meth c H locs 0 0 Q (F0 m 46 ls []) := by
    intro k0 hk0
    intro v_o_at H locs ls hf hP hD hS hl
    rw [xReader_passBlanks_b46] at hf
    refine lv_aload_n (pc := 46) hx hb d_xReader_passBlanks_46 rfl (lv_at hl 0 rfl) ?_
    refine lv_dup (pc := 47) hx hb d_xReader_passBlanks_47 rfl ?_
    refine va_get (pc := 48) (D := (dC, dI)) (ci := 4) (v := .int v_o_at) (C := "PathTexts$Reader") (T := F_Reader) (N := 6) hx hb hts (fun w h => List.mem_cons_of_mem _ (in_Reader w h)) hown hK hP 0 rfl rfl 3 (by decide) (hts _ (List.mem_cons_of_mem _ kw_106)) (fun _ h9 => h9) fg_Reader_3 d_xReader_passBlanks_48 ?_
    refine lv_iconst (pc := 51) (v := (1 : Int32)) hx hb d_xReader_passBlanks_51 (by decide) ?_
    refine lv_iadd (pc := 52) hx hb d_xReader_passBlanks_52 ?_
    refine kx_put (pc := 53) (D := (dC, dI)) (ci := 4) (v := .int (v_o_at + (1 : Int32))) (ty := .int) (C := "PathTexts$Reader") (T := F_Reader) (N := 6) hx hb hts (fun w h => List.mem_cons_of_mem _ (in_Reader w h)) t_Reader tk_Reader n_Reader hown hK hP hD hS 0 rfl rfl 3 (by decide) (hts _ (List.mem_cons_of_mem _ kw_106)) (fun _ h9 => h9) rfl (tk_Reader 3 (by decide)) rfl rfl fl_Reader_3 fs_Reader_3 (ws' := [(q_o, .inr (4, f_Reader q_o_text q_o_pen q_o_numbers (v_o_at + (1 : Int32)) v_o_wrong v_o_moveIsDue)), (q_o_text, .inr (5, f_Row q_o_text_characters v_o_text_length)), (q_o_text_characters, .inl (k_o_text_characters, 1200, .inl c_o_text_characters))]) rfl d_xReader_passBlanks_53 (fun H locs hP hD hS => ?_)
    refine lv_goto (pc := 56) (tgt := 0) hx hb d_xReader_passBlanks_56 (by decide) ?_
    exact hk0 (v_o_at + (1 : Int32)) _ _ _ hf hP hD hS (lv_sub hl [0] rfl)
  have hB0 : ∀ (k0 : Int32 → Int32 → (Nat → Int32) → Option (Int32)), (∀ (v_o_at : Int32) (H : Heap) (locs : List Loc) (ls : Array Slot), k0 v_o_at v_o_text_length c_o_text_characters = some v_o_at_z → va_P (dC, dI) clz [(q_o, .inr (4, f_Reader q_o_text q_o_pen q_o_numbers v_o_at v_o_wrong v_o_moveIsDue)), (q_o_text, .inr (5, f_Row q_o_text_characters v_o_text_length)), (q_o_text_characters, .inl (k_o_text_characters, 1200, .inl c_o_text_characters))] H → va_D A [(q_o, .inr (4, f_Reader q_o_text q_o_pen q_o_numbers v_o_at v_o_wrong v_o_moveIsDue)), (q_o_text, .inr (5, f_Row q_o_text_characters v_o_text_length)), (q_o_text_characters, .inl (k_o_text_characters, 1200, .inl c_o_text_characters))] → va_S A s.heap H locs → lv_has ls 1 [(0, .ref q_o)] → W p l e (headSpec w_xReader_passBlanks ({ frames := 1, cells := 0, slots := 0, locals := 21 })).room s m args below meth c H locs 0 0 Q (F0 m 0 ls [])) → ∀ (v_o_at : Int32) (H : Heap) (locs : List Loc) (ls : Array Slot), xReader_passBlanks_B0 N k0 v_o_at v_o_text_length c_o_text_characters = some v_o_at_z → va_P (dC, dI) clz [(q_o, .inr (4, f_Reader q_o_text q_o_pen q_o_numbers v_o_at v_o_wrong v_o_moveIsDue)), (q_o_text, .inr (5, f_Row q_o_text_characters v_o_text_length)), (q_o_text_characters, .inl (k_o_text_characters, 1200, .inl c_o_text_characters))] H → va_D A [(q_o, .inr (4, f_Reader q_o_text q_o_pen q_o_numbers v_o_at v_o_wrong v_o_moveIsDue)), (q_o_text, .inr (5, f_Row q_o_text_characters v_o_text_length)), (q_o_text_characters, .inl (k_o_text_characters, 1200, .inl c_o_text_characters))] → va_S A s.heap H locs → lv_has ls 1 [(0, .ref q_o)] → W p l e (headSpec w_xReader_passBlanks ({ frames := 1, cells := 0, slots := 0, locals := 21 })).room s m args below meth c H locs 0 0 Q (F0 m 0 ls []) := by
    intro k0 hk0
    intro v_o_at H locs ls hf hP hD hS hl
    rw [xReader_passBlanks_B0] at hf
    refine lv_aload_n (pc := 0) hx hb d_xReader_passBlanks_0 rfl (lv_at hl 0 rfl) ?_
    refine va_get (pc := 1) (D := (dC, dI)) (ci := 4) (v := .int v_o_at) (C := "PathTexts$Reader") (T := F_Reader) (N := 6) hx hb hts (fun w h => List.mem_cons_of_mem _ (in_Reader w h)) hown hK hP 0 rfl rfl 3 (by decide) (hts _ (List.mem_cons_of_mem _ kw_106)) (fun _ h9 => h9) fg_Reader_3 d_xReader_passBlanks_1 ?_
    refine lv_aload_n (pc := 4) hx hb d_xReader_passBlanks_4 rfl (lv_at hl 0 rfl) ?_
    refine va_get (pc := 5) (D := (dC, dI)) (ci := 4) (v := .ref q_o_text) (C := "PathTexts$Reader") (T := F_Reader) (N := 6) hx hb hts (fun w h => List.mem_cons_of_mem _ (in_Reader w h)) hown hK hP 0 rfl rfl 0 (by decide) (hts _ (List.mem_cons_of_mem _ kw_103)) (fun _ h9 => h9) fg_Reader_0 d_xReader_passBlanks_5 ?_
    refine va_get (pc := 8) (D := (dC, dI)) (ci := 5) (v := .int v_o_text_length) (C := "PathTexts$Row") (T := F_Row) (N := 2) hx hb hts (fun w h => List.mem_cons_of_mem _ (in_Row w h)) hown hK hP 1 rfl rfl 1 (by decide) (hts _ (List.mem_cons_of_mem _ kw_36)) (fun _ h9 => h9) fg_Row_1 d_xReader_passBlanks_8 ?_
    refine lv_icmp_ge (pc := 11) (tgt := 59) hx hb d_xReader_passBlanks_11 (by decide) (fun hc => ?_) (fun hc => ?_)
    · rw [if_pos hc] at hf
      have e_0 := kr1 hf
      exact hRet 59 _ _ _ d_xReader_passBlanks_59 (by rw [← e_0]; exact hP) (by rw [← e_0]; exact hD) hS
    · rw [if_neg hc] at hf
      refine lv_aload_n (pc := 14) hx hb d_xReader_passBlanks_14 rfl (lv_at hl 0 rfl) ?_
      refine va_get (pc := 15) (D := (dC, dI)) (ci := 4) (v := .ref q_o_text) (C := "PathTexts$Reader") (T := F_Reader) (N := 6) hx hb hts (fun w h => List.mem_cons_of_mem _ (in_Reader w h)) hown hK hP 0 rfl rfl 0 (by decide) (hts _ (List.mem_cons_of_mem _ kw_103)) (fun _ h9 => h9) fg_Reader_0 d_xReader_passBlanks_15 ?_
      refine lv_aload_n (pc := 18) hx hb d_xReader_passBlanks_18 rfl (lv_at hl 0 rfl) ?_
      refine va_get (pc := 19) (D := (dC, dI)) (ci := 4) (v := .int v_o_at) (C := "PathTexts$Reader") (T := F_Reader) (N := 6) hx hb hts (fun w h => List.mem_cons_of_mem _ (in_Reader w h)) hown hK hP 0 rfl rfl 3 (by decide) (hts _ (List.mem_cons_of_mem _ kw_106)) (fun _ h9 => h9) fg_Reader_3 d_xReader_passBlanks_19 ?_
      obtain ⟨r22, hz, hf⟩ := kb1_some hf
      have hPc := hP.sub (ws' := [(q_o_text, .inr (5, f_Row q_o_text_characters v_o_text_length)), (q_o_text_characters, .inl (k_o_text_characters, 1200, .inl c_o_text_characters))]) [1, 2] rfl
      have hDc := hD.sub (ws' := [(q_o_text, .inr (5, f_Row q_o_text_characters v_o_text_length)), (q_o_text_characters, .inl (k_o_text_characters, 1200, .inl c_o_text_characters))]) [1, 2] (by decide) rfl
      have hKc := hK.sub (tys' := [(k_o_text_characters, .char)]) [0] rfl
      have hFc := va_free (wc := [(q_o_text, .inr (5, f_Row q_o_text_characters v_o_text_length)), (q_o_text_characters, .inl (k_o_text_characters, 1200, .inl c_o_text_characters))]) hD hS hA [1, 2] rfl
      refine va_calli (pc := 22) (va_runV (As := [.int v_o_at]) (rest := []) ⟨hx, hb, hml, hown, hts⟩ (ct_xRow_at l dC dI q_o_text q_o_text_characters k_o_text_characters _ 1200 v_o_at v_o_text_length c_o_text_characters r22 hz) (cwV 1 hts (kw_in4 kw_232 kw_233 kw_234 kw_2 kw_235) rfl rfl rfl (by decide +kernel) ⟨Nat.le_of_ble_eq_true rfl, Nat.le_of_ble_eq_true rfl⟩) (kx_preV hPc hKc hDc 0 rfl rfl) rfl rfl hl.1 rfl (lv_room (Nat.le_of_ble_eq_true rfl)) d_xReader_passBlanks_22 ⟨Nat.le_of_ble_eq_true rfl, Nat.le_of_ble_eq_true rfl⟩) hS (fun q _ h => hFc q h) hFc (fun r9 u t H1 locs ht hvm hw hB hz1 hk1 hS => ?_)
      obtain ⟨hP1, hK1, hD1⟩ := hB
      rw [ht] at hP1
      have hw := hw.symm
      subst hw
      obtain ⟨hP, hD⟩ := va_join (wr := [(q_o, .inr (4, f_Reader q_o_text q_o_pen q_o_numbers v_o_at v_o_wrong v_o_moveIsDue))]) (w1 := [(q_o_text, .inr (5, f_Row q_o_text_characters v_o_text_length)), (q_o_text_characters, .inl (k_o_text_characters, 1200, .inl c_o_text_characters))]) hP hD [1, 2] [0] rfl rfl (by decide) (by decide) hk1 hFc hP1 hD1
      have hP := hP.sub (ws' := [(q_o, .inr (4, f_Reader q_o_text q_o_pen q_o_numbers v_o_at v_o_wrong v_o_moveIsDue)), (q_o_text, .inr (5, f_Row q_o_text_characters v_o_text_length)), (q_o_text_characters, .inl (k_o_text_characters, 1200, .inl c_o_text_characters))]) [0, 1, 2] rfl
      have hD := hD.sub (ws' := [(q_o, .inr (4, f_Reader q_o_text q_o_pen q_o_numbers v_o_at v_o_wrong v_o_moveIsDue)), (q_o_text, .inr (5, f_Row q_o_text_characters v_o_text_length)), (q_o_text_characters, .inl (k_o_text_characters, 1200, .inl c_o_text_characters))]) [0, 1, 2] (by decide) rfl
      clear hP1 hK1 hD1 hk1 hPc hDc hKc hFc hz1 hvm ht hz
      generalize H1 = H at hP hS ⊢
      refine lv_bipush (pc := 25) (v := (32 : Int32)) hx hb d_xReader_passBlanks_25 (by decide) ?_
      refine lv_icmp_eq (pc := 27) (tgt := 46) hx hb d_xReader_passBlanks_27 (by decide) (fun hc => ?_) (fun hc => ?_)
      · rw [if_pos hc] at hf
        exact hb46 k0 hk0 v_o_at _ _ _ hf hP hD hS (lv_sub hl [0] rfl)
      · rw [if_neg hc] at hf
        refine lv_aload_n (pc := 30) hx hb d_xReader_passBlanks_30 rfl (lv_at hl 0 rfl) ?_
        refine va_get (pc := 31) (D := (dC, dI)) (ci := 4) (v := .ref q_o_text) (C := "PathTexts$Reader") (T := F_Reader) (N := 6) hx hb hts (fun w h => List.mem_cons_of_mem _ (in_Reader w h)) hown hK hP 0 rfl rfl 0 (by decide) (hts _ (List.mem_cons_of_mem _ kw_103)) (fun _ h9 => h9) fg_Reader_0 d_xReader_passBlanks_31 ?_
        refine lv_aload_n (pc := 34) hx hb d_xReader_passBlanks_34 rfl (lv_at hl 0 rfl) ?_
        refine va_get (pc := 35) (D := (dC, dI)) (ci := 4) (v := .int v_o_at) (C := "PathTexts$Reader") (T := F_Reader) (N := 6) hx hb hts (fun w h => List.mem_cons_of_mem _ (in_Reader w h)) hown hK hP 0 rfl rfl 3 (by decide) (hts _ (List.mem_cons_of_mem _ kw_106)) (fun _ h9 => h9) fg_Reader_3 d_xReader_passBlanks_35 ?_
        obtain ⟨r38, hz, hf⟩ := kb1_some hf
        have hPc := hP.sub (ws' := [(q_o_text, .inr (5, f_Row q_o_text_characters v_o_text_length)), (q_o_text_characters, .inl (k_o_text_characters, 1200, .inl c_o_text_characters))]) [1, 2] rfl
        have hDc := hD.sub (ws' := [(q_o_text, .inr (5, f_Row q_o_text_characters v_o_text_length)), (q_o_text_characters, .inl (k_o_text_characters, 1200, .inl c_o_text_characters))]) [1, 2] (by decide) rfl
        have hKc := hK.sub (tys' := [(k_o_text_characters, .char)]) [0] rfl
        have hFc := va_free (wc := [(q_o_text, .inr (5, f_Row q_o_text_characters v_o_text_length)), (q_o_text_characters, .inl (k_o_text_characters, 1200, .inl c_o_text_characters))]) hD hS hA [1, 2] rfl
        refine va_calli (pc := 38) (va_runV (As := [.int v_o_at]) (rest := []) ⟨hx, hb, hml, hown, hts⟩ (ct_xRow_at l dC dI q_o_text q_o_text_characters k_o_text_characters _ 1200 v_o_at v_o_text_length c_o_text_characters r38 hz) (cwV 1 hts (kw_in4 kw_232 kw_233 kw_234 kw_2 kw_235) rfl rfl rfl (by decide +kernel) ⟨Nat.le_of_ble_eq_true rfl, Nat.le_of_ble_eq_true rfl⟩) (kx_preV hPc hKc hDc 0 rfl rfl) rfl rfl hl.1 rfl (lv_room (Nat.le_of_ble_eq_true rfl)) d_xReader_passBlanks_38 ⟨Nat.le_of_ble_eq_true rfl, Nat.le_of_ble_eq_true rfl⟩) hS (fun q _ h => hFc q h) hFc (fun r9 u t H1 locs ht hvm hw hB hz1 hk1 hS => ?_)
        obtain ⟨hP1, hK1, hD1⟩ := hB
        rw [ht] at hP1
        have hw := hw.symm
        subst hw
        obtain ⟨hP, hD⟩ := va_join (wr := [(q_o, .inr (4, f_Reader q_o_text q_o_pen q_o_numbers v_o_at v_o_wrong v_o_moveIsDue))]) (w1 := [(q_o_text, .inr (5, f_Row q_o_text_characters v_o_text_length)), (q_o_text_characters, .inl (k_o_text_characters, 1200, .inl c_o_text_characters))]) hP hD [1, 2] [0] rfl rfl (by decide) (by decide) hk1 hFc hP1 hD1
        have hP := hP.sub (ws' := [(q_o, .inr (4, f_Reader q_o_text q_o_pen q_o_numbers v_o_at v_o_wrong v_o_moveIsDue)), (q_o_text, .inr (5, f_Row q_o_text_characters v_o_text_length)), (q_o_text_characters, .inl (k_o_text_characters, 1200, .inl c_o_text_characters))]) [0, 1, 2] rfl
        have hD := hD.sub (ws' := [(q_o, .inr (4, f_Reader q_o_text q_o_pen q_o_numbers v_o_at v_o_wrong v_o_moveIsDue)), (q_o_text, .inr (5, f_Row q_o_text_characters v_o_text_length)), (q_o_text_characters, .inl (k_o_text_characters, 1200, .inl c_o_text_characters))]) [0, 1, 2] (by decide) rfl
        clear hP1 hK1 hD1 hk1 hPc hDc hKc hFc hz1 hvm ht hz
        generalize H1 = H at hP hS ⊢
        refine lv_bipush (pc := 41) (v := (44 : Int32)) hx hb d_xReader_passBlanks_41 (by decide) ?_
        refine lv_icmp_ne (pc := 43) (tgt := 59) hx hb d_xReader_passBlanks_43 (by decide) (fun hc => ?_) (fun hc => ?_)
        · rw [if_neg hc] at hf
          have e_0 := kr1 hf
          exact hRet 59 _ _ _ d_xReader_passBlanks_59 (by rw [← e_0]; exact hP) (by rw [← e_0]; exact hD) hS
        · rw [if_pos hc] at hf
          exact hb46 k0 hk0 v_o_at _ _ _ hf hP hD hS (lv_sub hl [0] rfl)
  have hL0 : ∀ n : Nat, ∀ (v_o_at : Int32) (H : Heap) (locs : List Loc) (ls : Array Slot), (xReader_passBlanks_L0 N n) v_o_at v_o_text_length c_o_text_characters = some v_o_at_z → va_P (dC, dI) clz [(q_o, .inr (4, f_Reader q_o_text q_o_pen q_o_numbers v_o_at v_o_wrong v_o_moveIsDue)), (q_o_text, .inr (5, f_Row q_o_text_characters v_o_text_length)), (q_o_text_characters, .inl (k_o_text_characters, 1200, .inl c_o_text_characters))] H → va_D A [(q_o, .inr (4, f_Reader q_o_text q_o_pen q_o_numbers v_o_at v_o_wrong v_o_moveIsDue)), (q_o_text, .inr (5, f_Row q_o_text_characters v_o_text_length)), (q_o_text_characters, .inl (k_o_text_characters, 1200, .inl c_o_text_characters))] → va_S A s.heap H locs → lv_has ls 1 [(0, .ref q_o)] → W p l e (headSpec w_xReader_passBlanks ({ frames := 1, cells := 0, slots := 0, locals := 21 })).room s m args below meth c H locs 0 0 Q (F0 m 0 ls []) := by
    intro n
    induction n with
    | zero => intro v_o_at H locs ls hf hP hD hS hl; have hf : none = some v_o_at_z := hf; cases hf
    | succ n ih => exact hB0 (xReader_passBlanks_L0 N n) ih
  rw [xReader_passBlanks] at hf
  exact hL0 N v_o_at _ _ _ hf hP hD hS (lv_sub hl [0] rfl)
set_option maxHeartbeats 4000000 in
set_option maxRecDepth 100000 in
theorem ct_xReader_seeWrong (l : Launch) (dC : Nat → ClassId) (dI : Nat → Nat → Nat) (q_o : Nat) (q_o_text : Nat) (q_o_pen : Nat) (q_o_numbers : Nat) (sz : Nat) (x1 : Int32) (v_o_at : Int32) (v_o_wrong : Int32) (v_o_moveIsDue : Int32) (rv : Int32) (v_o_wrong_z : Int32) (hf : xReader_seeWrong x1 = some (rv, v_o_wrong_z)) : Met l y_xReader_seeWrong w_xReader_seeWrong ({ frames := 0, cells := 0, slots := 0, locals := 0 }) (va_Pc [.ref q_o, .int x1] (fun U => U.heap.size = sz ∧ va_P (dC, dI) clz [(q_o, .inr (4, f_Reader q_o_text q_o_pen q_o_numbers v_o_at v_o_wrong v_o_moveIsDue))] U.heap ∧ va_K (dC, dI) clz [] U ∧ va_D (fun _ => True) [(q_o, .inr (4, f_Reader q_o_text q_o_pen q_o_numbers v_o_at v_o_wrong v_o_moveIsDue))])) (va_Qi (fun (r9 : Int32) (_ : Unit) => r9 = rv) (fun _ t => va_P (dC, dI) clz [(q_o, .inr (4, f_Reader q_o_text q_o_pen q_o_numbers v_o_at v_o_wrong_z v_o_moveIsDue))] t.heap ∧ va_K (dC, dI) clz [] t ∧ va_D (va_A [(q_o, .inr (4, f_Reader q_o_text q_o_pen q_o_numbers v_o_at v_o_wrong v_o_moveIsDue))] sz) [(q_o, .inr (4, f_Reader q_o_text q_o_pen q_o_numbers v_o_at v_o_wrong_z v_o_moveIsDue))]) (va_A [(q_o, .inr (4, f_Reader q_o_text q_o_pen q_o_numbers v_o_at v_o_wrong v_o_moveIsDue))] sz)) 0 0 (va_A [(q_o, .inr (4, f_Reader q_o_text q_o_pen q_o_numbers v_o_at v_o_wrong v_o_moveIsDue))] sz) := by
  refine Met.ofW (cc := prog_6_method_13_code) (maxL := 2) (ret := (some .boolean)) (by decide +kernel) rfl ?_
  intro p e s m args below meth c s₁ B hml hv
  obtain ⟨hargs, hsz, hP, hK, hD0⟩ := hv
  have hx := B.exec
  have hb := B.bytes
  have hr := B.returns
  have hts := atoms_spec (ws := w_xReader_seeWrong) B.pre
  have hown : s.vm.findClass "PathTexts$Reader" = some m.cls := findClass_of_methodNamed B.named
  have hlocks := B.notSynchronized
  subst hsz
  have hD := hD0.self (sz := s.heap.size)
  generalize hAe : va_A [(q_o, .inr (4, f_Reader q_o_text q_o_pen q_o_numbers v_o_at v_o_wrong v_o_moveIsDue))] s.heap.size = A at hD ⊢
  have hA : ∀ q : Nat, s.heap.size ≤ q → A q := fun q h => by rw [← hAe]; exact Or.inr h
  clear hAe hD0
  have hS : va_S A s.heap s.heap [] := va_S.rf
  have hl := lv_entry ([.ref q_o, .int x1]) (n := 2) (Nat.le_of_ble_eq_true rfl)
  have hent : entryFrame m args 2 = F0 m 0 (lg_sl ([.ref q_o, .int x1]) ++ List.replicate (2 - (lg_sl ([.ref q_o, .int x1])).length) Slot.unset).toArray [] := by rw [hargs, lg_entry_eq]
  rw [hent]
  clear hent hargs
  generalize (lg_sl ([.ref q_o, .int x1]) ++ List.replicate (2 - (lg_sl ([.ref q_o, .int x1])).length) Slot.unset).toArray = ls at hl ⊢
  have hl : lv_has ls 2 [(0, .ref q_o), (1, .int x1)] := hl
  suffices key : ∀ Q : State → Prop, (∀ (hn9 : narrow .boolean (.int rv) = .int rv) (pc : Nat) (H : Heap) (locs : List Loc) (ls : Array Slot), decode prog_6_method_13_code pc = .ok (.ireturn, 1) → va_P (dC, dI) clz [(q_o, .inr (4, f_Reader q_o_text q_o_pen q_o_numbers v_o_at v_o_wrong_z v_o_moveIsDue))] H → va_D A [(q_o, .inr (4, f_Reader q_o_text q_o_pen q_o_numbers v_o_at v_o_wrong_z v_o_moveIsDue))] → va_S A s.heap H locs → W p l e (headSpec w_xReader_seeWrong ({ frames := 0, cells := 0, slots := 0, locals := 0 })).room s m args below meth c H locs 0 0 Q (F0 m pc ls [.int rv])) → W p l e (headSpec w_xReader_seeWrong ({ frames := 0, cells := 0, slots := 0, locals := 0 })).room s m args below meth c s.heap [] 0 0 Q (F0 m 0 ls []) from key _ (fun hn9 pc H locs ls hd hP hD hS => W.zret hx hb hr hn9 (fun t ht hW => ⟨⟨rv, (), rfl, rfl, by rw [ht]; exact hP, va_K.moved hW.alike hK, hD⟩, hS.F ht⟩) hS.2.2 hd)
  intro Q hRet
  rw [xReader_seeWrong] at hf
  refine lv_aload_n (pc := 0) hx hb d_xReader_seeWrong_0 rfl (lv_at hl 0 rfl) ?_
  refine lv_iload_n (pc := 1) hx hb d_xReader_seeWrong_1 rfl (lv_at hl 1 rfl) ?_
  refine kx_put (pc := 2) (D := (dC, dI)) (ci := 4) (v := .int x1) (ty := .int) (C := "PathTexts$Reader") (T := F_Reader) (N := 6) hx hb hts (fun w h => List.mem_cons_of_mem _ (in_Reader w h)) t_Reader tk_Reader n_Reader hown hK hP hD hS 0 rfl rfl 4 (by decide) (hts _ (List.mem_cons_of_mem _ kw_107)) (fun _ h9 => h9) rfl (tk_Reader 4 (by decide)) rfl rfl fl_Reader_4 fs_Reader_4 (ws' := [(q_o, .inr (4, f_Reader q_o_text q_o_pen q_o_numbers v_o_at x1 v_o_moveIsDue))]) rfl d_xReader_seeWrong_2 (fun H locs hP hD hS => ?_)
  refine lv_iconst (pc := 5) (v := (0 : Int32)) hx hb d_xReader_seeWrong_5 (by decide) ?_
  obtain ⟨e_0, e_1⟩ := kr2 hf
  rw [e_0]
  exact hRet (by rw [← e_0]; exact (by decide)) 6 _ _ _ d_xReader_seeWrong_6 (by rw [← e_1]; exact hP) (by rw [← e_1]; exact hD) hS
set_option maxHeartbeats 4000000 in
set_option maxRecDepth 100000 in
theorem ct_xWriter_letterOf (l : Launch) (dC : Nat → ClassId) (dI : Nat → Nat → Nat) (sz : Nat) (x0 : Int32) (rv : Int32) (hf : xWriter_letterOf x0 = some rv) : Met l y_xWriter_letterOf w_xWriter_letterOf ({ frames := 0, cells := 0, slots := 0, locals := 0 }) (va_Pc [.int x0] (fun U => U.heap.size = sz ∧ va_P (dC, dI) clz [] U.heap ∧ va_K (dC, dI) clz [] U ∧ va_D (fun _ => True) [])) (va_Qi (fun (r9 : Int32) (_ : Unit) => r9 = rv) (fun _ t => va_P (dC, dI) clz [] t.heap ∧ va_K (dC, dI) clz [] t ∧ va_D (va_A [] sz) []) (va_A [] sz)) 0 0 (va_A [] sz) := by
  refine Met.ofW (cc := prog_8_method_3_code) (maxL := 1) (ret := (some .char)) (by decide +kernel) rfl ?_
  intro p e s m args below meth c s₁ B hml hv
  obtain ⟨hargs, hsz, hP, hK, hD0⟩ := hv
  have hx := B.exec
  have hb := B.bytes
  have hr := B.returns
  have hts := atoms_spec (ws := w_xWriter_letterOf) B.pre
  have hown : s.vm.findClass "PathTexts$Writer" = some m.cls := findClass_of_methodNamed B.named
  have hlocks := B.notSynchronized
  subst hsz
  have hD := hD0.self (sz := s.heap.size)
  generalize hAe : va_A [] s.heap.size = A at hD ⊢
  have hA : ∀ q : Nat, s.heap.size ≤ q → A q := fun q h => by rw [← hAe]; exact Or.inr h
  clear hAe hD0
  have hS : va_S A s.heap s.heap [] := va_S.rf
  have hl := lv_entry ([.int x0]) (n := 1) (Nat.le_of_ble_eq_true rfl)
  have hent : entryFrame m args 1 = F0 m 0 (lg_sl ([.int x0]) ++ List.replicate (1 - (lg_sl ([.int x0])).length) Slot.unset).toArray [] := by rw [hargs, lg_entry_eq]
  rw [hent]
  clear hent hargs
  generalize (lg_sl ([.int x0]) ++ List.replicate (1 - (lg_sl ([.int x0])).length) Slot.unset).toArray = ls at hl ⊢
  have hl : lv_has ls 1 [(0, .int x0)] := hl
  suffices key : ∀ Q : State → Prop, (∀ (hn9 : narrow .char (.int rv) = .int rv) (pc : Nat) (H : Heap) (locs : List Loc) (ls : Array Slot), decode prog_8_method_3_code pc = .ok (.ireturn, 1) → va_P (dC, dI) clz [] H → va_D A [] → va_S A s.heap H locs → W p l e (headSpec w_xWriter_letterOf ({ frames := 0, cells := 0, slots := 0, locals := 0 })).room s m args below meth c H locs 0 0 Q (F0 m pc ls [.int rv])) → W p l e (headSpec w_xWriter_letterOf ({ frames := 0, cells := 0, slots := 0, locals := 0 })).room s m args below meth c s.heap [] 0 0 Q (F0 m 0 ls []) from key _ (fun hn9 pc H locs ls hd hP hD hS => W.zret hx hb hr hn9 (fun t ht hW => ⟨⟨rv, (), rfl, rfl, by rw [ht]; exact hP, va_K.moved hW.alike hK, hD⟩, hS.F ht⟩) hS.2.2 hd)
  intro Q hRet
  rw [xWriter_letterOf] at hf
  refine lv_iload_n (pc := 0) hx hb d_xWriter_letterOf_0 rfl (lv_at hl 0 rfl) ?_
  by_cases hc0 : x0 = (0 : Int32)
  · rw [if_pos hc0] at hf
    refine lv_tableIn (pc := 1) (tgt := 28) hx hb d_xWriter_letterOf_1 (by rw [hc0]; decide) (by rw [hc0]; decide) (by rw [hc0]; rfl) (by decide) ?_
    refine lv_bipush (pc := 28) (v := (77 : Int32)) hx hb d_xWriter_letterOf_28 (by decide) ?_
    have e_0 := kr1 hf
    rw [e_0]
    exact hRet (by rw [← e_0]; exact (by decide)) 30 _ _ _ d_xWriter_letterOf_30 hP hD hS
  rw [if_neg hc0] at hf
  by_cases hc1 : x0 = (1 : Int32)
  · rw [if_pos hc1] at hf
    refine lv_tableIn (pc := 1) (tgt := 31) hx hb d_xWriter_letterOf_1 (by rw [hc1]; decide) (by rw [hc1]; decide) (by rw [hc1]; rfl) (by decide) ?_
    refine lv_bipush (pc := 31) (v := (76 : Int32)) hx hb d_xWriter_letterOf_31 (by decide) ?_
    have e_0 := kr1 hf
    rw [e_0]
    exact hRet (by rw [← e_0]; exact (by decide)) 33 _ _ _ d_xWriter_letterOf_33 hP hD hS
  rw [if_neg hc1] at hf
  by_cases hc2 : x0 = (2 : Int32)
  · rw [if_pos hc2] at hf
    refine lv_tableIn (pc := 1) (tgt := 34) hx hb d_xWriter_letterOf_1 (by rw [hc2]; decide) (by rw [hc2]; decide) (by rw [hc2]; rfl) (by decide) ?_
    refine lv_bipush (pc := 34) (v := (67 : Int32)) hx hb d_xWriter_letterOf_34 (by decide) ?_
    have e_0 := kr1 hf
    rw [e_0]
    exact hRet (by rw [← e_0]; exact (by decide)) 36 _ _ _ d_xWriter_letterOf_36 hP hD hS
  rw [if_neg hc2] at hf
  have hn0 := lv_neT hc0 (a := 0) (by decide)
  have hn1 := lv_neT hc1 (a := 1) (by decide)
  have hn2 := lv_neT hc2 (a := 2) (by decide)
  by_cases hr9 : x0.toInt < 0 ∨ 2 < x0.toInt
  · refine lv_tableOut (pc := 1) (tgt := 37) hx hb d_xWriter_letterOf_1 hr9 (by decide) ?_
    refine lv_bipush (pc := 37) (v := (90 : Int32)) hx hb d_xWriter_letterOf_37 (by decide) ?_
    have e_0 := kr1 hf
    rw [e_0]
    exact hRet (by rw [← e_0]; exact (by decide)) 39 _ _ _ d_xWriter_letterOf_39 hP hD hS
  · exfalso; omega
set_option maxHeartbeats 4000000 in
set_option maxRecDepth 100000 in
theorem ct_xWriter_tens (l : Launch) (dC : Nat → ClassId) (dI : Nat → Nat → Nat) (sz : Nat) (tt : Nat) (x0 : Int32) (rv : Int64) (hf : xWriter_tens x0 = some rv) : Met l y_xWriter_tens w_xWriter_tens ({ frames := 0, cells := 0, slots := 0, locals := 0 }) (va_Pc [.int x0] (fun U => U.heap.size = sz ∧ va_P (dC, dI) clz [] U.heap ∧ va_K (dC, dI) clz [] U ∧ va_D (fun _ => True) [] ∧ ke tt (va_A [] sz) U)) (va_Ql (fun (r9 : Int64) (_ : Unit) => r9 = rv) (fun _ t => va_P (dC, dI) clz [] t.heap ∧ va_K (dC, dI) clz [] t ∧ va_D (va_A [] sz) []) (va_A [] sz)) 0 0 (va_A [] sz) := by
  refine Met.ofW (cc := prog_8_method_7_code) (maxL := 1) (ret := (some .long)) (by decide +kernel) rfl ?_
  intro p e s m args below meth c s₁ B hml hv
  obtain ⟨hargs, hsz, hP, hK, hD0, hE⟩ := hv
  have hx := B.exec
  have hb := B.bytes
  have hr := B.returns
  have hts := atoms_spec (ws := w_xWriter_tens) B.pre
  have hown : s.vm.findClass "PathTexts$Writer" = some m.cls := findClass_of_methodNamed B.named
  have hlocks := B.notSynchronized
  subst hsz
  have hD := hD0.self (sz := s.heap.size)
  generalize hAe : va_A [] s.heap.size = A at hD hE ⊢
  have hA : ∀ q : Nat, s.heap.size ≤ q → A q := fun q h => by rw [← hAe]; exact Or.inr h
  clear hAe hD0
  have hS : va_S A s.heap s.heap [] := va_S.rf
  have hl := lv_entry ([.int x0]) (n := 1) (Nat.le_of_ble_eq_true rfl)
  have hent : entryFrame m args 1 = F0 m 0 (lg_sl ([.int x0]) ++ List.replicate (1 - (lg_sl ([.int x0])).length) Slot.unset).toArray [] := by rw [hargs, lg_entry_eq]
  rw [hent]
  clear hent hargs
  generalize (lg_sl ([.int x0]) ++ List.replicate (1 - (lg_sl ([.int x0])).length) Slot.unset).toArray = ls at hl ⊢
  have hl : lv_has ls 1 [(0, .int x0)] := hl
  suffices key : ∀ Q : State → Prop, (∀ (pc : Nat) (H : Heap) (locs : List Loc) (ls : Array Slot), decode prog_8_method_7_code pc = .ok (.lreturn, 1) → va_P (dC, dI) clz [] H → va_D A [] → va_S A s.heap H locs → W p l e (headSpec w_xWriter_tens ({ frames := 0, cells := 0, slots := 0, locals := 0 })).room s m args below meth c H locs 0 0 Q (F0 m pc ls [.long rv])) → W p l e (headSpec w_xWriter_tens ({ frames := 0, cells := 0, slots := 0, locals := 0 })).room s m args below meth c s.heap [] 0 0 Q (F0 m 0 ls []) from key _ (fun pc H locs ls hd hP hD hS => W.lret hx hb hr (fun t ht hW => ⟨⟨rv, (), rfl, rfl, by rw [ht]; exact hP, va_K.moved hW.alike hK, hD⟩, hS.F ht⟩) hS.2.2 hd)
  intro Q hRet
  rw [xWriter_tens] at hf
  refine lv_iload_n (pc := 0) hx hb d_xWriter_tens_0 rfl (lv_at hl 0 rfl) ?_
  refine lv_if_lt (pc := 1) (tgt := 12) hx hb d_xWriter_tens_1 (by decide) (fun hc => ?_) (fun hc => ?_)
  · rw [if_pos hc] at hf
    refine lv_lconst (pc := 12) (v := (1 : Int64)) hx hb d_xWriter_tens_12 (by decide) ?_
    refine lv_goto (pc := 13) (tgt := 21) hx hb d_xWriter_tens_13 (by decide) ?_
    have e_0 := kr1 hf
    rw [e_0]
    exact hRet 21 _ _ _ d_xWriter_tens_21 hP hD hS
  · rw [if_neg hc] at hf
    refine lv_iload_n (pc := 4) hx hb d_xWriter_tens_4 rfl (lv_at hl 0 rfl) ?_
    refine va_getsN (pc := 5) hx hb hE.2.1 hS hown (va_Nw.use rfl (hE.1 _ kn_14)) (fun _ h9 => h9) d_xWriter_tens_5 ?_
    refine va_tlen (pc := 8) (v := (10 : Int32)) hx hb hE.2.2.1 hS rfl d_xWriter_tens_8 ?_
    refine lv_icmp_lt (pc := 9) (tgt := 16) hx hb d_xWriter_tens_9 (by decide) (fun hc => ?_) (fun hc => ?_)
    · rw [if_pos hc] at hf
      refine va_getsN (pc := 16) hx hb hE.2.1 hS hown (va_Nw.use rfl (hE.1 _ kn_14)) (fun _ h9 => h9) d_xWriter_tens_16 ?_
      refine lv_iload_n (pc := 19) hx hb d_xWriter_tens_19 rfl (lv_at hl 0 rfl) ?_
      obtain ⟨hg1, hf⟩ := kg_some hf
      refine va_tl (pc := 20) hx hb hE.2.2.1 hS (ki_in hg1) rfl d_xWriter_tens_20 ?_
      have e_0 := kr1 hf
      rw [e_0]
      exact hRet 21 _ _ _ d_xWriter_tens_21 hP hD hS
    · rw [if_neg hc] at hf
      refine lv_lconst (pc := 12) (v := (1 : Int64)) hx hb d_xWriter_tens_12 (by decide) ?_
      refine lv_goto (pc := 13) (tgt := 21) hx hb d_xWriter_tens_13 (by decide) ?_
      have e_0 := kr1 hf
      rw [e_0]
      exact hRet 21 _ _ _ d_xWriter_tens_21 hP hD hS
set_option maxHeartbeats 4000000 in
set_option maxRecDepth 100000 in
theorem ct_xWriter_putDigits (l : Launch) (dC : Nat → ClassId) (dI : Nat → Nat → Nat) (q_p3 : Nat) (q_p3_characters : Nat) (k_p3_characters : ClassId) (sz : Nat) (tt : Nat) (N : Nat) (n_p3_characters : Nat) (x0 : Int64) (x2 : Int32) (v_p3_length : Int32) (c_p3_characters : (Nat → Int32)) (v_p3_length_z : Int32) (c_p3_characters_z : (Nat → Int32)) (hf : xWriter_putDigits N n_p3_characters x0 x2 v_p3_length c_p3_characters = some (v_p3_length_z, c_p3_characters_z)) : Met l y_xWriter_putDigits w_xWriter_putDigits ({ frames := 1, cells := 0, slots := 0, locals := 21 }) (va_Pc [.long x0, .int x2, .ref q_p3] (fun U => U.heap.size = sz ∧ va_P (dC, dI) clz [(q_p3, .inr (5, f_Row q_p3_characters v_p3_length)), (q_p3_characters, .inl (k_p3_characters, n_p3_characters, .inl c_p3_characters))] U.heap ∧ va_K (dC, dI) clz [(k_p3_characters, .char)] U ∧ va_D (fun _ => True) [(q_p3, .inr (5, f_Row q_p3_characters v_p3_length)), (q_p3_characters, .inl (k_p3_characters, n_p3_characters, .inl c_p3_characters))] ∧ ke tt (va_A [(q_p3, .inr (5, f_Row q_p3_characters v_p3_length)), (q_p3_characters, .inl (k_p3_characters, n_p3_characters, .inl c_p3_characters))] sz) U)) (va_Qv (fun _ : Unit => True) (fun _ t => va_P (dC, dI) clz [(q_p3, .inr (5, f_Row q_p3_characters v_p3_length_z)), (q_p3_characters, .inl (k_p3_characters, n_p3_characters, .inl c_p3_characters_z))] t.heap ∧ va_K (dC, dI) clz [(k_p3_characters, .char)] t ∧ va_D (va_A [(q_p3, .inr (5, f_Row q_p3_characters v_p3_length)), (q_p3_characters, .inl (k_p3_characters, n_p3_characters, .inl c_p3_characters))] sz) [(q_p3, .inr (5, f_Row q_p3_characters v_p3_length_z)), (q_p3_characters, .inl (k_p3_characters, n_p3_characters, .inl c_p3_characters_z))]) (va_A [(q_p3, .inr (5, f_Row q_p3_characters v_p3_length)), (q_p3_characters, .inl (k_p3_characters, n_p3_characters, .inl c_p3_characters))] sz)) 0 0 (va_A [(q_p3, .inr (5, f_Row q_p3_characters v_p3_length)), (q_p3_characters, .inl (k_p3_characters, n_p3_characters, .inl c_p3_characters))] sz) := by
  refine Met.ofW (cc := prog_8_method_9_code) (maxL := 5) (ret := none) (by decide +kernel) rfl ?_
  intro p e s m args below meth c s₁ B hml hv
  obtain ⟨hargs, hsz, hP, hK, hD0, hE⟩ := hv
  have hx := B.exec
  have hb := B.bytes
  have hr := B.returns
  have hts := atoms_spec (ws := w_xWriter_putDigits) B.pre
  have hown : s.vm.findClass "PathTexts$Writer" = some m.cls := findClass_of_methodNamed B.named
  have hlocks := B.notSynchronized
  subst hsz
  have hD := hD0.self (sz := s.heap.size)
  generalize hAe : va_A [(q_p3, .inr (5, f_Row q_p3_characters v_p3_length)), (q_p3_characters, .inl (k_p3_characters, n_p3_characters, .inl c_p3_characters))] s.heap.size = A at hD hE ⊢
  have hA : ∀ q : Nat, s.heap.size ≤ q → A q := fun q h => by rw [← hAe]; exact Or.inr h
  clear hAe hD0
  have hS : va_S A s.heap s.heap [] := va_S.rf
  have hl := lv_entry ([.long x0, .int x2, .ref q_p3]) (n := 5) (Nat.le_of_ble_eq_true rfl)
  have hent : entryFrame m args 5 = F0 m 0 (lg_sl ([.long x0, .int x2, .ref q_p3]) ++ List.replicate (5 - (lg_sl ([.long x0, .int x2, .ref q_p3])).length) Slot.unset).toArray [] := by rw [hargs, lg_entry_eq]
  rw [hent]
  clear hent hargs
  generalize (lg_sl ([.long x0, .int x2, .ref q_p3]) ++ List.replicate (5 - (lg_sl ([.long x0, .int x2, .ref q_p3])).length) Slot.unset).toArray = ls at hl ⊢
  have hl : lv_has ls 5 [(0, .long x0), (2, .int x2), (3, .ref q_p3)] := hl
  suffices key : ∀ Q : State → Prop, (∀ (pc : Nat) (H : Heap) (locs : List Loc) (ls : Array Slot), decode prog_8_method_9_code pc = .ok (.return_, 1) → va_P (dC, dI) clz [(q_p3, .inr (5, f_Row q_p3_characters v_p3_length_z)), (q_p3_characters, .inl (k_p3_characters, n_p3_characters, .inl c_p3_characters_z))] H → va_D A [(q_p3, .inr (5, f_Row q_p3_characters v_p3_length_z)), (q_p3_characters, .inl (k_p3_characters, n_p3_characters, .inl c_p3_characters_z))] → va_S A s.heap H locs → W p l e (headSpec w_xWriter_putDigits ({ frames := 1, cells := 0, slots := 0, locals := 21 })).room s m args below meth c H locs 0 0 Q (F0 m pc ls [])) → W p l e (headSpec w_xWriter_putDigits ({ frames := 1, cells := 0, slots := 0, locals := 21 })).room s m args below meth c s.heap [] 0 0 Q (F0 m 0 ls []) from key _ (fun pc H locs ls hd hP hD hS => W.vret hx hb hr (fun t ht hW => ⟨⟨(), rfl, trivial, by rw [ht]; exact hP, va_K.moved hW.alike hK, hD⟩, hS.F ht⟩) hS.2.2 hd)
  intro Q hRet
  have hB5 : ∀ (k5 : Int64 → Int32 → Int32 → (Nat → Int32) → Option (Int32 × (Nat → Int32))), (∀ (x0 : Int64) (x4 : Int32) (v_p3_length : Int32) (c_p3_characters : (Nat → Int32)) (H : Heap) (locs : List Loc) (ls : Array Slot), k5 x0 x4 v_p3_length c_p3_characters = some (v_p3_length_z, c_p3_characters_z) → va_P (dC, dI) clz [(q_p3, .inr (5, f_Row q_p3_characters v_p3_length)), (q_p3_characters, .inl (k_p3_characters, n_p3_characters, .inl c_p3_characters))] H → va_D A [(q_p3, .inr (5, f_Row q_p3_characters v_p3_length)), (q_p3_characters, .inl (k_p3_characters, n_p3_characters, .inl c_p3_characters))] → va_S A s.heap H locs → lv_has ls 5 [(0, .long x0), (3, .ref q_p3), (4, .int x4)] → W p l e (headSpec w_xWriter_putDigits ({ frames := 1, cells := 0, slots := 0, locals := 21 })).room s m args below meth c H locs 0 0 Q (F0 m 5 ls [])) → ∀ (x0 : Int64) (x4 : Int32) (v_p3_length : Int32) (c_p3_characters : (Nat → Int32)) (H : Heap) (locs : List Loc) (ls : Array Slot), xWriter_putDigits_B5 N n_p3_characters k5 x0 x4 v_p3_length c_p3_characters = some (v_p3_length_z, c_p3_characters_z) → va_P (dC, dI) clz [(q_p3, .inr (5, f_Row q_p3_characters v_p3_length)), (q_p3_characters, .inl (k_p3_characters, n_p3_characters, .inl c_p3_characters))] H → va_D A [(q_p3, .inr (5, f_Row q_p3_characters v_p3_length)), (q_p3_characters, .inl (k_p3_characters, n_p3_characters, .inl c_p3_characters))] → va_S A s.heap H locs → lv_has ls 5 [(0, .long x0), (3, .ref q_p3), (4, .int x4)] → W p l e (headSpec w_xWriter_putDigits ({ frames := 1, cells := 0, slots := 0, locals := 21 })).room s m args below meth c H locs 0 0 Q (F0 m 5 ls []) := by
    intro k5 hk5
    intro x0 x4 v_p3_length c_p3_characters H locs ls hf hP hD hS hl
    rw [xWriter_putDigits_B5] at hf
    refine lv_iload (pc := 5) hx hb d_xWriter_putDigits_5 (lv_at hl 2 rfl) ?_
    refine lv_if_lt (pc := 7) (tgt := 36) hx hb d_xWriter_putDigits_7 (by decide) (fun hc => ?_) (fun hc => ?_)
    · rw [if_pos hc] at hf
      obtain ⟨e_0, e_1⟩ := kr2 hf
      exact hRet 36 _ _ _ d_xWriter_putDigits_36 (by rw [← e_0, ← e_1]; exact hP) (by rw [← e_0, ← e_1]; exact hD) hS
    · rw [if_neg hc] at hf
      refine lv_aload_n (pc := 10) hx hb d_xWriter_putDigits_10 rfl (lv_at hl 1 rfl) ?_
      refine lv_ldc2 (pc := 11) hx hb hown (hts _ (List.mem_cons_of_mem _ kw_388)) d_xWriter_putDigits_11 ?_
      refine lv_lload_n (pc := 14) hx hb d_xWriter_putDigits_14 rfl (lv_at hl 0 rfl) ?_
      refine lv_iload (pc := 15) hx hb d_xWriter_putDigits_15 (lv_at hl 2 rfl) ?_
      obtain ⟨r17, hz, hf⟩ := kb1_some hf
      have hPc := hP.sub (ws' := []) [] rfl
      have hDc := hD.sub (ws' := []) [] (by decide) rfl
      have hKc := hK.sub (tys' := []) [] rfl
      have hFc := va_free (wc := []) hD hS hA [] rfl
      refine va_calll (pc := 17) (va_runS (As := [.int x4]) (rest := [.long x0, .long (48 : Int64), .ref q_p3]) ⟨hx, hb, hml, hown, hts⟩ (ct_xWriter_tens l dC dI _ tt x4 r17 hz) (va_cwS 1 hts (kw_in3 kw_374 kw_375 kw_18 kw_376) rfl rfl rfl (by decide +kernel) ⟨Nat.le_of_ble_eq_true rfl, Nat.le_of_ble_eq_true rfl⟩) (ke_pre hPc hKc hDc hE hS hFc) rfl rfl hl.1 rfl (lv_room (Nat.le_of_ble_eq_true rfl)) d_xWriter_putDigits_17 ⟨Nat.le_of_ble_eq_true rfl, Nat.le_of_ble_eq_true rfl⟩) hS (fun q _ h => hFc q h) hFc (fun r9 u t H1 locs ht hvm hw hB hz1 hk1 hS => ?_)
      obtain ⟨hP1, hK1, hD1⟩ := hB
      rw [ht] at hP1
      have hw := hw.symm
      subst hw
      obtain ⟨hP, hD⟩ := va_join (wr := [(q_p3, .inr (5, f_Row q_p3_characters v_p3_length)), (q_p3_characters, .inl (k_p3_characters, n_p3_characters, .inl c_p3_characters))]) (w1 := []) hP hD [] [0, 1] rfl rfl (by decide) (by decide) hk1 hFc hP1 hD1
      have hP := hP.sub (ws' := [(q_p3, .inr (5, f_Row q_p3_characters v_p3_length)), (q_p3_characters, .inl (k_p3_characters, n_p3_characters, .inl c_p3_characters))]) [0, 1] rfl
      have hD := hD.sub (ws' := [(q_p3, .inr (5, f_Row q_p3_characters v_p3_length)), (q_p3_characters, .inl (k_p3_characters, n_p3_characters, .inl c_p3_characters))]) [0, 1] (by decide) rfl
      clear hP1 hK1 hD1 hk1 hPc hDc hKc hFc hz1 hvm ht hz
      generalize H1 = H at hP hS ⊢
      obtain ⟨hg1, hf⟩ := kg_some hf
      refine lv_ldiv (pc := 20) hx hb d_xWriter_putDigits_20 (kl_ne hg1) ?_
      refine lv_ldc2 (pc := 21) hx hb hown (hts _ (List.mem_cons_of_mem _ kw_389)) d_xWriter_putDigits_21 ?_
      refine lv_lrem (pc := 24) hx hb d_xWriter_putDigits_24 (by decide) ?_
      refine lv_ladd (pc := 25) hx hb d_xWriter_putDigits_25 ?_
      refine lv_l2i (pc := 26) hx hb d_xWriter_putDigits_26 rfl ?_
      obtain ⟨v_p3_length_27, c_p3_characters_27, hz, hf⟩ := kb2_some hf
      have hPc := hP.sub (ws' := [(q_p3, .inr (5, f_Row q_p3_characters v_p3_length)), (q_p3_characters, .inl (k_p3_characters, n_p3_characters, .inl c_p3_characters))]) [0, 1] rfl
      have hDc := hD.sub (ws' := [(q_p3, .inr (5, f_Row q_p3_characters v_p3_length)), (q_p3_characters, .inl (k_p3_characters, n_p3_characters, .inl c_p3_characters))]) [0, 1] (by decide) rfl
      have hKc := hK.sub (tys' := [(k_p3_characters, .char)]) [0] rfl
      have hFc := va_free (wc := [(q_p3, .inr (5, f_Row q_p3_characters v_p3_length)), (q_p3_characters, .inl (k_p3_characters, n_p3_characters, .inl c_p3_characters))]) hD hS hA [0, 1] rfl
      refine va_callv (pc := 27) (va_runV (As := [.int (Int64.toInt32 ((48 : Int64) + ((x0 / r17) - (x0 / r17) / (10 : Int64) * (10 : Int64))))]) (rest := []) ⟨hx, hb, hml, hown, hts⟩ (ct_xRow_put l dC dI q_p3 q_p3_characters k_p3_characters _ n_p3_characters (Int64.toInt32 ((48 : Int64) + ((x0 / r17) - (x0 / r17) / (10 : Int64) * (10 : Int64)))) v_p3_length c_p3_characters v_p3_length_27 c_p3_characters_27 hz) (cwV 1 hts (kw_in4 kw_359 kw_360 kw_361 kw_2 kw_362) rfl rfl rfl (by decide +kernel) ⟨Nat.le_of_ble_eq_true rfl, Nat.le_of_ble_eq_true rfl⟩) (kx_preV hPc hKc hDc 0 rfl rfl) rfl rfl hl.1 rfl (lv_room (Nat.le_of_ble_eq_true rfl)) d_xWriter_putDigits_27 ⟨Nat.le_of_ble_eq_true rfl, Nat.le_of_ble_eq_true rfl⟩) hS (fun q _ h => hFc q h) hFc (fun u t H1 locs ht hvm hw hB hz1 hk1 hS => ?_)
      obtain ⟨hP1, hK1, hD1⟩ := hB
      rw [ht] at hP1
      obtain ⟨hP, hD⟩ := va_join (wr := []) (w1 := [(q_p3, .inr (5, f_Row q_p3_characters v_p3_length_27)), (q_p3_characters, .inl (k_p3_characters, n_p3_characters, .inl c_p3_characters_27))]) hP hD [0, 1] [] rfl rfl (by decide) (by decide) hk1 hFc hP1 hD1
      have hP := hP.sub (ws' := [(q_p3, .inr (5, f_Row q_p3_characters v_p3_length_27)), (q_p3_characters, .inl (k_p3_characters, n_p3_characters, .inl c_p3_characters_27))]) [0, 1] rfl
      have hD := hD.sub (ws' := [(q_p3, .inr (5, f_Row q_p3_characters v_p3_length_27)), (q_p3_characters, .inl (k_p3_characters, n_p3_characters, .inl c_p3_characters_27))]) [0, 1] (by decide) rfl
      clear hP1 hK1 hD1 hk1 hPc hDc hKc hFc hz1 hvm ht hz
      generalize H1 = H at hP hS ⊢
      refine lv_iinc (pc := 30) (v := (x4 + (-1 : Int32))) (lv' := [(4, .int (x4 + (-1 : Int32))), (0, .long x0), (3, .ref q_p3)]) hx hb d_xWriter_putDigits_30 hl (k := 2) rfl rfl (by decide) rfl (fun ls hl => ?_)
      refine lv_goto (pc := 33) (tgt := 5) hx hb d_xWriter_putDigits_33 (by decide) ?_
      exact hk5 x0 (x4 + (-1 : Int32)) v_p3_length_27 c_p3_characters_27 _ _ _ hf hP hD hS (lv_sub hl [1, 2, 0] rfl)
  have hL5 : ∀ n : Nat, ∀ (x0 : Int64) (x4 : Int32) (v_p3_length : Int32) (c_p3_characters : (Nat → Int32)) (H : Heap) (locs : List Loc) (ls : Array Slot), (xWriter_putDigits_L5 N n_p3_characters n) x0 x4 v_p3_length c_p3_characters = some (v_p3_length_z, c_p3_characters_z) → va_P (dC, dI) clz [(q_p3, .inr (5, f_Row q_p3_characters v_p3_length)), (q_p3_characters, .inl (k_p3_characters, n_p3_characters, .inl c_p3_characters))] H → va_D A [(q_p3, .inr (5, f_Row q_p3_characters v_p3_length)), (q_p3_characters, .inl (k_p3_characters, n_p3_characters, .inl c_p3_characters))] → va_S A s.heap H locs → lv_has ls 5 [(0, .long x0), (3, .ref q_p3), (4, .int x4)] → W p l e (headSpec w_xWriter_putDigits ({ frames := 1, cells := 0, slots := 0, locals := 21 })).room s m args below meth c H locs 0 0 Q (F0 m 5 ls []) := by
    intro n
    induction n with
    | zero => intro x0 x4 v_p3_length c_p3_characters H locs ls hf hP hD hS hl; have hf : none = some (v_p3_length_z, c_p3_characters_z) := hf; cases hf
    | succ n ih => exact hB5 (xWriter_putDigits_L5 N n_p3_characters n) ih
  rw [xWriter_putDigits] at hf
  refine lv_iload_n (pc := 0) hx hb d_xWriter_putDigits_0 rfl (lv_at hl 1 rfl) ?_
  refine lv_iconst (pc := 1) (v := (1 : Int32)) hx hb d_xWriter_putDigits_1 (by decide) ?_
  refine lv_isub (pc := 2) hx hb d_xWriter_putDigits_2 ?_
  refine lv_istore (pc := 3) (lv' := [(4, .int (x2 - (1 : Int32))), (0, .long x0), (2, .int x2), (3, .ref q_p3)]) hx hb d_xWriter_putDigits_3 hl (by decide) rfl (fun ls hl => ?_)
  exact hL5 N x0 (x2 - (1 : Int32)) v_p3_length c_p3_characters _ _ _ hf hP hD hS (lv_sub hl [1, 3, 0] rfl)
set_option maxHeartbeats 4000000 in
set_option maxRecDepth 100000 in
theorem ct_xCover_onCurve (l : Launch) (dC : Nat → ClassId) (dI : Nat → Nat → Nat) (sz : Nat) (tt : Nat) (x0 : Int64) (x2 : Int64) (x4 : Int64) (x6 : Int64) (x8 : Int64) (rv : Int64) (hf : xCover_onCurve x0 x2 x4 x6 x8 = some rv) : Met l y_xCover_onCurve w_xCover_onCurve ({ frames := 2, cells := 0, slots := 0, locals := 48 }) (va_Pc [.long x0, .long x2, .long x4, .long x6, .long x8] (fun U => U.heap.size = sz ∧ va_P (dC, dI) clz [] U.heap ∧ va_K (dC, dI) clz [] U ∧ va_D (fun _ => True) [] ∧ ke tt (va_A [] sz) U)) (va_Ql (fun (r9 : Int64) (_ : Unit) => r9 = rv) (fun _ t => va_P (dC, dI) clz [] t.heap ∧ va_K (dC, dI) clz [] t ∧ va_D (va_A [] sz) []) (va_A [] sz)) 0 0 (va_A [] sz) := by
  refine Met.ofW (cc := prog_2_method_5_code) (maxL := 14) (ret := (some .long)) (by decide +kernel) rfl ?_
  intro p e s m args below meth c s₁ B hml hv
  obtain ⟨hargs, hsz, hP, hK, hD0, hE⟩ := hv
  have hx := B.exec
  have hb := B.bytes
  have hr := B.returns
  have hts := atoms_spec (ws := w_xCover_onCurve) B.pre
  have hown : s.vm.findClass "PathTexts$Cover" = some m.cls := findClass_of_methodNamed B.named
  have hlocks := B.notSynchronized
  subst hsz
  have hD := hD0.self (sz := s.heap.size)
  generalize hAe : va_A [] s.heap.size = A at hD hE ⊢
  have hA : ∀ q : Nat, s.heap.size ≤ q → A q := fun q h => by rw [← hAe]; exact Or.inr h
  clear hAe hD0
  have hS : va_S A s.heap s.heap [] := va_S.rf
  have hl := lv_entry ([.long x0, .long x2, .long x4, .long x6, .long x8]) (n := 14) (Nat.le_of_ble_eq_true rfl)
  have hent : entryFrame m args 14 = F0 m 0 (lg_sl ([.long x0, .long x2, .long x4, .long x6, .long x8]) ++ List.replicate (14 - (lg_sl ([.long x0, .long x2, .long x4, .long x6, .long x8])).length) Slot.unset).toArray [] := by rw [hargs, lg_entry_eq]
  rw [hent]
  clear hent hargs
  generalize (lg_sl ([.long x0, .long x2, .long x4, .long x6, .long x8]) ++ List.replicate (14 - (lg_sl ([.long x0, .long x2, .long x4, .long x6, .long x8])).length) Slot.unset).toArray = ls at hl ⊢
  have hl : lv_has ls 14 [(0, .long x0), (2, .long x2), (4, .long x4), (6, .long x6), (8, .long x8)] := hl
  suffices key : ∀ Q : State → Prop, (∀ (pc : Nat) (H : Heap) (locs : List Loc) (ls : Array Slot), decode prog_2_method_5_code pc = .ok (.lreturn, 1) → va_P (dC, dI) clz [] H → va_D A [] → va_S A s.heap H locs → W p l e (headSpec w_xCover_onCurve ({ frames := 2, cells := 0, slots := 0, locals := 48 })).room s m args below meth c H locs 0 0 Q (F0 m pc ls [.long rv])) → W p l e (headSpec w_xCover_onCurve ({ frames := 2, cells := 0, slots := 0, locals := 48 })).room s m args below meth c s.heap [] 0 0 Q (F0 m 0 ls []) from key _ (fun pc H locs ls hd hP hD hS => W.lret hx hb hr (fun t ht hW => ⟨⟨rv, (), rfl, rfl, by rw [ht]; exact hP, va_K.moved hW.alike hK, hD⟩, hS.F ht⟩) hS.2.2 hd)
  intro Q hRet
  rw [xCover_onCurve] at hf
  refine lv_ldc2 (pc := 0) hx hb hown (hts _ (List.mem_cons_of_mem _ kw_641)) d_xCover_onCurve_0 ?_
  refine lv_lload (pc := 3) hx hb d_xCover_onCurve_3 (lv_at hl 4 rfl) ?_
  refine lv_lsub (pc := 5) hx hb d_xCover_onCurve_5 ?_
  refine lv_lstore (pc := 6) (lv' := [(10, .long ((16 : Int64) - x8)), (0, .long x0), (2, .long x2), (4, .long x4), (6, .long x6), (8, .long x8)]) hx hb d_xCover_onCurve_6 hl (by decide) rfl (fun ls hl => ?_)
  refine lv_lload_n (pc := 8) hx hb d_xCover_onCurve_8 rfl (lv_at hl 1 rfl) ?_
  refine lv_lload (pc := 9) hx hb d_xCover_onCurve_9 (lv_at hl 0 rfl) ?_
  refine lv_lmul (pc := 11) hx hb d_xCover_onCurve_11 ?_
  refine lv_lload (pc := 12) hx hb d_xCover_onCurve_12 (lv_at hl 0 rfl) ?_
  refine lv_lmul (pc := 14) hx hb d_xCover_onCurve_14 ?_
  refine lv_lload (pc := 15) hx hb d_xCover_onCurve_15 (lv_at hl 0 rfl) ?_
  refine lv_lmul (pc := 17) hx hb d_xCover_onCurve_17 ?_
  refine lv_ldc2 (pc := 18) hx hb hown (hts _ (List.mem_cons_of_mem _ kw_650)) d_xCover_onCurve_18 ?_
  refine lv_lload_n (pc := 21) hx hb d_xCover_onCurve_21 rfl (lv_at hl 2 rfl) ?_
  refine lv_lmul (pc := 22) hx hb d_xCover_onCurve_22 ?_
  refine lv_lload (pc := 23) hx hb d_xCover_onCurve_23 (lv_at hl 0 rfl) ?_
  refine lv_lmul (pc := 25) hx hb d_xCover_onCurve_25 ?_
  refine lv_lload (pc := 26) hx hb d_xCover_onCurve_26 (lv_at hl 0 rfl) ?_
  refine lv_lmul (pc := 28) hx hb d_xCover_onCurve_28 ?_
  refine lv_lload (pc := 29) hx hb d_xCover_onCurve_29 (lv_at hl 5 rfl) ?_
  refine lv_lmul (pc := 31) hx hb d_xCover_onCurve_31 ?_
  refine lv_ladd (pc := 32) hx hb d_xCover_onCurve_32 ?_
  refine lv_ldc2 (pc := 33) hx hb hown (hts _ (List.mem_cons_of_mem _ kw_650)) d_xCover_onCurve_33 ?_
  refine lv_lload (pc := 36) hx hb d_xCover_onCurve_36 (lv_at hl 3 rfl) ?_
  refine lv_lmul (pc := 38) hx hb d_xCover_onCurve_38 ?_
  refine lv_lload (pc := 39) hx hb d_xCover_onCurve_39 (lv_at hl 0 rfl) ?_
  refine lv_lmul (pc := 41) hx hb d_xCover_onCurve_41 ?_
  refine lv_lload (pc := 42) hx hb d_xCover_onCurve_42 (lv_at hl 5 rfl) ?_
  refine lv_lmul (pc := 44) hx hb d_xCover_onCurve_44 ?_
  refine lv_lload (pc := 45) hx hb d_xCover_onCurve_45 (lv_at hl 5 rfl) ?_
  refine lv_lmul (pc := 47) hx hb d_xCover_onCurve_47 ?_
  refine lv_ladd (pc := 48) hx hb d_xCover_onCurve_48 ?_
  refine lv_lload (pc := 49) hx hb d_xCover_onCurve_49 (lv_at hl 4 rfl) ?_
  refine lv_lload (pc := 51) hx hb d_xCover_onCurve_51 (lv_at hl 5 rfl) ?_
  refine lv_lmul (pc := 53) hx hb d_xCover_onCurve_53 ?_
  refine lv_lload (pc := 54) hx hb d_xCover_onCurve_54 (lv_at hl 5 rfl) ?_
  refine lv_lmul (pc := 56) hx hb d_xCover_onCurve_56 ?_
  refine lv_lload (pc := 57) hx hb d_xCover_onCurve_57 (lv_at hl 5 rfl) ?_
  refine lv_lmul (pc := 59) hx hb d_xCover_onCurve_59 ?_
  refine lv_ladd (pc := 60) hx hb d_xCover_onCurve_60 ?_
  refine lv_lstore (pc := 61) (lv' := [(12, .long ((((((x0 * ((16 : Int64) - x8)) * ((16 : Int64) - x8)) * ((16 : Int64) - x8)) + (((((3 : Int64) * x2) * ((16 : Int64) - x8)) * ((16 : Int64) - x8)) * x8)) + (((((3 : Int64) * x4) * ((16 : Int64) - x8)) * x8) * x8)) + (((x6 * x8) * x8) * x8))), (10, .long ((16 : Int64) - x8)), (0, .long x0), (2, .long x2), (4, .long x4), (6, .long x6), (8, .long x8)]) hx hb d_xCover_onCurve_61 hl (by decide) rfl (fun ls hl => ?_)
  refine lv_lload (pc := 63) hx hb d_xCover_onCurve_63 (lv_at hl 0 rfl) ?_
  refine lv_ldc2 (pc := 65) hx hb hown (hts _ (List.mem_cons_of_mem _ kw_651)) d_xCover_onCurve_65 ?_
  obtain ⟨r68, hz, hf⟩ := kb1_some hf
  have hPc := hP.sub (ws' := []) [] rfl
  have hDc := hD.sub (ws' := []) [] (by decide) rfl
  have hKc := hK.sub (tys' := []) [] rfl
  have hFc := va_free (wc := []) hD hS hA [] rfl
  refine va_calll (pc := 68) (va_runSN (As := [.long ((((((x0 * ((16 : Int64) - x8)) * ((16 : Int64) - x8)) * ((16 : Int64) - x8)) + (((((3 : Int64) * x2) * ((16 : Int64) - x8)) * ((16 : Int64) - x8)) * x8)) + (((((3 : Int64) * x4) * ((16 : Int64) - x8)) * x8) * x8)) + (((x6 * x8) * x8) * x8)), .long (4096 : Int64)]) (rest := []) ⟨hx, hb, hml, hown, hts⟩ (ct_xP_nearest l dC dI _ ((((((x0 * ((16 : Int64) - x8)) * ((16 : Int64) - x8)) * ((16 : Int64) - x8)) + (((((3 : Int64) * x2) * ((16 : Int64) - x8)) * ((16 : Int64) - x8)) * x8)) + (((((3 : Int64) * x4) * ((16 : Int64) - x8)) * x8) * x8)) + (((x6 * x8) * x8) * x8)) (4096 : Int64) r68 hz) ⟨va_cnB 2 hts (kw_in kw_265) rfl rfl rfl (hE.1 _ kn_16) (hts _ (List.mem_cons_of_mem _ kw_1)) (by decide +kernel) ⟨Nat.le_of_ble_eq_true rfl, Nat.le_of_ble_eq_true rfl⟩, hts _ (List.mem_cons_of_mem _ kw_264), trivial⟩ (kx_pre hPc hKc hDc) rfl rfl hl.1 rfl (lv_room (Nat.le_of_ble_eq_true rfl)) d_xCover_onCurve_68 ⟨Nat.le_of_ble_eq_true rfl, Nat.le_of_ble_eq_true rfl⟩) hS (fun q _ h => hFc q h) hFc (fun r9 u t H1 locs ht hvm hw hB hz1 hk1 hS => ?_)
  obtain ⟨hP1, hK1, hD1⟩ := hB
  rw [ht] at hP1
  have hw := hw.symm
  subst hw
  obtain ⟨hP, hD⟩ := va_join (wr := []) (w1 := []) hP hD [] [] rfl rfl (by decide) (by decide) hk1 hFc hP1 hD1
  have hP := hP.sub (ws' := []) [] rfl
  have hD := hD.sub (ws' := []) [] (by decide) rfl
  clear hP1 hK1 hD1 hk1 hPc hDc hKc hFc hz1 hvm ht hz
  generalize H1 = H at hP hS ⊢
  have e_0 := kr1 hf
  rw [e_0]
  exact hRet 71 _ _ _ d_xCover_onCurve_71 hP hD hS
set_option maxHeartbeats 4000000 in
set_option maxRecDepth 100000 in
theorem ct_xCover_firstPointFrom (l : Launch) (dC : Nat → ClassId) (dI : Nat → Nat → Nat) (sz : Nat) (x0 : Int64) (x2 : Int32) (rv : Int32) (hf : xCover_firstPointFrom x0 x2 = some rv) : Met l y_xCover_firstPointFrom w_xCover_firstPointFrom ({ frames := 0, cells := 0, slots := 0, locals := 0 }) (va_Pc [.long x0, .int x2] (fun U => U.heap.size = sz ∧ va_P (dC, dI) clz [] U.heap ∧ va_K (dC, dI) clz [] U ∧ va_D (fun _ => True) [])) (va_Qi (fun (r9 : Int32) (_ : Unit) => r9 = rv) (fun _ t => va_P (dC, dI) clz [] t.heap ∧ va_K (dC, dI) clz [] t ∧ va_D (va_A [] sz) []) (va_A [] sz)) 0 0 (va_A [] sz) := by
  refine Met.ofW (cc := prog_2_method_8_code) (maxL := 5) (ret := (some .int)) (by decide +kernel) rfl ?_
  intro p e s m args below meth c s₁ B hml hv
  obtain ⟨hargs, hsz, hP, hK, hD0⟩ := hv
  have hx := B.exec
  have hb := B.bytes
  have hr := B.returns
  have hts := atoms_spec (ws := w_xCover_firstPointFrom) B.pre
  have hown : s.vm.findClass "PathTexts$Cover" = some m.cls := findClass_of_methodNamed B.named
  have hlocks := B.notSynchronized
  subst hsz
  have hD := hD0.self (sz := s.heap.size)
  generalize hAe : va_A [] s.heap.size = A at hD ⊢
  have hA : ∀ q : Nat, s.heap.size ≤ q → A q := fun q h => by rw [← hAe]; exact Or.inr h
  clear hAe hD0
  have hS : va_S A s.heap s.heap [] := va_S.rf
  have hl := lv_entry ([.long x0, .int x2]) (n := 5) (Nat.le_of_ble_eq_true rfl)
  have hent : entryFrame m args 5 = F0 m 0 (lg_sl ([.long x0, .int x2]) ++ List.replicate (5 - (lg_sl ([.long x0, .int x2])).length) Slot.unset).toArray [] := by rw [hargs, lg_entry_eq]
  rw [hent]
  clear hent hargs
  generalize (lg_sl ([.long x0, .int x2]) ++ List.replicate (5 - (lg_sl ([.long x0, .int x2])).length) Slot.unset).toArray = ls at hl ⊢
  have hl : lv_has ls 5 [(0, .long x0), (2, .int x2)] := hl
  suffices key : ∀ Q : State → Prop, (∀ (pc : Nat) (H : Heap) (locs : List Loc) (ls : Array Slot), decode prog_2_method_8_code pc = .ok (.ireturn, 1) → va_P (dC, dI) clz [] H → va_D A [] → va_S A s.heap H locs → W p l e (headSpec w_xCover_firstPointFrom ({ frames := 0, cells := 0, slots := 0, locals := 0 })).room s m args below meth c H locs 0 0 Q (F0 m pc ls [.int rv])) → W p l e (headSpec w_xCover_firstPointFrom ({ frames := 0, cells := 0, slots := 0, locals := 0 })).room s m args below meth c s.heap [] 0 0 Q (F0 m 0 ls []) from key _ (fun pc H locs ls hd hP hD hS => W.iret hx hb hr (fun t ht hW => ⟨⟨rv, (), rfl, rfl, by rw [ht]; exact hP, va_K.moved hW.alike hK, hD⟩, hS.F ht⟩) hS.2.2 hd)
  intro Q hRet
  rw [xCover_firstPointFrom] at hf
  refine lv_lload_n (pc := 0) hx hb d_xCover_firstPointFrom_0 rfl (lv_at hl 0 rfl) ?_
  refine lv_ldc2 (pc := 1) hx hb hown (hts _ (List.mem_cons_of_mem _ kw_639)) d_xCover_firstPointFrom_1 ?_
  refine lv_ladd (pc := 4) hx hb d_xCover_firstPointFrom_4 ?_
  refine lv_iconst (pc := 5) (v := (4 : Int32)) hx hb d_xCover_firstPointFrom_5 (by decide) ?_
  refine lv_lshr (pc := 6) hx hb d_xCover_firstPointFrom_6 rfl ?_
  refine lv_lstore_n (pc := 7) (lv' := [(3, .long ((x0 + (7 : Int64)) >>> (Int32.toInt64 (4 : Int32) &&& 63))), (0, .long x0), (2, .int x2)]) hx hb d_xCover_firstPointFrom_7 rfl hl (by decide) rfl (fun ls hl => ?_)
  refine lv_lload_n (pc := 8) hx hb d_xCover_firstPointFrom_8 rfl (lv_at hl 0 rfl) ?_
  refine lv_lconst (pc := 9) (v := (0 : Int64)) hx hb d_xCover_firstPointFrom_9 (by decide) ?_
  refine kx_lcge (pc := 10) (tgt := 18) hx hb d_xCover_firstPointFrom_10 d_xCover_firstPointFrom_11 (by decide) (fun hc => ?_) (fun hc => ?_)
  · rw [if_pos hc] at hf
    refine lv_lload_n (pc := 18) hx hb d_xCover_firstPointFrom_18 rfl (lv_at hl 0 rfl) ?_
    refine lv_iload_n (pc := 19) hx hb d_xCover_firstPointFrom_19 rfl (lv_at hl 2 rfl) ?_
    refine lv_i2l (pc := 20) hx hb d_xCover_firstPointFrom_20 rfl ?_
    refine kx_lcle (pc := 21) (tgt := 29) hx hb d_xCover_firstPointFrom_21 d_xCover_firstPointFrom_22 (by decide) (fun hc => ?_) (fun hc => ?_)
    · rw [if_pos hc] at hf
      refine lv_lload_n (pc := 29) hx hb d_xCover_firstPointFrom_29 rfl (lv_at hl 0 rfl) ?_
      refine lv_l2i (pc := 30) hx hb d_xCover_firstPointFrom_30 rfl ?_
      have e_0 := kr1 hf
      rw [e_0]
      exact hRet 31 _ _ _ d_xCover_firstPointFrom_31 hP hD hS
    · rw [if_neg hc] at hf
      refine lv_iload_n (pc := 25) hx hb d_xCover_firstPointFrom_25 rfl (lv_at hl 2 rfl) ?_
      refine lv_goto (pc := 26) (tgt := 31) hx hb d_xCover_firstPointFrom_26 (by decide) ?_
      have e_0 := kr1 hf
      rw [e_0]
      exact hRet 31 _ _ _ d_xCover_firstPointFrom_31 hP hD hS
  · rw [if_neg hc] at hf
    refine lv_iconst (pc := 14) (v := (0 : Int32)) hx hb d_xCover_firstPointFrom_14 (by decide) ?_
    refine lv_goto (pc := 15) (tgt := 31) hx hb d_xCover_firstPointFrom_15 (by decide) ?_
    have e_0 := kr1 hf
    rw [e_0]
    exact hRet 31 _ _ _ d_xCover_firstPointFrom_31 hP hD hS
set_option maxHeartbeats 4000000 in
set_option maxRecDepth 100000 in
theorem ct_xCover_countPoints (l : Launch) (dC : Nat → ClassId) (dI : Nat → Nat → Nat) (q_o : Nat) (q_o_squares : Nat) (q_o_changes : Nat) (k_o_changes : ClassId) (k_o_squares : ClassId) (sz : Nat) (N : Nat) (x1 : Int32) (x2 : Int32) (v_o_width : Int32) (v_o_height : Int32) (v_o_top : Int64) (v_o_x : Int64) (v_o_y : Int64) (v_o_startX : Int64) (v_o_startY : Int64) (c_o_changes : (Nat → Int32)) (c_o_squares : (Nat → Int32)) (rv : Int32) (c_o_squares_z : (Nat → Int32)) (hf : xCover_countPoints N x1 x2 v_o_width c_o_changes c_o_squares = some (rv, c_o_squares_z)) : Met l y_xCover_countPoints w_xCover_countPoints ({ frames := 0, cells := 0, slots := 0, locals := 0 }) (va_Pc [.ref q_o, .int x1, .int x2] (fun U => U.heap.size = sz ∧ va_P (dC, dI) clz [(q_o, .inr (0, f_Cover q_o_squares q_o_changes v_o_width v_o_height v_o_top v_o_x v_o_y v_o_startX v_o_startY)), (q_o_changes, .inl (k_o_changes, 2048, .inl c_o_changes)), (q_o_squares, .inl (k_o_squares, 64, .inl c_o_squares))] U.heap ∧ va_K (dC, dI) clz [(k_o_changes, .int), (k_o_squares, .int)] U ∧ va_D (fun _ => True) [(q_o, .inr (0, f_Cover q_o_squares q_o_changes v_o_width v_o_height v_o_top v_o_x v_o_y v_o_startX v_o_startY)), (q_o_changes, .inl (k_o_changes, 2048, .inl c_o_changes)), (q_o_squares, .inl (k_o_squares, 64, .inl c_o_squares))])) (va_Qi (fun (r9 : Int32) (_ : Unit) => r9 = rv) (fun _ t => va_P (dC, dI) clz [(q_o, .inr (0, f_Cover q_o_squares q_o_changes v_o_width v_o_height v_o_top v_o_x v_o_y v_o_startX v_o_startY)), (q_o_changes, .inl (k_o_changes, 2048, .inl c_o_changes)), (q_o_squares, .inl (k_o_squares, 64, .inl c_o_squares_z))] t.heap ∧ va_K (dC, dI) clz [(k_o_changes, .int), (k_o_squares, .int)] t ∧ va_D (va_A [(q_o, .inr (0, f_Cover q_o_squares q_o_changes v_o_width v_o_height v_o_top v_o_x v_o_y v_o_startX v_o_startY)), (q_o_changes, .inl (k_o_changes, 2048, .inl c_o_changes)), (q_o_squares, .inl (k_o_squares, 64, .inl c_o_squares))] sz) [(q_o, .inr (0, f_Cover q_o_squares q_o_changes v_o_width v_o_height v_o_top v_o_x v_o_y v_o_startX v_o_startY)), (q_o_changes, .inl (k_o_changes, 2048, .inl c_o_changes)), (q_o_squares, .inl (k_o_squares, 64, .inl c_o_squares_z))]) (va_A [(q_o, .inr (0, f_Cover q_o_squares q_o_changes v_o_width v_o_height v_o_top v_o_x v_o_y v_o_startX v_o_startY)), (q_o_changes, .inl (k_o_changes, 2048, .inl c_o_changes)), (q_o_squares, .inl (k_o_squares, 64, .inl c_o_squares))] sz)) 0 0 (va_A [(q_o, .inr (0, f_Cover q_o_squares q_o_changes v_o_width v_o_height v_o_top v_o_x v_o_y v_o_startX v_o_startY)), (q_o_changes, .inl (k_o_changes, 2048, .inl c_o_changes)), (q_o_squares, .inl (k_o_squares, 64, .inl c_o_squares))] sz) := by
  refine Met.ofW (cc := prog_2_method_9_code) (maxL := 7) (ret := (some .int)) (by decide +kernel) rfl ?_
  intro p e s m args below meth c s₁ B hml hv
  obtain ⟨hargs, hsz, hP, hK, hD0⟩ := hv
  have hx := B.exec
  have hb := B.bytes
  have hr := B.returns
  have hts := atoms_spec (ws := w_xCover_countPoints) B.pre
  have hown : s.vm.findClass "PathTexts$Cover" = some m.cls := findClass_of_methodNamed B.named
  have hlocks := B.notSynchronized
  subst hsz
  have hD := hD0.self (sz := s.heap.size)
  generalize hAe : va_A [(q_o, .inr (0, f_Cover q_o_squares q_o_changes v_o_width v_o_height v_o_top v_o_x v_o_y v_o_startX v_o_startY)), (q_o_changes, .inl (k_o_changes, 2048, .inl c_o_changes)), (q_o_squares, .inl (k_o_squares, 64, .inl c_o_squares))] s.heap.size = A at hD ⊢
  have hA : ∀ q : Nat, s.heap.size ≤ q → A q := fun q h => by rw [← hAe]; exact Or.inr h
  clear hAe hD0
  have hS : va_S A s.heap s.heap [] := va_S.rf
  have hl := lv_entry ([.ref q_o, .int x1, .int x2]) (n := 7) (Nat.le_of_ble_eq_true rfl)
  have hent : entryFrame m args 7 = F0 m 0 (lg_sl ([.ref q_o, .int x1, .int x2]) ++ List.replicate (7 - (lg_sl ([.ref q_o, .int x1, .int x2])).length) Slot.unset).toArray [] := by rw [hargs, lg_entry_eq]
  rw [hent]
  clear hent hargs
  generalize (lg_sl ([.ref q_o, .int x1, .int x2]) ++ List.replicate (7 - (lg_sl ([.ref q_o, .int x1, .int x2])).length) Slot.unset).toArray = ls at hl ⊢
  have hl : lv_has ls 7 [(0, .ref q_o), (1, .int x1), (2, .int x2)] := hl
  suffices key : ∀ Q : State → Prop, (∀ (pc : Nat) (H : Heap) (locs : List Loc) (ls : Array Slot), decode prog_2_method_9_code pc = .ok (.ireturn, 1) → va_P (dC, dI) clz [(q_o, .inr (0, f_Cover q_o_squares q_o_changes v_o_width v_o_height v_o_top v_o_x v_o_y v_o_startX v_o_startY)), (q_o_changes, .inl (k_o_changes, 2048, .inl c_o_changes)), (q_o_squares, .inl (k_o_squares, 64, .inl c_o_squares_z))] H → va_D A [(q_o, .inr (0, f_Cover q_o_squares q_o_changes v_o_width v_o_height v_o_top v_o_x v_o_y v_o_startX v_o_startY)), (q_o_changes, .inl (k_o_changes, 2048, .inl c_o_changes)), (q_o_squares, .inl (k_o_squares, 64, .inl c_o_squares_z))] → va_S A s.heap H locs → W p l e (headSpec w_xCover_countPoints ({ frames := 0, cells := 0, slots := 0, locals := 0 })).room s m args below meth c H locs 0 0 Q (F0 m pc ls [.int rv])) → W p l e (headSpec w_xCover_countPoints ({ frames := 0, cells := 0, slots := 0, locals := 0 })).room s m args below meth c s.heap [] 0 0 Q (F0 m 0 ls []) from key _ (fun pc H locs ls hd hP hD hS => W.iret hx hb hr (fun t ht hW => ⟨⟨rv, (), rfl, rfl, by rw [ht]; exact hP, va_K.moved hW.alike hK, hD⟩, hS.F ht⟩) hS.2.2 hd)
  intro Q hRet
  have hb76 : ∀ (k5 : Int32 → Int32 → Int32 → Int32 → Int32 → (Nat → Int32) → (Nat → Int32) → Option (Int32 × (Nat → Int32))), (∀ (x1 : Int32) (x2 : Int32) (x3 : Int32) (x4 : Int32) (c_o_squares : (Nat → Int32)) (H : Heap) (locs : List Loc) (ls : Array Slot), k5 x1 x2 x3 x4 v_o_width c_o_changes c_o_squares = some (rv, c_o_squares_z) → va_P (dC, dI) clz [(q_o, .inr (0, f_Cover q_o_squares q_o_changes v_o_width v_o_height v_o_top v_o_x v_o_y v_o_startX v_o_startY)), (q_o_changes, .inl (k_o_changes, 2048, .inl c_o_changes)), (q_o_squares, .inl (k_o_squares, 64, .inl c_o_squares))] H → va_D A [(q_o, .inr (0, f_Cover q_o_squares q_o_changes v_o_width v_o_height v_o_top v_o_x v_o_y v_o_startX v_o_startY)), (q_o_changes, .inl (k_o_changes, 2048, .inl c_o_changes)), (q_o_squares, .inl (k_o_squares, 64, .inl c_o_squares))] → va_S A s.heap H locs → lv_has ls 7 [(0, .ref q_o), (1, .int x1), (2, .int x2), (3, .int x3), (4, .int x4)] → W p l e (headSpec w_xCover_countPoints ({ frames := 0, cells := 0, slots := 0, locals := 0 })).room s m args below meth c H locs 0 0 Q (F0 m 5 ls [])) → ∀ (k18 : Int32 → Int32 → Int32 → Int32 → Int32 → Int32 → Int32 → (Nat → Int32) → (Nat → Int32) → Option (Int32 × (Nat → Int32))), (∀ (x1 : Int32) (x2 : Int32) (x3 : Int32) (x4 : Int32) (x5 : Int32) (x6 : Int32) (c_o_squares : (Nat → Int32)) (H : Heap) (locs : List Loc) (ls : Array Slot), k18 x1 x2 x3 x4 x5 x6 v_o_width c_o_changes c_o_squares = some (rv, c_o_squares_z) → va_P (dC, dI) clz [(q_o, .inr (0, f_Cover q_o_squares q_o_changes v_o_width v_o_height v_o_top v_o_x v_o_y v_o_startX v_o_startY)), (q_o_changes, .inl (k_o_changes, 2048, .inl c_o_changes)), (q_o_squares, .inl (k_o_squares, 64, .inl c_o_squares))] H → va_D A [(q_o, .inr (0, f_Cover q_o_squares q_o_changes v_o_width v_o_height v_o_top v_o_x v_o_y v_o_startX v_o_startY)), (q_o_changes, .inl (k_o_changes, 2048, .inl c_o_changes)), (q_o_squares, .inl (k_o_squares, 64, .inl c_o_squares))] → va_S A s.heap H locs → lv_has ls 7 [(0, .ref q_o), (1, .int x1), (2, .int x2), (3, .int x3), (4, .int x4), (5, .int x5), (6, .int x6)] → W p l e (headSpec w_xCover_countPoints ({ frames := 0, cells := 0, slots := 0, locals := 0 })).room s m args below meth c H locs 0 0 Q (F0 m 18 ls [])) → ∀ (x1 : Int32) (x2 : Int32) (x3 : Int32) (x4 : Int32) (x5 : Int32) (x6 : Int32) (c_o_squares : (Nat → Int32)) (H : Heap) (locs : List Loc) (ls : Array Slot), xCover_countPoints_b76 N k5 k18 x1 x2 x3 x4 x5 x6 v_o_width c_o_changes c_o_squares = some (rv, c_o_squares_z) → va_P (dC, dI) clz [(q_o, .inr (0, f_Cover q_o_squares q_o_changes v_o_width v_o_height v_o_top v_o_x v_o_y v_o_startX v_o_startY)), (q_o_changes, .inl (k_o_changes, 2048, .inl c_o_changes)), (q_o_squares, .inl (k_o_squares, 64, .inl c_o_squares))] H → va_D A [(q_o, .inr (0, f_Cover q_o_squares q_o_changes v_o_width v_o_height v_o_top v_o_x v_o_y v_o_startX v_o_startY)), (q_o_changes, .inl (k_o_changes, 2048, .inl c_o_changes)), (q_o_squares, .inl (k_o_squares, 64, .inl c_o_squares))] → va_S A s.heap H locs → lv_has ls 7 [(0, .ref q_o), (1, .int x1), (2, .int x2), (3, .int x3), (4, .int x4), (5, .int x5), (6, .int x6)] → W p l e (headSpec w_xCover_countPoints ({ frames := 0, cells := 0, slots := 0, locals := 0 })).room s m args below meth c H locs 0 0 Q (F0 m 76 ls []) := by
    intro k5 hk5 k18 hk18
    intro x1 x2 x3 x4 x5 x6 c_o_squares H locs ls hf hP hD hS hl
    rw [xCover_countPoints_b76] at hf
    refine lv_aload_n (pc := 76) hx hb d_xCover_countPoints_76 rfl (lv_at hl 0 rfl) ?_
    refine va_get (pc := 77) (D := (dC, dI)) (ci := 0) (v := .ref q_o_squares) (C := "PathTexts$Cover") (T := F_Cover) (N := 9) hx hb hts (fun w h => List.mem_cons_of_mem _ (in_Cover w h)) hown hK hP 0 rfl rfl 0 (by decide) (hts _ (List.mem_cons_of_mem _ kw_128)) (fun _ h9 => h9) fg_Cover_0 d_xCover_countPoints_77 ?_
    refine lv_iload_n (pc := 80) hx hb d_xCover_countPoints_80 rfl (lv_at hl 1 rfl) ?_
    refine lv_bipush (pc := 81) (v := (8 : Int32)) hx hb d_xCover_countPoints_81 (by decide) ?_
    refine lv_imul (pc := 83) hx hb d_xCover_countPoints_83 ?_
    refine lv_iload (pc := 84) hx hb d_xCover_countPoints_84 (lv_at hl 6 rfl) ?_
    refine lv_bipush (pc := 86) (v := (16 : Int32)) hx hb d_xCover_countPoints_86 (by decide) ?_
    refine lv_idiv (pc := 88) hx hb d_xCover_countPoints_88 (by decide) ?_
    refine lv_iadd (pc := 89) hx hb d_xCover_countPoints_89 ?_
    refine lv_dup2_11 (pc := 90) hx hb d_xCover_countPoints_90 rfl rfl ?_
    obtain ⟨hg1, hf⟩ := kg_some hf
    refine va_iald (pc := 91) hx hb hK hP 2 1 rfl rfl (ki_in hg1) d_xCover_countPoints_91 ?_
    refine lv_iconst (pc := 92) (v := (1 : Int32)) hx hb d_xCover_countPoints_92 (by decide) ?_
    refine lv_iadd (pc := 93) hx hb d_xCover_countPoints_93 ?_
    obtain ⟨hg2, hf⟩ := kg_some hf
    refine kx_iast (pc := 94) (ws' := [(q_o, .inr (0, f_Cover q_o_squares q_o_changes v_o_width v_o_height v_o_top v_o_x v_o_y v_o_startX v_o_startY)), (q_o_changes, .inl (k_o_changes, 2048, .inl c_o_changes)), (q_o_squares, .inl (k_o_squares, 64, .inl (upd c_o_squares (((x1 * (8 : Int32)) + (x6 / (16 : Int32)))).toNatClampNeg ((c_o_squares (((x1 * (8 : Int32)) + (x6 / (16 : Int32)))).toNatClampNeg) + (1 : Int32)))))]) hx hb hK hP hD hS 2 1 rfl rfl (ki_in hg2) rfl d_xCover_countPoints_94 (fun H locs hP hD hS => ?_)
    refine lv_iinc (pc := 95) (v := (x3 + (1 : Int32))) (lv' := [(3, .int (x3 + (1 : Int32))), (0, .ref q_o), (1, .int x1), (2, .int x2), (4, .int x4), (5, .int x5), (6, .int x6)]) hx hb d_xCover_countPoints_95 hl (k := 3) rfl rfl (by decide) rfl (fun ls hl => ?_)
    refine lv_iinc (pc := 98) (v := (x6 + (1 : Int32))) (lv' := [(6, .int (x6 + (1 : Int32))), (3, .int (x3 + (1 : Int32))), (0, .ref q_o), (1, .int x1), (2, .int x2), (4, .int x4), (5, .int x5)]) hx hb d_xCover_countPoints_98 hl (k := 6) rfl rfl (by decide) rfl (fun ls hl => ?_)
    refine lv_goto (pc := 101) (tgt := 18) hx hb d_xCover_countPoints_101 (by decide) ?_
    exact hk18 x1 x2 (x3 + (1 : Int32)) x4 x5 (x6 + (1 : Int32)) (upd c_o_squares (((x1 * (8 : Int32)) + (x6 / (16 : Int32)))).toNatClampNeg ((c_o_squares (((x1 * (8 : Int32)) + (x6 / (16 : Int32)))).toNatClampNeg) + (1 : Int32))) _ _ _ hf hP hD hS (lv_sub hl [2, 3, 4, 1, 5, 6, 0] rfl)
  have hB18 : ∀ (k5 : Int32 → Int32 → Int32 → Int32 → Int32 → (Nat → Int32) → (Nat → Int32) → Option (Int32 × (Nat → Int32))), (∀ (x1 : Int32) (x2 : Int32) (x3 : Int32) (x4 : Int32) (c_o_squares : (Nat → Int32)) (H : Heap) (locs : List Loc) (ls : Array Slot), k5 x1 x2 x3 x4 v_o_width c_o_changes c_o_squares = some (rv, c_o_squares_z) → va_P (dC, dI) clz [(q_o, .inr (0, f_Cover q_o_squares q_o_changes v_o_width v_o_height v_o_top v_o_x v_o_y v_o_startX v_o_startY)), (q_o_changes, .inl (k_o_changes, 2048, .inl c_o_changes)), (q_o_squares, .inl (k_o_squares, 64, .inl c_o_squares))] H → va_D A [(q_o, .inr (0, f_Cover q_o_squares q_o_changes v_o_width v_o_height v_o_top v_o_x v_o_y v_o_startX v_o_startY)), (q_o_changes, .inl (k_o_changes, 2048, .inl c_o_changes)), (q_o_squares, .inl (k_o_squares, 64, .inl c_o_squares))] → va_S A s.heap H locs → lv_has ls 7 [(0, .ref q_o), (1, .int x1), (2, .int x2), (3, .int x3), (4, .int x4)] → W p l e (headSpec w_xCover_countPoints ({ frames := 0, cells := 0, slots := 0, locals := 0 })).room s m args below meth c H locs 0 0 Q (F0 m 5 ls [])) → ∀ (k18 : Int32 → Int32 → Int32 → Int32 → Int32 → Int32 → Int32 → (Nat → Int32) → (Nat → Int32) → Option (Int32 × (Nat → Int32))), (∀ (x1 : Int32) (x2 : Int32) (x3 : Int32) (x4 : Int32) (x5 : Int32) (x6 : Int32) (c_o_squares : (Nat → Int32)) (H : Heap) (locs : List Loc) (ls : Array Slot), k18 x1 x2 x3 x4 x5 x6 v_o_width c_o_changes c_o_squares = some (rv, c_o_squares_z) → va_P (dC, dI) clz [(q_o, .inr (0, f_Cover q_o_squares q_o_changes v_o_width v_o_height v_o_top v_o_x v_o_y v_o_startX v_o_startY)), (q_o_changes, .inl (k_o_changes, 2048, .inl c_o_changes)), (q_o_squares, .inl (k_o_squares, 64, .inl c_o_squares))] H → va_D A [(q_o, .inr (0, f_Cover q_o_squares q_o_changes v_o_width v_o_height v_o_top v_o_x v_o_y v_o_startX v_o_startY)), (q_o_changes, .inl (k_o_changes, 2048, .inl c_o_changes)), (q_o_squares, .inl (k_o_squares, 64, .inl c_o_squares))] → va_S A s.heap H locs → lv_has ls 7 [(0, .ref q_o), (1, .int x1), (2, .int x2), (3, .int x3), (4, .int x4), (5, .int x5), (6, .int x6)] → W p l e (headSpec w_xCover_countPoints ({ frames := 0, cells := 0, slots := 0, locals := 0 })).room s m args below meth c H locs 0 0 Q (F0 m 18 ls [])) → ∀ (x1 : Int32) (x2 : Int32) (x3 : Int32) (x4 : Int32) (x5 : Int32) (x6 : Int32) (c_o_squares : (Nat → Int32)) (H : Heap) (locs : List Loc) (ls : Array Slot), xCover_countPoints_B18 N k5 k18 x1 x2 x3 x4 x5 x6 v_o_width c_o_changes c_o_squares = some (rv, c_o_squares_z) → va_P (dC, dI) clz [(q_o, .inr (0, f_Cover q_o_squares q_o_changes v_o_width v_o_height v_o_top v_o_x v_o_y v_o_startX v_o_startY)), (q_o_changes, .inl (k_o_changes, 2048, .inl c_o_changes)), (q_o_squares, .inl (k_o_squares, 64, .inl c_o_squares))] H → va_D A [(q_o, .inr (0, f_Cover q_o_squares q_o_changes v_o_width v_o_height v_o_top v_o_x v_o_y v_o_startX v_o_startY)), (q_o_changes, .inl (k_o_changes, 2048, .inl c_o_changes)), (q_o_squares, .inl (k_o_squares, 64, .inl c_o_squares))] → va_S A s.heap H locs → lv_has ls 7 [(0, .ref q_o), (1, .int x1), (2, .int x2), (3, .int x3), (4, .int x4), (5, .int x5), (6, .int x6)] → W p l e (headSpec w_xCover_countPoints ({ frames := 0, cells := 0, slots := 0, locals := 0 })).room s m args below meth c H locs 0 0 Q (F0 m 18 ls []) := by
    intro k5 hk5 k18 hk18
    intro x1 x2 x3 x4 x5 x6 c_o_squares H locs ls hf hP hD hS hl
    rw [xCover_countPoints_B18] at hf
    refine lv_iload (pc := 18) hx hb d_xCover_countPoints_18 (lv_at hl 6 rfl) ?_
    refine lv_aload_n (pc := 20) hx hb d_xCover_countPoints_20 rfl (lv_at hl 0 rfl) ?_
    refine va_get (pc := 21) (D := (dC, dI)) (ci := 0) (v := .int v_o_width) (C := "PathTexts$Cover") (T := F_Cover) (N := 9) hx hb hts (fun w h => List.mem_cons_of_mem _ (in_Cover w h)) hown hK hP 0 rfl rfl 2 (by decide) (hts _ (List.mem_cons_of_mem _ kw_131)) (fun _ h9 => h9) fg_Cover_2 d_xCover_countPoints_21 ?_
    refine lv_bipush (pc := 24) (v := (16 : Int32)) hx hb d_xCover_countPoints_24 (by decide) ?_
    refine lv_imul (pc := 26) hx hb d_xCover_countPoints_26 ?_
    refine lv_icmp_ge (pc := 27) (tgt := 104) hx hb d_xCover_countPoints_27 (by decide) (fun hc => ?_) (fun hc => ?_)
    · rw [if_pos hc] at hf
      refine lv_iinc (pc := 104) (v := (x4 + (1 : Int32))) (lv' := [(4, .int (x4 + (1 : Int32))), (0, .ref q_o), (1, .int x1), (2, .int x2), (3, .int x3), (5, .int x5), (6, .int x6)]) hx hb d_xCover_countPoints_104 hl (k := 4) rfl rfl (by decide) rfl (fun ls hl => ?_)
      refine lv_goto (pc := 107) (tgt := 5) hx hb d_xCover_countPoints_107 (by decide) ?_
      exact hk5 x1 x2 x3 (x4 + (1 : Int32)) c_o_squares _ _ _ hf hP hD hS (lv_sub hl [1, 2, 3, 4, 0] rfl)
    · rw [if_neg hc] at hf
      refine lv_iload (pc := 30) hx hb d_xCover_countPoints_30 (lv_at hl 6 rfl) ?_
      refine lv_sipush (pc := 32) (v := (128 : Int32)) hx hb d_xCover_countPoints_32 (by decide) ?_
      refine lv_icmp_ge (pc := 35) (tgt := 104) hx hb d_xCover_countPoints_35 (by decide) (fun hc => ?_) (fun hc => ?_)
      · rw [if_pos hc] at hf
        refine lv_iinc (pc := 104) (v := (x4 + (1 : Int32))) (lv' := [(4, .int (x4 + (1 : Int32))), (0, .ref q_o), (1, .int x1), (2, .int x2), (3, .int x3), (5, .int x5), (6, .int x6)]) hx hb d_xCover_countPoints_104 hl (k := 4) rfl rfl (by decide) rfl (fun ls hl => ?_)
        refine lv_goto (pc := 107) (tgt := 5) hx hb d_xCover_countPoints_107 (by decide) ?_
        exact hk5 x1 x2 x3 (x4 + (1 : Int32)) c_o_squares _ _ _ hf hP hD hS (lv_sub hl [1, 2, 3, 4, 0] rfl)
      · rw [if_neg hc] at hf
        refine lv_iload (pc := 38) hx hb d_xCover_countPoints_38 (lv_at hl 5 rfl) ?_
        refine lv_aload_n (pc := 40) hx hb d_xCover_countPoints_40 rfl (lv_at hl 0 rfl) ?_
        refine va_get (pc := 41) (D := (dC, dI)) (ci := 0) (v := .ref q_o_changes) (C := "PathTexts$Cover") (T := F_Cover) (N := 9) hx hb hts (fun w h => List.mem_cons_of_mem _ (in_Cover w h)) hown hK hP 0 rfl rfl 1 (by decide) (hts _ (List.mem_cons_of_mem _ kw_130)) (fun _ h9 => h9) fg_Cover_1 d_xCover_countPoints_41 ?_
        refine lv_iload (pc := 44) hx hb d_xCover_countPoints_44 (lv_at hl 4 rfl) ?_
        refine lv_sipush (pc := 46) (v := (128 : Int32)) hx hb d_xCover_countPoints_46 (by decide) ?_
        refine lv_imul (pc := 49) hx hb d_xCover_countPoints_49 ?_
        refine lv_iload (pc := 50) hx hb d_xCover_countPoints_50 (lv_at hl 6 rfl) ?_
        refine lv_iadd (pc := 52) hx hb d_xCover_countPoints_52 ?_
        obtain ⟨hg3, hf⟩ := kg_some hf
        refine va_iald (pc := 53) hx hb hK hP 1 0 rfl rfl (ki_in hg3) d_xCover_countPoints_53 ?_
        refine lv_iadd (pc := 54) hx hb d_xCover_countPoints_54 ?_
        refine lv_istore (pc := 55) (lv' := [(5, .int (x5 + (c_o_changes (((x4 * (128 : Int32)) + x6)).toNatClampNeg))), (0, .ref q_o), (1, .int x1), (2, .int x2), (3, .int x3), (4, .int x4), (6, .int x6)]) hx hb d_xCover_countPoints_55 hl (by decide) rfl (fun ls hl => ?_)
        refine lv_iload_n (pc := 57) hx hb d_xCover_countPoints_57 rfl (lv_at hl 3 rfl) ?_
        refine lv_if_ne (pc := 58) (tgt := 69) hx hb d_xCover_countPoints_58 (by decide) (fun hc => ?_) (fun hc => ?_)
        · rw [if_neg hc] at hf
          refine lv_iload (pc := 69) hx hb d_xCover_countPoints_69 (lv_at hl 0 rfl) ?_
          refine lv_iconst (pc := 71) (v := (2 : Int32)) hx hb d_xCover_countPoints_71 (by decide) ?_
          refine lv_irem (pc := 72) hx hb d_xCover_countPoints_72 (by decide) ?_
          refine lv_if_eq (pc := 73) (tgt := 98) hx hb d_xCover_countPoints_73 (by decide) (fun hc => ?_) (fun hc => ?_)
          · rw [if_pos hc] at hf
            refine lv_iinc (pc := 98) (v := (x6 + (1 : Int32))) (lv' := [(6, .int (x6 + (1 : Int32))), (5, .int (x5 + (c_o_changes (((x4 * (128 : Int32)) + x6)).toNatClampNeg))), (0, .ref q_o), (1, .int x1), (2, .int x2), (3, .int x3), (4, .int x4)]) hx hb d_xCover_countPoints_98 hl (k := 6) rfl rfl (by decide) rfl (fun ls hl => ?_)
            refine lv_goto (pc := 101) (tgt := 18) hx hb d_xCover_countPoints_101 (by decide) ?_
            exact hk18 x1 x2 x3 x4 (x5 + (c_o_changes (((x4 * (128 : Int32)) + x6)).toNatClampNeg)) (x6 + (1 : Int32)) c_o_squares _ _ _ hf hP hD hS (lv_sub hl [2, 3, 4, 5, 6, 1, 0] rfl)
          · rw [if_neg hc] at hf
            exact hb76 k5 hk5 k18 hk18 x1 x2 x3 x4 (x5 + (c_o_changes (((x4 * (128 : Int32)) + x6)).toNatClampNeg)) x6 c_o_squares _ _ _ hf hP hD hS (lv_sub hl [1, 2, 3, 4, 5, 0, 6] rfl)
        · rw [if_pos hc] at hf
          refine lv_iload (pc := 61) hx hb d_xCover_countPoints_61 (lv_at hl 0 rfl) ?_
          refine lv_if_eq (pc := 63) (tgt := 98) hx hb d_xCover_countPoints_63 (by decide) (fun hc => ?_) (fun hc => ?_)
          · rw [if_pos hc] at hf
            refine lv_iinc (pc := 98) (v := (x6 + (1 : Int32))) (lv' := [(6, .int (x6 + (1 : Int32))), (5, .int (x5 + (c_o_changes (((x4 * (128 : Int32)) + x6)).toNatClampNeg))), (0, .ref q_o), (1, .int x1), (2, .int x2), (3, .int x3), (4, .int x4)]) hx hb d_xCover_countPoints_98 hl (k := 6) rfl rfl (by decide) rfl (fun ls hl => ?_)
            refine lv_goto (pc := 101) (tgt := 18) hx hb d_xCover_countPoints_101 (by decide) ?_
            exact hk18 x1 x2 x3 x4 (x5 + (c_o_changes (((x4 * (128 : Int32)) + x6)).toNatClampNeg)) (x6 + (1 : Int32)) c_o_squares _ _ _ hf hP hD hS (lv_sub hl [2, 3, 4, 5, 6, 1, 0] rfl)
          · rw [if_neg hc] at hf
            refine lv_goto (pc := 66) (tgt := 76) hx hb d_xCover_countPoints_66 (by decide) ?_
            exact hb76 k5 hk5 k18 hk18 x1 x2 x3 x4 (x5 + (c_o_changes (((x4 * (128 : Int32)) + x6)).toNatClampNeg)) x6 c_o_squares _ _ _ hf hP hD hS (lv_sub hl [1, 2, 3, 4, 5, 0, 6] rfl)
  have hL18 : ∀ (k5 : Int32 → Int32 → Int32 → Int32 → Int32 → (Nat → Int32) → (Nat → Int32) → Option (Int32 × (Nat → Int32))), (∀ (x1 : Int32) (x2 : Int32) (x3 : Int32) (x4 : Int32) (c_o_squares : (Nat → Int32)) (H : Heap) (locs : List Loc) (ls : Array Slot), k5 x1 x2 x3 x4 v_o_width c_o_changes c_o_squares = some (rv, c_o_squares_z) → va_P (dC, dI) clz [(q_o, .inr (0, f_Cover q_o_squares q_o_changes v_o_width v_o_height v_o_top v_o_x v_o_y v_o_startX v_o_startY)), (q_o_changes, .inl (k_o_changes, 2048, .inl c_o_changes)), (q_o_squares, .inl (k_o_squares, 64, .inl c_o_squares))] H → va_D A [(q_o, .inr (0, f_Cover q_o_squares q_o_changes v_o_width v_o_height v_o_top v_o_x v_o_y v_o_startX v_o_startY)), (q_o_changes, .inl (k_o_changes, 2048, .inl c_o_changes)), (q_o_squares, .inl (k_o_squares, 64, .inl c_o_squares))] → va_S A s.heap H locs → lv_has ls 7 [(0, .ref q_o), (1, .int x1), (2, .int x2), (3, .int x3), (4, .int x4)] → W p l e (headSpec w_xCover_countPoints ({ frames := 0, cells := 0, slots := 0, locals := 0 })).room s m args below meth c H locs 0 0 Q (F0 m 5 ls [])) → ∀ n : Nat, ∀ (x1 : Int32) (x2 : Int32) (x3 : Int32) (x4 : Int32) (x5 : Int32) (x6 : Int32) (c_o_squares : (Nat → Int32)) (H : Heap) (locs : List Loc) (ls : Array Slot), (xCover_countPoints_L18 N k5 n) x1 x2 x3 x4 x5 x6 v_o_width c_o_changes c_o_squares = some (rv, c_o_squares_z) → va_P (dC, dI) clz [(q_o, .inr (0, f_Cover q_o_squares q_o_changes v_o_width v_o_height v_o_top v_o_x v_o_y v_o_startX v_o_startY)), (q_o_changes, .inl (k_o_changes, 2048, .inl c_o_changes)), (q_o_squares, .inl (k_o_squares, 64, .inl c_o_squares))] H → va_D A [(q_o, .inr (0, f_Cover q_o_squares q_o_changes v_o_width v_o_height v_o_top v_o_x v_o_y v_o_startX v_o_startY)), (q_o_changes, .inl (k_o_changes, 2048, .inl c_o_changes)), (q_o_squares, .inl (k_o_squares, 64, .inl c_o_squares))] → va_S A s.heap H locs → lv_has ls 7 [(0, .ref q_o), (1, .int x1), (2, .int x2), (3, .int x3), (4, .int x4), (5, .int x5), (6, .int x6)] → W p l e (headSpec w_xCover_countPoints ({ frames := 0, cells := 0, slots := 0, locals := 0 })).room s m args below meth c H locs 0 0 Q (F0 m 18 ls []) := by
    intro k5 hk5 n
    induction n with
    | zero => intro x1 x2 x3 x4 x5 x6 c_o_squares H locs ls hf hP hD hS hl; have hf : none = some (rv, c_o_squares_z) := hf; cases hf
    | succ n ih => exact hB18 k5 hk5 (xCover_countPoints_L18 N k5 n) ih
  have hB5 : ∀ (k5 : Int32 → Int32 → Int32 → Int32 → Int32 → (Nat → Int32) → (Nat → Int32) → Option (Int32 × (Nat → Int32))), (∀ (x1 : Int32) (x2 : Int32) (x3 : Int32) (x4 : Int32) (c_o_squares : (Nat → Int32)) (H : Heap) (locs : List Loc) (ls : Array Slot), k5 x1 x2 x3 x4 v_o_width c_o_changes c_o_squares = some (rv, c_o_squares_z) → va_P (dC, dI) clz [(q_o, .inr (0, f_Cover q_o_squares q_o_changes v_o_width v_o_height v_o_top v_o_x v_o_y v_o_startX v_o_startY)), (q_o_changes, .inl (k_o_changes, 2048, .inl c_o_changes)), (q_o_squares, .inl (k_o_squares, 64, .inl c_o_squares))] H → va_D A [(q_o, .inr (0, f_Cover q_o_squares q_o_changes v_o_width v_o_height v_o_top v_o_x v_o_y v_o_startX v_o_startY)), (q_o_changes, .inl (k_o_changes, 2048, .inl c_o_changes)), (q_o_squares, .inl (k_o_squares, 64, .inl c_o_squares))] → va_S A s.heap H locs → lv_has ls 7 [(0, .ref q_o), (1, .int x1), (2, .int x2), (3, .int x3), (4, .int x4)] → W p l e (headSpec w_xCover_countPoints ({ frames := 0, cells := 0, slots := 0, locals := 0 })).room s m args below meth c H locs 0 0 Q (F0 m 5 ls [])) → ∀ (x1 : Int32) (x2 : Int32) (x3 : Int32) (x4 : Int32) (c_o_squares : (Nat → Int32)) (H : Heap) (locs : List Loc) (ls : Array Slot), xCover_countPoints_B5 N k5 x1 x2 x3 x4 v_o_width c_o_changes c_o_squares = some (rv, c_o_squares_z) → va_P (dC, dI) clz [(q_o, .inr (0, f_Cover q_o_squares q_o_changes v_o_width v_o_height v_o_top v_o_x v_o_y v_o_startX v_o_startY)), (q_o_changes, .inl (k_o_changes, 2048, .inl c_o_changes)), (q_o_squares, .inl (k_o_squares, 64, .inl c_o_squares))] H → va_D A [(q_o, .inr (0, f_Cover q_o_squares q_o_changes v_o_width v_o_height v_o_top v_o_x v_o_y v_o_startX v_o_startY)), (q_o_changes, .inl (k_o_changes, 2048, .inl c_o_changes)), (q_o_squares, .inl (k_o_squares, 64, .inl c_o_squares))] → va_S A s.heap H locs → lv_has ls 7 [(0, .ref q_o), (1, .int x1), (2, .int x2), (3, .int x3), (4, .int x4)] → W p l e (headSpec w_xCover_countPoints ({ frames := 0, cells := 0, slots := 0, locals := 0 })).room s m args below meth c H locs 0 0 Q (F0 m 5 ls []) := by
    intro k5 hk5
    intro x1 x2 x3 x4 c_o_squares H locs ls hf hP hD hS hl
    rw [xCover_countPoints_B5] at hf
    refine lv_iload (pc := 5) hx hb d_xCover_countPoints_5 (lv_at hl 4 rfl) ?_
    refine lv_bipush (pc := 7) (v := (16 : Int32)) hx hb d_xCover_countPoints_7 (by decide) ?_
    refine lv_icmp_ge (pc := 9) (tgt := 110) hx hb d_xCover_countPoints_9 (by decide) (fun hc => ?_) (fun hc => ?_)
    · rw [if_pos hc] at hf
      refine lv_iload_n (pc := 110) hx hb d_xCover_countPoints_110 rfl (lv_at hl 3 rfl) ?_
      obtain ⟨e_0, e_1⟩ := kr2 hf
      rw [e_0]
      exact hRet 111 _ _ _ d_xCover_countPoints_111 (by rw [← e_1]; exact hP) (by rw [← e_1]; exact hD) hS
    · rw [if_neg hc] at hf
      refine lv_iconst (pc := 12) (v := (0 : Int32)) hx hb d_xCover_countPoints_12 (by decide) ?_
      refine lv_istore (pc := 13) (lv' := [(5, .int (0 : Int32)), (0, .ref q_o), (1, .int x1), (2, .int x2), (3, .int x3), (4, .int x4)]) hx hb d_xCover_countPoints_13 hl (by decide) rfl (fun ls hl => ?_)
      refine lv_iconst (pc := 15) (v := (0 : Int32)) hx hb d_xCover_countPoints_15 (by decide) ?_
      refine lv_istore (pc := 16) (lv' := [(6, .int (0 : Int32)), (5, .int (0 : Int32)), (0, .ref q_o), (1, .int x1), (2, .int x2), (3, .int x3), (4, .int x4)]) hx hb d_xCover_countPoints_16 hl (by decide) rfl (fun ls hl => ?_)
      exact hL18 k5 hk5 N x1 x2 x3 x4 (0 : Int32) (0 : Int32) c_o_squares _ _ _ hf hP hD hS (lv_sub hl [2, 3, 4, 5, 6, 1, 0] rfl)
  have hL5 : ∀ n : Nat, ∀ (x1 : Int32) (x2 : Int32) (x3 : Int32) (x4 : Int32) (c_o_squares : (Nat → Int32)) (H : Heap) (locs : List Loc) (ls : Array Slot), (xCover_countPoints_L5 N n) x1 x2 x3 x4 v_o_width c_o_changes c_o_squares = some (rv, c_o_squares_z) → va_P (dC, dI) clz [(q_o, .inr (0, f_Cover q_o_squares q_o_changes v_o_width v_o_height v_o_top v_o_x v_o_y v_o_startX v_o_startY)), (q_o_changes, .inl (k_o_changes, 2048, .inl c_o_changes)), (q_o_squares, .inl (k_o_squares, 64, .inl c_o_squares))] H → va_D A [(q_o, .inr (0, f_Cover q_o_squares q_o_changes v_o_width v_o_height v_o_top v_o_x v_o_y v_o_startX v_o_startY)), (q_o_changes, .inl (k_o_changes, 2048, .inl c_o_changes)), (q_o_squares, .inl (k_o_squares, 64, .inl c_o_squares))] → va_S A s.heap H locs → lv_has ls 7 [(0, .ref q_o), (1, .int x1), (2, .int x2), (3, .int x3), (4, .int x4)] → W p l e (headSpec w_xCover_countPoints ({ frames := 0, cells := 0, slots := 0, locals := 0 })).room s m args below meth c H locs 0 0 Q (F0 m 5 ls []) := by
    intro n
    induction n with
    | zero => intro x1 x2 x3 x4 c_o_squares H locs ls hf hP hD hS hl; have hf : none = some (rv, c_o_squares_z) := hf; cases hf
    | succ n ih => exact hB5 (xCover_countPoints_L5 N n) ih
  rw [xCover_countPoints] at hf
  refine lv_iconst (pc := 0) (v := (0 : Int32)) hx hb d_xCover_countPoints_0 (by decide) ?_
  refine lv_istore_n (pc := 1) (lv' := [(3, .int (0 : Int32)), (0, .ref q_o), (1, .int x1), (2, .int x2)]) hx hb d_xCover_countPoints_1 rfl hl (by decide) rfl (fun ls hl => ?_)
  refine lv_iconst (pc := 2) (v := (0 : Int32)) hx hb d_xCover_countPoints_2 (by decide) ?_
  refine lv_istore (pc := 3) (lv' := [(4, .int (0 : Int32)), (3, .int (0 : Int32)), (0, .ref q_o), (1, .int x1), (2, .int x2)]) hx hb d_xCover_countPoints_3 hl (by decide) rfl (fun ls hl => ?_)
  exact hL5 N x1 x2 (0 : Int32) (0 : Int32) c_o_squares _ _ _ hf hP hD hS (lv_sub hl [2, 3, 4, 1, 0] rfl)
set_option maxHeartbeats 4000000 in
set_option maxRecDepth 100000 in
theorem ct_xP_bound (l : Launch) (dC : Nat → ClassId) (dI : Nat → Nat → Nat) (q_o : Nat) (q_o_text : Nat) (q_o_written : Nat) (q_o_reader : Nat) (q_o_cover : Nat) (q_o_given : Nat) (q_o_drawing : Nat) (q_o_spare : Nat) (q_o_drawing_kinds : Nat) (q_o_drawing_numbers : Nat) (k_o_drawing_kinds : ClassId) (k_o_drawing_numbers : ClassId) (sz : Nat) (tt : Nat) (N : Nat) (x1 : Int32) (v_o_drawing_count : Int32) (c_o_drawing_kinds : (Nat → Int32)) (c_o_drawing_numbers : (Nat → Int32)) (rv : Int32) (hf : xP_bound N x1 v_o_drawing_count c_o_drawing_kinds c_o_drawing_numbers = some rv) : Met l y_xP_bound w_xP_bound ({ frames := 2, cells := 0, slots := 0, locals := 47 }) (va_Pc [.ref q_o, .int x1] (fun U => U.heap.size = sz ∧ va_P (dC, dI) clz [(q_o, .inr (6, f_P q_o_text q_o_written q_o_reader q_o_cover q_o_given q_o_drawing q_o_spare)), (q_o_drawing, .inr (1, f_Drawing q_o_drawing_kinds q_o_drawing_numbers v_o_drawing_count)), (q_o_drawing_kinds, .inl (k_o_drawing_kinds, 150, .inl c_o_drawing_kinds)), (q_o_drawing_numbers, .inl (k_o_drawing_numbers, 900, .inl c_o_drawing_numbers))] U.heap ∧ va_K (dC, dI) clz [(k_o_drawing_kinds, .int), (k_o_drawing_numbers, .int)] U ∧ va_D (fun _ => True) [(q_o, .inr (6, f_P q_o_text q_o_written q_o_reader q_o_cover q_o_given q_o_drawing q_o_spare)), (q_o_drawing, .inr (1, f_Drawing q_o_drawing_kinds q_o_drawing_numbers v_o_drawing_count)), (q_o_drawing_kinds, .inl (k_o_drawing_kinds, 150, .inl c_o_drawing_kinds)), (q_o_drawing_numbers, .inl (k_o_drawing_numbers, 900, .inl c_o_drawing_numbers))] ∧ ke tt (va_A [(q_o, .inr (6, f_P q_o_text q_o_written q_o_reader q_o_cover q_o_given q_o_drawing q_o_spare)), (q_o_drawing, .inr (1, f_Drawing q_o_drawing_kinds q_o_drawing_numbers v_o_drawing_count)), (q_o_drawing_kinds, .inl (k_o_drawing_kinds, 150, .inl c_o_drawing_kinds)), (q_o_drawing_numbers, .inl (k_o_drawing_numbers, 900, .inl c_o_drawing_numbers))] sz) U)) (va_Qi (fun (r9 : Int32) (_ : Unit) => r9 = rv) (fun _ t => va_P (dC, dI) clz [(q_o, .inr (6, f_P q_o_text q_o_written q_o_reader q_o_cover q_o_given q_o_drawing q_o_spare)), (q_o_drawing, .inr (1, f_Drawing q_o_drawing_kinds q_o_drawing_numbers v_o_drawing_count)), (q_o_drawing_kinds, .inl (k_o_drawing_kinds, 150, .inl c_o_drawing_kinds)), (q_o_drawing_numbers, .inl (k_o_drawing_numbers, 900, .inl c_o_drawing_numbers))] t.heap ∧ va_K (dC, dI) clz [(k_o_drawing_kinds, .int), (k_o_drawing_numbers, .int)] t ∧ va_D (va_A [(q_o, .inr (6, f_P q_o_text q_o_written q_o_reader q_o_cover q_o_given q_o_drawing q_o_spare)), (q_o_drawing, .inr (1, f_Drawing q_o_drawing_kinds q_o_drawing_numbers v_o_drawing_count)), (q_o_drawing_kinds, .inl (k_o_drawing_kinds, 150, .inl c_o_drawing_kinds)), (q_o_drawing_numbers, .inl (k_o_drawing_numbers, 900, .inl c_o_drawing_numbers))] sz) [(q_o, .inr (6, f_P q_o_text q_o_written q_o_reader q_o_cover q_o_given q_o_drawing q_o_spare)), (q_o_drawing, .inr (1, f_Drawing q_o_drawing_kinds q_o_drawing_numbers v_o_drawing_count)), (q_o_drawing_kinds, .inl (k_o_drawing_kinds, 150, .inl c_o_drawing_kinds)), (q_o_drawing_numbers, .inl (k_o_drawing_numbers, 900, .inl c_o_drawing_numbers))]) (va_A [(q_o, .inr (6, f_P q_o_text q_o_written q_o_reader q_o_cover q_o_given q_o_drawing q_o_spare)), (q_o_drawing, .inr (1, f_Drawing q_o_drawing_kinds q_o_drawing_numbers v_o_drawing_count)), (q_o_drawing_kinds, .inl (k_o_drawing_kinds, 150, .inl c_o_drawing_kinds)), (q_o_drawing_numbers, .inl (k_o_drawing_numbers, 900, .inl c_o_drawing_numbers))] sz)) 0 0 (va_A [(q_o, .inr (6, f_P q_o_text q_o_written q_o_reader q_o_cover q_o_given q_o_drawing q_o_spare)), (q_o_drawing, .inr (1, f_Drawing q_o_drawing_kinds q_o_drawing_numbers v_o_drawing_count)), (q_o_drawing_kinds, .inl (k_o_drawing_kinds, 150, .inl c_o_drawing_kinds)), (q_o_drawing_numbers, .inl (k_o_drawing_numbers, 900, .inl c_o_drawing_numbers))] sz) := by
  refine Met.ofW (cc := prog_1_method_14_code) (maxL := 2) (ret := (some .int)) (by decide +kernel) rfl ?_
  intro p e s m args below meth c s₁ B hml hv
  obtain ⟨hargs, hsz, hP, hK, hD0, hE⟩ := hv
  have hx := B.exec
  have hb := B.bytes
  have hr := B.returns
  have hts := atoms_spec (ws := w_xP_bound) B.pre
  have hown : s.vm.findClass "PathTexts" = some m.cls := findClass_of_methodNamed B.named
  have hlocks := B.notSynchronized
  subst hsz
  have hD := hD0.self (sz := s.heap.size)
  generalize hAe : va_A [(q_o, .inr (6, f_P q_o_text q_o_written q_o_reader q_o_cover q_o_given q_o_drawing q_o_spare)), (q_o_drawing, .inr (1, f_Drawing q_o_drawing_kinds q_o_drawing_numbers v_o_drawing_count)), (q_o_drawing_kinds, .inl (k_o_drawing_kinds, 150, .inl c_o_drawing_kinds)), (q_o_drawing_numbers, .inl (k_o_drawing_numbers, 900, .inl c_o_drawing_numbers))] s.heap.size = A at hD hE ⊢
  have hA : ∀ q : Nat, s.heap.size ≤ q → A q := fun q h => by rw [← hAe]; exact Or.inr h
  clear hAe hD0
  have hS : va_S A s.heap s.heap [] := va_S.rf
  have hl := lv_entry ([.ref q_o, .int x1]) (n := 2) (Nat.le_of_ble_eq_true rfl)
  have hent : entryFrame m args 2 = F0 m 0 (lg_sl ([.ref q_o, .int x1]) ++ List.replicate (2 - (lg_sl ([.ref q_o, .int x1])).length) Slot.unset).toArray [] := by rw [hargs, lg_entry_eq]
  rw [hent]
  clear hent hargs
  generalize (lg_sl ([.ref q_o, .int x1]) ++ List.replicate (2 - (lg_sl ([.ref q_o, .int x1])).length) Slot.unset).toArray = ls at hl ⊢
  have hl : lv_has ls 2 [(0, .ref q_o), (1, .int x1)] := hl
  suffices key : ∀ Q : State → Prop, (∀ (pc : Nat) (H : Heap) (locs : List Loc) (ls : Array Slot), decode prog_1_method_14_code pc = .ok (.ireturn, 1) → va_P (dC, dI) clz [(q_o, .inr (6, f_P q_o_text q_o_written q_o_reader q_o_cover q_o_given q_o_drawing q_o_spare)), (q_o_drawing, .inr (1, f_Drawing q_o_drawing_kinds q_o_drawing_numbers v_o_drawing_count)), (q_o_drawing_kinds, .inl (k_o_drawing_kinds, 150, .inl c_o_drawing_kinds)), (q_o_drawing_numbers, .inl (k_o_drawing_numbers, 900, .inl c_o_drawing_numbers))] H → va_D A [(q_o, .inr (6, f_P q_o_text q_o_written q_o_reader q_o_cover q_o_given q_o_drawing q_o_spare)), (q_o_drawing, .inr (1, f_Drawing q_o_drawing_kinds q_o_drawing_numbers v_o_drawing_count)), (q_o_drawing_kinds, .inl (k_o_drawing_kinds, 150, .inl c_o_drawing_kinds)), (q_o_drawing_numbers, .inl (k_o_drawing_numbers, 900, .inl c_o_drawing_numbers))] → va_S A s.heap H locs → W p l e (headSpec w_xP_bound ({ frames := 2, cells := 0, slots := 0, locals := 47 })).room s m args below meth c H locs 0 0 Q (F0 m pc ls [.int rv])) → W p l e (headSpec w_xP_bound ({ frames := 2, cells := 0, slots := 0, locals := 47 })).room s m args below meth c s.heap [] 0 0 Q (F0 m 0 ls []) from key _ (fun pc H locs ls hd hP hD hS => W.iret hx hb hr (fun t ht hW => ⟨⟨rv, (), rfl, rfl, by rw [ht]; exact hP, va_K.moved hW.alike hK, hD⟩, hS.F ht⟩) hS.2.2 hd)
  intro Q hRet
  have hb30 : ∀ (s1 : Int32) (s2 : Int32) (H : Heap) (locs : List Loc) (ls : Array Slot), xP_bound_b30 N s1 s2 v_o_drawing_count c_o_drawing_kinds c_o_drawing_numbers = some rv → va_P (dC, dI) clz [(q_o, .inr (6, f_P q_o_text q_o_written q_o_reader q_o_cover q_o_given q_o_drawing q_o_spare)), (q_o_drawing, .inr (1, f_Drawing q_o_drawing_kinds q_o_drawing_numbers v_o_drawing_count)), (q_o_drawing_kinds, .inl (k_o_drawing_kinds, 150, .inl c_o_drawing_kinds)), (q_o_drawing_numbers, .inl (k_o_drawing_numbers, 900, .inl c_o_drawing_numbers))] H → va_D A [(q_o, .inr (6, f_P q_o_text q_o_written q_o_reader q_o_cover q_o_given q_o_drawing q_o_spare)), (q_o_drawing, .inr (1, f_Drawing q_o_drawing_kinds q_o_drawing_numbers v_o_drawing_count)), (q_o_drawing_kinds, .inl (k_o_drawing_kinds, 150, .inl c_o_drawing_kinds)), (q_o_drawing_numbers, .inl (k_o_drawing_numbers, 900, .inl c_o_drawing_numbers))] → va_S A s.heap H locs → lv_has ls 2 [] → W p l e (headSpec w_xP_bound ({ frames := 2, cells := 0, slots := 0, locals := 47 })).room s m args below meth c H locs 0 0 Q (F0 m 30 ls [.int s2, .int s1, .ref q_o_drawing]) := by
    intro s1 s2 H locs ls hf hP hD hS hl
    rw [xP_bound_b30] at hf
    obtain ⟨r30, hz, hf⟩ := kb1_some hf
    have hPc := hP.sub (ws' := [(q_o_drawing, .inr (1, f_Drawing q_o_drawing_kinds q_o_drawing_numbers v_o_drawing_count)), (q_o_drawing_kinds, .inl (k_o_drawing_kinds, 150, .inl c_o_drawing_kinds)), (q_o_drawing_numbers, .inl (k_o_drawing_numbers, 900, .inl c_o_drawing_numbers))]) [1, 2, 3] rfl
    have hDc := hD.sub (ws' := [(q_o_drawing, .inr (1, f_Drawing q_o_drawing_kinds q_o_drawing_numbers v_o_drawing_count)), (q_o_drawing_kinds, .inl (k_o_drawing_kinds, 150, .inl c_o_drawing_kinds)), (q_o_drawing_numbers, .inl (k_o_drawing_numbers, 900, .inl c_o_drawing_numbers))]) [1, 2, 3] (by decide) rfl
    have hKc := hK.sub (tys' := [(k_o_drawing_kinds, .int), (k_o_drawing_numbers, .int)]) [0, 1] rfl
    have hFc := va_free (wc := [(q_o_drawing, .inr (1, f_Drawing q_o_drawing_kinds q_o_drawing_numbers v_o_drawing_count)), (q_o_drawing_kinds, .inl (k_o_drawing_kinds, 150, .inl c_o_drawing_kinds)), (q_o_drawing_numbers, .inl (k_o_drawing_numbers, 900, .inl c_o_drawing_numbers))]) hD hS hA [1, 2, 3] rfl
    refine va_calli (pc := 30) (va_runV (As := [.int s1, .int s2]) (rest := []) ⟨hx, hb, hml, hown, hts⟩ (ct_xDrawing_extreme l dC dI q_o_drawing q_o_drawing_kinds q_o_drawing_numbers k_o_drawing_kinds k_o_drawing_numbers _ tt N s1 s2 v_o_drawing_count c_o_drawing_kinds c_o_drawing_numbers r30 hz) (cwV 2 hts (kw_in4 kw_394 kw_395 kw_396 kw_7 kw_397) rfl rfl rfl (by decide +kernel) ⟨Nat.le_of_ble_eq_true rfl, Nat.le_of_ble_eq_true rfl⟩) (ke_preV hPc hKc hDc hE hS hFc 0 rfl rfl) rfl rfl hl.1 rfl (lv_room (Nat.le_of_ble_eq_true rfl)) d_xP_bound_30 ⟨Nat.le_of_ble_eq_true rfl, Nat.le_of_ble_eq_true rfl⟩) hS (fun q _ h => hFc q h) hFc (fun r9 u t H1 locs ht hvm hw hB hz1 hk1 hS => ?_)
    obtain ⟨hP1, hK1, hD1⟩ := hB
    rw [ht] at hP1
    have hw := hw.symm
    subst hw
    obtain ⟨hP, hD⟩ := va_join (wr := [(q_o, .inr (6, f_P q_o_text q_o_written q_o_reader q_o_cover q_o_given q_o_drawing q_o_spare))]) (w1 := [(q_o_drawing, .inr (1, f_Drawing q_o_drawing_kinds q_o_drawing_numbers v_o_drawing_count)), (q_o_drawing_kinds, .inl (k_o_drawing_kinds, 150, .inl c_o_drawing_kinds)), (q_o_drawing_numbers, .inl (k_o_drawing_numbers, 900, .inl c_o_drawing_numbers))]) hP hD [1, 2, 3] [0] rfl rfl (by decide) (by decide) hk1 hFc hP1 hD1
    have hP := hP.sub (ws' := [(q_o, .inr (6, f_P q_o_text q_o_written q_o_reader q_o_cover q_o_given q_o_drawing q_o_spare)), (q_o_drawing, .inr (1, f_Drawing q_o_drawing_kinds q_o_drawing_numbers v_o_drawing_count)), (q_o_drawing_kinds, .inl (k_o_drawing_kinds, 150, .inl c_o_drawing_kinds)), (q_o_drawing_numbers, .inl (k_o_drawing_numbers, 900, .inl c_o_drawing_numbers))]) [0, 1, 2, 3] rfl
    have hD := hD.sub (ws' := [(q_o, .inr (6, f_P q_o_text q_o_written q_o_reader q_o_cover q_o_given q_o_drawing q_o_spare)), (q_o_drawing, .inr (1, f_Drawing q_o_drawing_kinds q_o_drawing_numbers v_o_drawing_count)), (q_o_drawing_kinds, .inl (k_o_drawing_kinds, 150, .inl c_o_drawing_kinds)), (q_o_drawing_numbers, .inl (k_o_drawing_numbers, 900, .inl c_o_drawing_numbers))]) [0, 1, 2, 3] (by decide) rfl
    clear hP1 hK1 hD1 hk1 hPc hDc hKc hFc hz1 hvm ht hz
    generalize H1 = H at hP hS ⊢
    have e_0 := kr1 hf
    rw [e_0]
    exact hRet 33 _ _ _ d_xP_bound_33 hP hD hS
  rw [xP_bound] at hf
  refine lv_iload_n (pc := 0) hx hb d_xP_bound_0 rfl (lv_at hl 1 rfl) ?_
  refine lv_if_lt (pc := 1) (tgt := 9) hx hb d_xP_bound_1 (by decide) (fun hc => ?_) (fun hc => ?_)
  · rw [if_pos hc] at hf
    refine lv_iconst (pc := 9) (v := (-1 : Int32)) hx hb d_xP_bound_9 (by decide) ?_
    refine lv_goto (pc := 10) (tgt := 33) hx hb d_xP_bound_10 (by decide) ?_
    have e_0 := kr1 hf
    rw [e_0]
    exact hRet 33 _ _ _ d_xP_bound_33 hP hD hS
  · rw [if_neg hc] at hf
    refine lv_iload_n (pc := 4) hx hb d_xP_bound_4 rfl (lv_at hl 1 rfl) ?_
    refine lv_iconst (pc := 5) (v := (3 : Int32)) hx hb d_xP_bound_5 (by decide) ?_
    refine lv_icmp_le (pc := 6) (tgt := 13) hx hb d_xP_bound_6 (by decide) (fun hc => ?_) (fun hc => ?_)
    · rw [if_pos hc] at hf
      refine lv_aload_n (pc := 13) hx hb d_xP_bound_13 rfl (lv_at hl 0 rfl) ?_
      refine va_get (pc := 14) (D := (dC, dI)) (ci := 6) (v := .ref q_o_drawing) (C := "PathTexts") (T := F_P) (N := 7) hx hb hts (fun w h => List.mem_cons_of_mem _ (in_P w h)) hown hK hP 0 rfl rfl 5 (by decide) (hts _ (List.mem_cons_of_mem _ kw_191)) (fun _ h9 => h9) fg_P_5 d_xP_bound_14 ?_
      refine lv_iload_n (pc := 17) hx hb d_xP_bound_17 rfl (lv_at hl 1 rfl) ?_
      refine lv_iconst (pc := 18) (v := (2 : Int32)) hx hb d_xP_bound_18 (by decide) ?_
      refine lv_irem (pc := 19) hx hb d_xP_bound_19 (by decide) ?_
      refine lv_iload_n (pc := 20) hx hb d_xP_bound_20 rfl (lv_at hl 1 rfl) ?_
      refine lv_iconst (pc := 21) (v := (2 : Int32)) hx hb d_xP_bound_21 (by decide) ?_
      refine lv_icmp_lt (pc := 22) (tgt := 29) hx hb d_xP_bound_22 (by decide) (fun hc => ?_) (fun hc => ?_)
      · rw [if_pos hc] at hf
        refine lv_iconst (pc := 29) (v := (0 : Int32)) hx hb d_xP_bound_29 (by decide) ?_
        exact hb30 (x1 - x1 / (2 : Int32) * (2 : Int32)) (0 : Int32) _ _ _ hf hP hD hS (lv_sub hl [] rfl)
      · rw [if_neg hc] at hf
        refine lv_iconst (pc := 25) (v := (1 : Int32)) hx hb d_xP_bound_25 (by decide) ?_
        refine lv_goto (pc := 26) (tgt := 30) hx hb d_xP_bound_26 (by decide) ?_
        exact hb30 (x1 - x1 / (2 : Int32) * (2 : Int32)) (1 : Int32) _ _ _ hf hP hD hS (lv_sub hl [] rfl)
    · rw [if_neg hc] at hf
      refine lv_iconst (pc := 9) (v := (-1 : Int32)) hx hb d_xP_bound_9 (by decide) ?_
      refine lv_goto (pc := 10) (tgt := 33) hx hb d_xP_bound_10 (by decide) ?_
      have e_0 := kr1 hf
      rw [e_0]
      exact hRet 33 _ _ _ d_xP_bound_33 hP hD hS
set_option maxHeartbeats 4000000 in
set_option maxRecDepth 100000 in
theorem ct_xP_told (l : Launch) (dC : Nat → ClassId) (dI : Nat → Nat → Nat) (q_o : Nat) (q_o_text : Nat) (q_o_written : Nat) (q_o_reader : Nat) (q_o_cover : Nat) (q_o_given : Nat) (q_o_drawing : Nat) (q_o_spare : Nat) (q_o_drawing_kinds : Nat) (q_o_drawing_numbers : Nat) (q_o_written_characters : Nat) (q_o_text_characters : Nat) (k_o_drawing_kinds : ClassId) (sz : Nat) (N : Nat) (x1 : Int32) (v_o_drawing_count : Int32) (c_o_drawing_kinds : (Nat → Int32)) (v_o_written_length : Int32) (v_o_text_length : Int32) (rv : Int32) (hf : xP_told N x1 v_o_drawing_count c_o_drawing_kinds v_o_written_length v_o_text_length = some rv) : Met l y_xP_told w_xP_told ({ frames := 1, cells := 0, slots := 0, locals := 23 }) (va_Pc [.ref q_o, .int x1] (fun U => U.heap.size = sz ∧ va_P (dC, dI) clz [(q_o, .inr (6, f_P q_o_text q_o_written q_o_reader q_o_cover q_o_given q_o_drawing q_o_spare)), (q_o_drawing, .inr (1, f_Drawing q_o_drawing_kinds q_o_drawing_numbers v_o_drawing_count)), (q_o_drawing_kinds, .inl (k_o_drawing_kinds, 150, .inl c_o_drawing_kinds)), (q_o_written, .inr (5, f_Row q_o_written_characters v_o_written_length)), (q_o_text, .inr (5, f_Row q_o_text_characters v_o_text_length))] U.heap ∧ va_K (dC, dI) clz [(k_o_drawing_kinds, .int)] U ∧ va_D (fun _ => True) [(q_o, .inr (6, f_P q_o_text q_o_written q_o_reader q_o_cover q_o_given q_o_drawing q_o_spare)), (q_o_drawing, .inr (1, f_Drawing q_o_drawing_kinds q_o_drawing_numbers v_o_drawing_count)), (q_o_drawing_kinds, .inl (k_o_drawing_kinds, 150, .inl c_o_drawing_kinds)), (q_o_written, .inr (5, f_Row q_o_written_characters v_o_written_length)), (q_o_text, .inr (5, f_Row q_o_text_characters v_o_text_length))])) (va_Qi (fun (r9 : Int32) (_ : Unit) => r9 = rv) (fun _ t => va_P (dC, dI) clz [(q_o, .inr (6, f_P q_o_text q_o_written q_o_reader q_o_cover q_o_given q_o_drawing q_o_spare)), (q_o_drawing, .inr (1, f_Drawing q_o_drawing_kinds q_o_drawing_numbers v_o_drawing_count)), (q_o_drawing_kinds, .inl (k_o_drawing_kinds, 150, .inl c_o_drawing_kinds)), (q_o_written, .inr (5, f_Row q_o_written_characters v_o_written_length)), (q_o_text, .inr (5, f_Row q_o_text_characters v_o_text_length))] t.heap ∧ va_K (dC, dI) clz [(k_o_drawing_kinds, .int)] t ∧ va_D (va_A [(q_o, .inr (6, f_P q_o_text q_o_written q_o_reader q_o_cover q_o_given q_o_drawing q_o_spare)), (q_o_drawing, .inr (1, f_Drawing q_o_drawing_kinds q_o_drawing_numbers v_o_drawing_count)), (q_o_drawing_kinds, .inl (k_o_drawing_kinds, 150, .inl c_o_drawing_kinds)), (q_o_written, .inr (5, f_Row q_o_written_characters v_o_written_length)), (q_o_text, .inr (5, f_Row q_o_text_characters v_o_text_length))] sz) [(q_o, .inr (6, f_P q_o_text q_o_written q_o_reader q_o_cover q_o_given q_o_drawing q_o_spare)), (q_o_drawing, .inr (1, f_Drawing q_o_drawing_kinds q_o_drawing_numbers v_o_drawing_count)), (q_o_drawing_kinds, .inl (k_o_drawing_kinds, 150, .inl c_o_drawing_kinds)), (q_o_written, .inr (5, f_Row q_o_written_characters v_o_written_length)), (q_o_text, .inr (5, f_Row q_o_text_characters v_o_text_length))]) (va_A [(q_o, .inr (6, f_P q_o_text q_o_written q_o_reader q_o_cover q_o_given q_o_drawing q_o_spare)), (q_o_drawing, .inr (1, f_Drawing q_o_drawing_kinds q_o_drawing_numbers v_o_drawing_count)), (q_o_drawing_kinds, .inl (k_o_drawing_kinds, 150, .inl c_o_drawing_kinds)), (q_o_written, .inr (5, f_Row q_o_written_characters v_o_written_length)), (q_o_text, .inr (5, f_Row q_o_text_characters v_o_text_length))] sz)) 0 0 (va_A [(q_o, .inr (6, f_P q_o_text q_o_written q_o_reader q_o_cover q_o_given q_o_drawing q_o_spare)), (q_o_drawing, .inr (1, f_Drawing q_o_drawing_kinds q_o_drawing_numbers v_o_drawing_count)), (q_o_drawing_kinds, .inl (k_o_drawing_kinds, 150, .inl c_o_drawing_kinds)), (q_o_written, .inr (5, f_Row q_o_written_characters v_o_written_length)), (q_o_text, .inr (5, f_Row q_o_text_characters v_o_text_length))] sz) := by
  refine Met.ofW (cc := prog_1_method_15_code) (maxL := 2) (ret := (some .int)) (by decide +kernel) rfl ?_
  intro p e s m args below meth c s₁ B hml hv
  obtain ⟨hargs, hsz, hP, hK, hD0⟩ := hv
  have hx := B.exec
  have hb := B.bytes
  have hr := B.returns
  have hts := atoms_spec (ws := w_xP_told) B.pre
  have hown : s.vm.findClass "PathTexts" = some m.cls := findClass_of_methodNamed B.named
  have hlocks := B.notSynchronized
  subst hsz
  have hD := hD0.self (sz := s.heap.size)
  generalize hAe : va_A [(q_o, .inr (6, f_P q_o_text q_o_written q_o_reader q_o_cover q_o_given q_o_drawing q_o_spare)), (q_o_drawing, .inr (1, f_Drawing q_o_drawing_kinds q_o_drawing_numbers v_o_drawing_count)), (q_o_drawing_kinds, .inl (k_o_drawing_kinds, 150, .inl c_o_drawing_kinds)), (q_o_written, .inr (5, f_Row q_o_written_characters v_o_written_length)), (q_o_text, .inr (5, f_Row q_o_text_characters v_o_text_length))] s.heap.size = A at hD ⊢
  have hA : ∀ q : Nat, s.heap.size ≤ q → A q := fun q h => by rw [← hAe]; exact Or.inr h
  clear hAe hD0
  have hS : va_S A s.heap s.heap [] := va_S.rf
  have hl := lv_entry ([.ref q_o, .int x1]) (n := 2) (Nat.le_of_ble_eq_true rfl)
  have hent : entryFrame m args 2 = F0 m 0 (lg_sl ([.ref q_o, .int x1]) ++ List.replicate (2 - (lg_sl ([.ref q_o, .int x1])).length) Slot.unset).toArray [] := by rw [hargs, lg_entry_eq]
  rw [hent]
  clear hent hargs
  generalize (lg_sl ([.ref q_o, .int x1]) ++ List.replicate (2 - (lg_sl ([.ref q_o, .int x1])).length) Slot.unset).toArray = ls at hl ⊢
  have hl : lv_has ls 2 [(0, .ref q_o), (1, .int x1)] := hl
  suffices key : ∀ Q : State → Prop, (∀ (pc : Nat) (H : Heap) (locs : List Loc) (ls : Array Slot), decode prog_1_method_15_code pc = .ok (.ireturn, 1) → va_P (dC, dI) clz [(q_o, .inr (6, f_P q_o_text q_o_written q_o_reader q_o_cover q_o_given q_o_drawing q_o_spare)), (q_o_drawing, .inr (1, f_Drawing q_o_drawing_kinds q_o_drawing_numbers v_o_drawing_count)), (q_o_drawing_kinds, .inl (k_o_drawing_kinds, 150, .inl c_o_drawing_kinds)), (q_o_written, .inr (5, f_Row q_o_written_characters v_o_written_length)), (q_o_text, .inr (5, f_Row q_o_text_characters v_o_text_length))] H → va_D A [(q_o, .inr (6, f_P q_o_text q_o_written q_o_reader q_o_cover q_o_given q_o_drawing q_o_spare)), (q_o_drawing, .inr (1, f_Drawing q_o_drawing_kinds q_o_drawing_numbers v_o_drawing_count)), (q_o_drawing_kinds, .inl (k_o_drawing_kinds, 150, .inl c_o_drawing_kinds)), (q_o_written, .inr (5, f_Row q_o_written_characters v_o_written_length)), (q_o_text, .inr (5, f_Row q_o_text_characters v_o_text_length))] → va_S A s.heap H locs → W p l e (headSpec w_xP_told ({ frames := 1, cells := 0, slots := 0, locals := 23 })).room s m args below meth c H locs 0 0 Q (F0 m pc ls [.int rv])) → W p l e (headSpec w_xP_told ({ frames := 1, cells := 0, slots := 0, locals := 23 })).room s m args below meth c s.heap [] 0 0 Q (F0 m 0 ls []) from key _ (fun pc H locs ls hd hP hD hS => W.iret hx hb hr (fun t ht hW => ⟨⟨rv, (), rfl, rfl, by rw [ht]; exact hP, va_K.moved hW.alike hK, hD⟩, hS.F ht⟩) hS.2.2 hd)
  intro Q hRet
  rw [xP_told] at hf
  refine lv_iload_n (pc := 0) hx hb d_xP_told_0 rfl (lv_at hl 1 rfl) ?_
  by_cases hc0 : x1 = (0 : Int32)
  · rw [if_pos hc0] at hf
    refine lv_tableIn (pc := 1) (tgt := 32) hx hb d_xP_told_1 (by rw [hc0]; decide) (by rw [hc0]; decide) (by rw [hc0]; rfl) (by decide) ?_
    refine lv_aload_n (pc := 32) hx hb d_xP_told_32 rfl (lv_at hl 0 rfl) ?_
    refine va_get (pc := 33) (D := (dC, dI)) (ci := 6) (v := .ref q_o_drawing) (C := "PathTexts") (T := F_P) (N := 7) hx hb hts (fun w h => List.mem_cons_of_mem _ (in_P w h)) hown hK hP 0 rfl rfl 5 (by decide) (hts _ (List.mem_cons_of_mem _ kw_191)) (fun _ h9 => h9) fg_P_5 d_xP_told_33 ?_
    refine va_get (pc := 36) (D := (dC, dI)) (ci := 1) (v := .int v_o_drawing_count) (C := "PathTexts$Drawing") (T := F_Drawing) (N := 3) hx hb hts (fun w h => List.mem_cons_of_mem _ (in_Drawing w h)) hown hK hP 1 rfl rfl 2 (by decide) (hts _ (List.mem_cons_of_mem _ kw_178)) (fun _ h9 => h9) fg_Drawing_2 d_xP_told_36 ?_
    have e_0 := kr1 hf
    rw [e_0]
    exact hRet 39 _ _ _ d_xP_told_39 hP hD hS
  rw [if_neg hc0] at hf
  by_cases hc1 : x1 = (1 : Int32)
  · rw [if_pos hc1] at hf
    refine lv_tableIn (pc := 1) (tgt := 40) hx hb d_xP_told_1 (by rw [hc1]; decide) (by rw [hc1]; decide) (by rw [hc1]; rfl) (by decide) ?_
    refine lv_aload_n (pc := 40) hx hb d_xP_told_40 rfl (lv_at hl 0 rfl) ?_
    refine va_get (pc := 41) (D := (dC, dI)) (ci := 6) (v := .ref q_o_text) (C := "PathTexts") (T := F_P) (N := 7) hx hb hts (fun w h => List.mem_cons_of_mem _ (in_P w h)) hown hK hP 0 rfl rfl 0 (by decide) (hts _ (List.mem_cons_of_mem _ kw_186)) (fun _ h9 => h9) fg_P_0 d_xP_told_41 ?_
    refine va_get (pc := 44) (D := (dC, dI)) (ci := 5) (v := .int v_o_text_length) (C := "PathTexts$Row") (T := F_Row) (N := 2) hx hb hts (fun w h => List.mem_cons_of_mem _ (in_Row w h)) hown hK hP 4 rfl rfl 1 (by decide) (hts _ (List.mem_cons_of_mem _ kw_37)) (fun _ h9 => h9) fg_Row_1 d_xP_told_44 ?_
    have e_0 := kr1 hf
    rw [e_0]
    exact hRet 47 _ _ _ d_xP_told_47 hP hD hS
  rw [if_neg hc1] at hf
  by_cases hc2 : x1 = (2 : Int32)
  · rw [if_pos hc2] at hf
    refine lv_tableIn (pc := 1) (tgt := 48) hx hb d_xP_told_1 (by rw [hc2]; decide) (by rw [hc2]; decide) (by rw [hc2]; rfl) (by decide) ?_
    refine lv_aload_n (pc := 48) hx hb d_xP_told_48 rfl (lv_at hl 0 rfl) ?_
    refine va_get (pc := 49) (D := (dC, dI)) (ci := 6) (v := .ref q_o_written) (C := "PathTexts") (T := F_P) (N := 7) hx hb hts (fun w h => List.mem_cons_of_mem _ (in_P w h)) hown hK hP 0 rfl rfl 1 (by decide) (hts _ (List.mem_cons_of_mem _ kw_187)) (fun _ h9 => h9) fg_P_1 d_xP_told_49 ?_
    refine va_get (pc := 52) (D := (dC, dI)) (ci := 5) (v := .int v_o_written_length) (C := "PathTexts$Row") (T := F_Row) (N := 2) hx hb hts (fun w h => List.mem_cons_of_mem _ (in_Row w h)) hown hK hP 3 rfl rfl 1 (by decide) (hts _ (List.mem_cons_of_mem _ kw_37)) (fun _ h9 => h9) fg_Row_1 d_xP_told_52 ?_
    have e_0 := kr1 hf
    rw [e_0]
    exact hRet 55 _ _ _ d_xP_told_55 hP hD hS
  rw [if_neg hc2] at hf
  by_cases hc3 : x1 = (3 : Int32)
  · rw [if_pos hc3] at hf
    refine lv_tableIn (pc := 1) (tgt := 56) hx hb d_xP_told_1 (by rw [hc3]; decide) (by rw [hc3]; decide) (by rw [hc3]; rfl) (by decide) ?_
    refine lv_aload_n (pc := 56) hx hb d_xP_told_56 rfl (lv_at hl 0 rfl) ?_
    refine va_get (pc := 57) (D := (dC, dI)) (ci := 6) (v := .ref q_o_drawing) (C := "PathTexts") (T := F_P) (N := 7) hx hb hts (fun w h => List.mem_cons_of_mem _ (in_P w h)) hown hK hP 0 rfl rfl 5 (by decide) (hts _ (List.mem_cons_of_mem _ kw_191)) (fun _ h9 => h9) fg_P_5 d_xP_told_57 ?_
    obtain ⟨r60, hz, hf⟩ := kb1_some hf
    have hPc := hP.sub (ws' := [(q_o_drawing, .inr (1, f_Drawing q_o_drawing_kinds q_o_drawing_numbers v_o_drawing_count)), (q_o_drawing_kinds, .inl (k_o_drawing_kinds, 150, .inl c_o_drawing_kinds))]) [1, 2] rfl
    have hDc := hD.sub (ws' := [(q_o_drawing, .inr (1, f_Drawing q_o_drawing_kinds q_o_drawing_numbers v_o_drawing_count)), (q_o_drawing_kinds, .inl (k_o_drawing_kinds, 150, .inl c_o_drawing_kinds))]) [1, 2] (by decide) rfl
    have hKc := hK.sub (tys' := [(k_o_drawing_kinds, .int)]) [0] rfl
    have hFc := va_free (wc := [(q_o_drawing, .inr (1, f_Drawing q_o_drawing_kinds q_o_drawing_numbers v_o_drawing_count)), (q_o_drawing_kinds, .inl (k_o_drawing_kinds, 150, .inl c_o_drawing_kinds))]) hD hS hA [1, 2] rfl
    refine va_calli (pc := 60) (va_runV (As := []) (rest := []) ⟨hx, hb, hml, hown, hts⟩ (ct_xDrawing_edges l dC dI q_o_drawing q_o_drawing_kinds q_o_drawing_numbers k_o_drawing_kinds _ N v_o_drawing_count c_o_drawing_kinds r60 hz) (cwV 0 hts (kw_in4 kw_402 kw_403 kw_404 kw_7 kw_405) rfl rfl rfl (by decide +kernel) ⟨Nat.le_of_ble_eq_true rfl, Nat.le_of_ble_eq_true rfl⟩) (kx_preV hPc hKc hDc 0 rfl rfl) rfl rfl hl.1 rfl (lv_room (Nat.le_of_ble_eq_true rfl)) d_xP_told_60 ⟨Nat.le_of_ble_eq_true rfl, Nat.le_of_ble_eq_true rfl⟩) hS (fun q _ h => hFc q h) hFc (fun r9 u t H1 locs ht hvm hw hB hz1 hk1 hS => ?_)
    obtain ⟨hP1, hK1, hD1⟩ := hB
    rw [ht] at hP1
    have hw := hw.symm
    subst hw
    obtain ⟨hP, hD⟩ := va_join (wr := [(q_o, .inr (6, f_P q_o_text q_o_written q_o_reader q_o_cover q_o_given q_o_drawing q_o_spare)), (q_o_written, .inr (5, f_Row q_o_written_characters v_o_written_length)), (q_o_text, .inr (5, f_Row q_o_text_characters v_o_text_length))]) (w1 := [(q_o_drawing, .inr (1, f_Drawing q_o_drawing_kinds q_o_drawing_numbers v_o_drawing_count)), (q_o_drawing_kinds, .inl (k_o_drawing_kinds, 150, .inl c_o_drawing_kinds))]) hP hD [1, 2] [0, 3, 4] rfl rfl (by decide) (by decide) hk1 hFc hP1 hD1
    have hP := hP.sub (ws' := [(q_o, .inr (6, f_P q_o_text q_o_written q_o_reader q_o_cover q_o_given q_o_drawing q_o_spare)), (q_o_drawing, .inr (1, f_Drawing q_o_drawing_kinds q_o_drawing_numbers v_o_drawing_count)), (q_o_drawing_kinds, .inl (k_o_drawing_kinds, 150, .inl c_o_drawing_kinds)), (q_o_written, .inr (5, f_Row q_o_written_characters v_o_written_length)), (q_o_text, .inr (5, f_Row q_o_text_characters v_o_text_length))]) [0, 3, 4, 1, 2] rfl
    have hD := hD.sub (ws' := [(q_o, .inr (6, f_P q_o_text q_o_written q_o_reader q_o_cover q_o_given q_o_drawing q_o_spare)), (q_o_drawing, .inr (1, f_Drawing q_o_drawing_kinds q_o_drawing_numbers v_o_drawing_count)), (q_o_drawing_kinds, .inl (k_o_drawing_kinds, 150, .inl c_o_drawing_kinds)), (q_o_written, .inr (5, f_Row q_o_written_characters v_o_written_length)), (q_o_text, .inr (5, f_Row q_o_text_characters v_o_text_length))]) [0, 3, 4, 1, 2] (by decide) rfl
    clear hP1 hK1 hD1 hk1 hPc hDc hKc hFc hz1 hvm ht hz
    generalize H1 = H at hP hS ⊢
    have e_0 := kr1 hf
    rw [e_0]
    exact hRet 63 _ _ _ d_xP_told_63 hP hD hS
  rw [if_neg hc3] at hf
  have hn0 := lv_neT hc0 (a := 0) (by decide)
  have hn1 := lv_neT hc1 (a := 1) (by decide)
  have hn2 := lv_neT hc2 (a := 2) (by decide)
  have hn3 := lv_neT hc3 (a := 3) (by decide)
  by_cases hr9 : x1.toInt < 0 ∨ 3 < x1.toInt
  · refine lv_tableOut (pc := 1) (tgt := 64) hx hb d_xP_told_1 hr9 (by decide) ?_
    refine lv_iconst (pc := 64) (v := (-1 : Int32)) hx hb d_xP_told_64 (by decide) ?_
    have e_0 := kr1 hf
    rw [e_0]
    exact hRet 65 _ _ _ d_xP_told_65 hP hD hS
  · exfalso; omega
