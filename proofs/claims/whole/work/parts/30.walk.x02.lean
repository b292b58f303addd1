set_option maxHeartbeats 4000000 in
set_option maxRecDepth 100000 in
theorem ct_xMatrices_open (l : Launch) (dC : Nat → ClassId) (dI : Nat → Nat → Nat) (q_o : Nat) (q_o_rows : Nat) (q_p1 : Nat) (k_o_rows : ClassId) (k_p1 : ClassId) (sz : Nat) (tt : Nat) (N : Nat) (v_o_depth : Int32) (c_o_rows : (Nat → Int64)) (c_p1 : (Nat → Int64)) (rv : Int32) (v_o_depth_z : Int32) (c_o_rows_z : (Nat → Int64)) (hf : xMatrices_open N v_o_depth c_o_rows c_p1 = some (rv, v_o_depth_z, c_o_rows_z)) : Met l y_xMatrices_open w_xMatrices_open ({ frames := 3, cells := 0, slots := 0, locals := 77 }) (va_Pc [.ref q_o, .ref q_p1] (fun U => U.heap.size = sz ∧ va_P (dC, dI) clz [(q_o, .inr (2, f_Matrices q_o_rows v_o_depth)), (q_o_rows, .inl (k_o_rows, 54, .inr (.inl c_o_rows))), (q_p1, .inl (k_p1, 6, .inr (.inl c_p1)))] U.heap ∧ va_K (dC, dI) clz [(k_o_rows, .long), (k_p1, .long)] U ∧ va_D (fun _ => True) [(q_o, .inr (2, f_Matrices q_o_rows v_o_depth)), (q_o_rows, .inl (k_o_rows, 54, .inr (.inl c_o_rows))), (q_p1, .inl (k_p1, 6, .inr (.inl c_p1)))] ∧ ke tt (va_A [(q_o, .inr (2, f_Matrices q_o_rows v_o_depth)), (q_o_rows, .inl (k_o_rows, 54, .inr (.inl c_o_rows))), (q_p1, .inl (k_p1, 6, .inr (.inl c_p1)))] sz) U)) (va_Qi (fun (r9 : Int32) (_ : Unit) => r9 = rv) (fun _ t => va_P (dC, dI) clz [(q_o, .inr (2, f_Matrices q_o_rows v_o_depth_z)), (q_o_rows, .inl (k_o_rows, 54, .inr (.inl c_o_rows_z))), (q_p1, .inl (k_p1, 6, .inr (.inl c_p1)))] t.heap ∧ va_K (dC, dI) clz [(k_o_rows, .long), (k_p1, .long)] t ∧ va_D (va_A [(q_o, .inr (2, f_Matrices q_o_rows v_o_depth)), (q_o_rows, .inl (k_o_rows, 54, .inr (.inl c_o_rows))), (q_p1, .inl (k_p1, 6, .inr (.inl c_p1)))] sz) [(q_o, .inr (2, f_Matrices q_o_rows v_o_depth_z)), (q_o_rows, .inl (k_o_rows, 54, .inr (.inl c_o_rows_z))), (q_p1, .inl (k_p1, 6, .inr (.inl c_p1)))]) (va_A [(q_o, .inr (2, f_Matrices q_o_rows v_o_depth)), (q_o_rows, .inl (k_o_rows, 54, .inr (.inl c_o_rows))), (q_p1, .inl (k_p1, 6, .inr (.inl c_p1)))] sz)) 0 0 (va_A [(q_o, .inr (2, f_Matrices q_o_rows v_o_depth)), (q_o_rows, .inl (k_o_rows, 54, .inr (.inl c_o_rows))), (q_p1, .inl (k_p1, 6, .inr (.inl c_p1)))] sz) := by
  refine Met.ofW (cc := prog_4_method_4_code) (maxL := 6) (ret := (some .boolean)) (by decide +kernel) rfl ?_
  intro p e s m args below meth c s₁ B hml hv
  obtain ⟨hargs, hsz, hP, hK, hD0, hE⟩ := hv
  have hx := B.exec
  have hb := B.bytes
  have hr := B.returns
  have hts := atoms_spec (ws := w_xMatrices_open) B.pre
  have hown : s.vm.findClass "PathTexts$Matrices" = some m.cls := findClass_of_methodNamed B.named
  have hlocks := B.notSynchronized
  subst hsz
  have hD := hD0.self (sz := s.heap.size)
  generalize hAe : va_A [(q_o, .inr (2, f_Matrices q_o_rows v_o_depth)), (q_o_rows, .inl (k_o_rows, 54, .inr (.inl c_o_rows))), (q_p1, .inl (k_p1, 6, .inr (.inl c_p1)))] s.heap.size = A at hD hE ⊢
  have hA : ∀ q : Nat, s.heap.size ≤ q → A q := fun q h => by rw [← hAe]; exact Or.inr h
  clear hAe hD0
  have hS : va_S A s.heap s.heap [] := va_S.rf
  have hl := lv_entry ([.ref q_o, .ref q_p1]) (n := 6) (Nat.le_of_ble_eq_true rfl)
  have hent : entryFrame m args 6 = F0 m 0 (lg_sl ([.ref q_o, .ref q_p1]) ++ List.replicate (6 - (lg_sl ([.ref q_o, .ref q_p1])).length) Slot.unset).toArray [] := by rw [hargs, lg_entry_eq]
  rw [hent]
  clear hent hargs
  generalize (lg_sl ([.ref q_o, .ref q_p1]) ++ List.replicate (6 - (lg_sl ([.ref q_o, .ref q_p1])).length) Slot.unset).toArray = ls at hl ⊢
  have hl : lv_has ls 6 [(0, .ref q_o), (1, .ref q_p1)] := hl
  suffices key : ∀ Q : State → Prop, (∀ (hn9 : narrow .boolean (.int rv) = .int rv) (pc : Nat) (H : Heap) (locs : List Loc) (ls : Array Slot), decode prog_4_method_4_code pc = .ok (.ireturn, 1) → va_P (dC, dI) clz [(q_o, .inr (2, f_Matrices q_o_rows v_o_depth_z)), (q_o_rows, .inl (k_o_rows, 54, .inr (.inl c_o_rows_z))), (q_p1, .inl (k_p1, 6, .inr (.inl c_p1)))] H → va_D A [(q_o, .inr (2, f_Matrices q_o_rows v_o_depth_z)), (q_o_rows, .inl (k_o_rows, 54, .inr (.inl c_o_rows_z))), (q_p1, .inl (k_p1, 6, .inr (.inl c_p1)))] → va_S A s.heap H locs → W p l e (headSpec w_xMatrices_open ({ frames := 3, cells := 0, slots := 0, locals := 77 })).room s m args below meth c H locs 0 0 Q (F0 m pc ls [.int rv])) → W p l e (headSpec w_xMatrices_open ({ frames := 3, cells := 0, slots := 0, locals := 77 })).room s m args below meth c s.heap [] 0 0 Q (F0 m 0 ls []) from key _ (fun hn9 pc H locs ls hd hP hD hS => W.zret hx hb hr hn9 (fun t ht hW => ⟨⟨rv, (), rfl, rfl, by rw [ht]; exact hP, va_K.moved hW.alike hK, hD⟩, hS.F ht⟩) hS.2.2 hd)
  intro Q hRet
  have hb49 : ∀ (k31 : Int32 → Int32 → Int32 → Int32 → (Nat → Int64) → (Nat → Int64) → Option (Int32 × Int32 × (Nat → Int64))), (∀ (x2 : Int32) (x3 : Int32) (x4 : Int32) (v_o_depth : Int32) (c_o_rows : (Nat → Int64)) (H : Heap) (locs : List Loc) (ls : Array Slot), k31 x2 x3 x4 v_o_depth c_o_rows c_p1 = some (rv, v_o_depth_z, c_o_rows_z) → va_P (dC, dI) clz [(q_o, .inr (2, f_Matrices q_o_rows v_o_depth)), (q_o_rows, .inl (k_o_rows, 54, .inr (.inl c_o_rows))), (q_p1, .inl (k_p1, 6, .inr (.inl c_p1)))] H → va_D A [(q_o, .inr (2, f_Matrices q_o_rows v_o_depth)), (q_o_rows, .inl (k_o_rows, 54, .inr (.inl c_o_rows))), (q_p1, .inl (k_p1, 6, .inr (.inl c_p1)))] → va_S A s.heap H locs → lv_has ls 6 [(0, .ref q_o), (1, .ref q_p1), (2, .int x2), (3, .int x3), (4, .int x4)] → W p l e (headSpec w_xMatrices_open ({ frames := 3, cells := 0, slots := 0, locals := 77 })).room s m args below meth c H locs 0 0 Q (F0 m 31 ls [])) → ∀ (x2 : Int32) (x3 : Int32) (x4 : Int32) (s0 : Int32) (v_o_depth : Int32) (c_o_rows : (Nat → Int64)) (H : Heap) (locs : List Loc) (ls : Array Slot), xMatrices_open_b49 N k31 x2 x3 x4 s0 v_o_depth c_o_rows c_p1 = some (rv, v_o_depth_z, c_o_rows_z) → va_P (dC, dI) clz [(q_o, .inr (2, f_Matrices q_o_rows v_o_depth)), (q_o_rows, .inl (k_o_rows, 54, .inr (.inl c_o_rows))), (q_p1, .inl (k_p1, 6, .inr (.inl c_p1)))] H → va_D A [(q_o, .inr (2, f_Matrices q_o_rows v_o_depth)), (q_o_rows, .inl (k_o_rows, 54, .inr (.inl c_o_rows))), (q_p1, .inl (k_p1, 6, .inr (.inl c_p1)))] → va_S A s.heap H locs → lv_has ls 6 [(0, .ref q_o), (1, .ref q_p1), (2, .int x2), (3, .int x3), (4, .int x4)] → W p l e (headSpec w_xMatrices_open ({ frames := 3, cells := 0, slots := 0, locals := 77 })).room s m args below meth c H locs 0 0 Q (F0 m 49 ls [.int s0]) := by
    intro k31 hk31
    intro x2 x3 x4 s0 v_o_depth c_o_rows H locs ls hf hP hD hS hl
    rw [xMatrices_open_b49] at hf
    refine lv_istore (pc := 49) (lv' := [(5, .int s0), (0, .ref q_o), (1, .ref q_p1), (2, .int x2), (3, .int x3), (4, .int x4)]) hx hb d_xMatrices_open_49 hl (by decide) rfl (fun ls hl => ?_)
    refine lv_aload_n (pc := 51) hx hb d_xMatrices_open_51 rfl (lv_at hl 1 rfl) ?_
    refine va_get (pc := 52) (D := (dC, dI)) (ci := 2) (v := .ref q_o_rows) (C := "PathTexts$Matrices") (T := F_Matrices) (N := 2) hx hb hts (fun w h => List.mem_cons_of_mem _ (in_Matrices w h)) hown hK hP 0 rfl rfl 0 (by decide) (hts _ (List.mem_cons_of_mem _ kw_62)) (fun _ h9 => h9) fg_Matrices_0 d_xMatrices_open_52 ?_
    refine lv_iload_n (pc := 55) hx hb d_xMatrices_open_55 rfl (lv_at hl 3 rfl) ?_
    refine lv_iload (pc := 56) hx hb d_xMatrices_open_56 (lv_at hl 5 rfl) ?_
    refine lv_iadd (pc := 58) hx hb d_xMatrices_open_58 ?_
    refine lv_aload_n (pc := 59) hx hb d_xMatrices_open_59 rfl (lv_at hl 1 rfl) ?_
    refine lv_aload_n (pc := 60) hx hb d_xMatrices_open_60 rfl (lv_at hl 2 rfl) ?_
    refine lv_iload (pc := 61) hx hb d_xMatrices_open_61 (lv_at hl 5 rfl) ?_
    obtain ⟨hg1, hf⟩ := kg_some hf
    refine va_lald (pc := 63) hx hb hK hP 2 1 rfl rfl (ki_in hg1) d_xMatrices_open_63 ?_
    refine lv_aload_n (pc := 64) hx hb d_xMatrices_open_64 rfl (lv_at hl 2 rfl) ?_
    refine lv_iload (pc := 65) hx hb d_xMatrices_open_65 (lv_at hl 5 rfl) ?_
    refine lv_iconst (pc := 67) (v := (1 : Int32)) hx hb d_xMatrices_open_67 (by decide) ?_
    refine lv_iadd (pc := 68) hx hb d_xMatrices_open_68 ?_
    obtain ⟨hg2, hf⟩ := kg_some hf
    refine va_lald (pc := 69) hx hb hK hP 2 1 rfl rfl (ki_in hg2) d_xMatrices_open_69 ?_
    refine lv_iconst (pc := 70) (v := (0 : Int32)) hx hb d_xMatrices_open_70 (by decide) ?_
    refine lv_iload (pc := 71) hx hb d_xMatrices_open_71 (lv_at hl 0 rfl) ?_
    obtain ⟨r73, hz, hf⟩ := kb1_some hf
    have hPc := hP.sub (ws' := [(q_o, .inr (2, f_Matrices q_o_rows v_o_depth)), (q_o_rows, .inl (k_o_rows, 54, .inr (.inl c_o_rows)))]) [0, 1] rfl
    have hDc := hD.sub (ws' := [(q_o, .inr (2, f_Matrices q_o_rows v_o_depth)), (q_o_rows, .inl (k_o_rows, 54, .inr (.inl c_o_rows)))]) [0, 1] (by decide) rfl
    have hKc := hK.sub (tys' := [(k_o_rows, .long)]) [0] rfl
    have hFc := va_free (wc := [(q_o, .inr (2, f_Matrices q_o_rows v_o_depth)), (q_o_rows, .inl (k_o_rows, 54, .inr (.inl c_o_rows)))]) hD hS hA [0, 1] rfl
    refine va_calll (pc := 73) (va_runV (As := [.long (c_p1 (x4).toNatClampNeg), .long (c_p1 ((x4 + (1 : Int32))).toNatClampNeg), .int (0 : Int32), .int s0]) (rest := [.int (x2 + x4), .ref q_o_rows]) ⟨hx, hb, hml, hown, hts⟩ (ct_xMatrices_across l dC dI q_o q_o_rows k_o_rows _ tt (c_p1 (x4).toNatClampNeg) (c_p1 ((x4 + (1 : Int32))).toNatClampNeg) (0 : Int32) s0 v_o_depth c_o_rows r73 hz) (cwV 4 hts (kw_in4 kw_280 kw_281 kw_282 kw_5 kw_283) rfl rfl rfl (by decide +kernel) ⟨Nat.le_of_ble_eq_true rfl, Nat.le_of_ble_eq_true rfl⟩) (ke_preV hPc hKc hDc hE hS hFc 0 rfl rfl) rfl rfl hl.1 rfl (lv_room (Nat.le_of_ble_eq_true rfl)) d_xMatrices_open_73 ⟨Nat.le_of_ble_eq_true rfl, Nat.le_of_ble_eq_true rfl⟩) hS (fun q _ h => hFc q h) hFc (fun r9 u t H1 locs ht hvm hw hB hz1 hk1 hS => ?_)
    obtain ⟨hP1, hK1, hD1⟩ := hB
    rw [ht] at hP1
    have hw := hw.symm
    subst hw
    obtain ⟨hP, hD⟩ := va_join (wr := [(q_p1, .inl (k_p1, 6, .inr (.inl c_p1)))]) (w1 := [(q_o, .inr (2, f_Matrices q_o_rows v_o_depth)), (q_o_rows, .inl (k_o_rows, 54, .inr (.inl c_o_rows)))]) hP hD [0, 1] [2] rfl rfl (by decide) (by decide) hk1 hFc hP1 hD1
    have hP := hP.sub (ws' := [(q_o, .inr (2, f_Matrices q_o_rows v_o_depth)), (q_o_rows, .inl (k_o_rows, 54, .inr (.inl c_o_rows))), (q_p1, .inl (k_p1, 6, .inr (.inl c_p1)))]) [1, 2, 0] rfl
    have hD := hD.sub (ws' := [(q_o, .inr (2, f_Matrices q_o_rows v_o_depth)), (q_o_rows, .inl (k_o_rows, 54, .inr (.inl c_o_rows))), (q_p1, .inl (k_p1, 6, .inr (.inl c_p1)))]) [1, 2, 0] (by decide) rfl
    clear hP1 hK1 hD1 hk1 hPc hDc hKc hFc hz1 hvm ht hz
    generalize H1 = H at hP hS ⊢
    obtain ⟨hg3, hf⟩ := kg_some hf
    refine kx_last (pc := 76) (ws' := [(q_o, .inr (2, f_Matrices q_o_rows v_o_depth)), (q_o_rows, .inl (k_o_rows, 54, .inr (.inl (vp_updL c_o_rows ((x2 + x4)).toNatClampNeg r73)))), (q_p1, .inl (k_p1, 6, .inr (.inl c_p1)))]) hx hb hK hP hD hS 1 0 rfl rfl (ki_in hg3) rfl d_xMatrices_open_76 (fun H locs hP hD hS => ?_)
    refine lv_aload_n (pc := 77) hx hb d_xMatrices_open_77 rfl (lv_at hl 1 rfl) ?_
    refine va_get (pc := 78) (D := (dC, dI)) (ci := 2) (v := .ref q_o_rows) (C := "PathTexts$Matrices") (T := F_Matrices) (N := 2) hx hb hts (fun w h => List.mem_cons_of_mem _ (in_Matrices w h)) hown hK hP 0 rfl rfl 0 (by decide) (hts _ (List.mem_cons_of_mem _ kw_62)) (fun _ h9 => h9) fg_Matrices_0 d_xMatrices_open_78 ?_
    refine lv_iload_n (pc := 81) hx hb d_xMatrices_open_81 rfl (lv_at hl 3 rfl) ?_
    refine lv_iload (pc := 82) hx hb d_xMatrices_open_82 (lv_at hl 5 rfl) ?_
    refine lv_iadd (pc := 84) hx hb d_xMatrices_open_84 ?_
    refine lv_iconst (pc := 85) (v := (1 : Int32)) hx hb d_xMatrices_open_85 (by decide) ?_
    refine lv_iadd (pc := 86) hx hb d_xMatrices_open_86 ?_
    refine lv_aload_n (pc := 87) hx hb d_xMatrices_open_87 rfl (lv_at hl 1 rfl) ?_
    refine lv_aload_n (pc := 88) hx hb d_xMatrices_open_88 rfl (lv_at hl 2 rfl) ?_
    refine lv_iload (pc := 89) hx hb d_xMatrices_open_89 (lv_at hl 5 rfl) ?_
    obtain ⟨hg4, hf⟩ := kg_some hf
    refine va_lald (pc := 91) hx hb hK hP 2 1 rfl rfl (ki_in hg4) d_xMatrices_open_91 ?_
    refine lv_aload_n (pc := 92) hx hb d_xMatrices_open_92 rfl (lv_at hl 2 rfl) ?_
    refine lv_iload (pc := 93) hx hb d_xMatrices_open_93 (lv_at hl 5 rfl) ?_
    refine lv_iconst (pc := 95) (v := (1 : Int32)) hx hb d_xMatrices_open_95 (by decide) ?_
    refine lv_iadd (pc := 96) hx hb d_xMatrices_open_96 ?_
    obtain ⟨hg5, hf⟩ := kg_some hf
    refine va_lald (pc := 97) hx hb hK hP 2 1 rfl rfl (ki_in hg5) d_xMatrices_open_97 ?_
    refine lv_iconst (pc := 98) (v := (1 : Int32)) hx hb d_xMatrices_open_98 (by decide) ?_
    refine lv_iload (pc := 99) hx hb d_xMatrices_open_99 (lv_at hl 0 rfl) ?_
    obtain ⟨r101, hz, hf⟩ := kb1_some hf
    have hPc := hP.sub (ws' := [(q_o, .inr (2, f_Matrices q_o_rows v_o_depth)), (q_o_rows, .inl (k_o_rows, 54, .inr (.inl (vp_updL c_o_rows ((x2 + x4)).toNatClampNeg r73))))]) [0, 1] rfl
    have hDc := hD.sub (ws' := [(q_o, .inr (2, f_Matrices q_o_rows v_o_depth)), (q_o_rows, .inl (k_o_rows, 54, .inr (.inl (vp_updL c_o_rows ((x2 + x4)).toNatClampNeg r73))))]) [0, 1] (by decide) rfl
    have hKc := hK.sub (tys' := [(k_o_rows, .long)]) [0] rfl
    have hFc := va_free (wc := [(q_o, .inr (2, f_Matrices q_o_rows v_o_depth)), (q_o_rows, .inl (k_o_rows, 54, .inr (.inl (vp_updL c_o_rows ((x2 + x4)).toNatClampNeg r73))))]) hD hS hA [0, 1] rfl
    refine va_calll (pc := 101) (va_runV (As := [.long (c_p1 (x4).toNatClampNeg), .long (c_p1 ((x4 + (1 : Int32))).toNatClampNeg), .int (1 : Int32), .int s0]) (rest := [.int ((x2 + x4) + (1 : Int32)), .ref q_o_rows]) ⟨hx, hb, hml, hown, hts⟩ (ct_xMatrices_across l dC dI q_o q_o_rows k_o_rows _ tt (c_p1 (x4).toNatClampNeg) (c_p1 ((x4 + (1 : Int32))).toNatClampNeg) (1 : Int32) s0 v_o_depth (vp_updL c_o_rows ((x2 + x4)).toNatClampNeg r73) r101 hz) (cwV 4 hts (kw_in4 kw_280 kw_281 kw_282 kw_5 kw_283) rfl rfl rfl (by decide +kernel) ⟨Nat.le_of_ble_eq_true rfl, Nat.le_of_ble_eq_true rfl⟩) (ke_preV hPc hKc hDc hE hS hFc 0 rfl rfl) rfl rfl hl.1 rfl (lv_room (Nat.le_of_ble_eq_true rfl)) d_xMatrices_open_101 ⟨Nat.le_of_ble_eq_true rfl, Nat.le_of_ble_eq_true rfl⟩) hS (fun q _ h => hFc q h) hFc (fun r9 u t H1 locs ht hvm hw hB hz1 hk1 hS => ?_)
    obtain ⟨hP1, hK1, hD1⟩ := hB
    rw [ht] at hP1
    have hw := hw.symm
    subst hw
    obtain ⟨hP, hD⟩ := va_join (wr := [(q_p1, .inl (k_p1, 6, .inr (.inl c_p1)))]) (w1 := [(q_o, .inr (2, f_Matrices q_o_rows v_o_depth)), (q_o_rows, .inl (k_o_rows, 54, .inr (.inl (vp_updL c_o_rows ((x2 + x4)).toNatClampNeg r73))))]) hP hD [0, 1] [2] rfl rfl (by decide) (by decide) hk1 hFc hP1 hD1
    have hP := hP.sub (ws' := [(q_o, .inr (2, f_Matrices q_o_rows v_o_depth)), (q_o_rows, .inl (k_o_rows, 54, .inr (.inl (vp_updL c_o_rows ((x2 + x4)).toNatClampNeg r73)))), (q_p1, .inl (k_p1, 6, .inr (.inl c_p1)))]) [1, 2, 0] rfl
    have hD := hD.sub (ws' := [(q_o, .inr (2, f_Matrices q_o_rows v_o_depth)), (q_o_rows, .inl (k_o_rows, 54, .inr (.inl (vp_updL c_o_rows ((x2 + x4)).toNatClampNeg r73)))), (q_p1, .inl (k_p1, 6, .inr (.inl c_p1)))]) [1, 2, 0] (by decide) rfl
    clear hP1 hK1 hD1 hk1 hPc hDc hKc hFc hz1 hvm ht hz
    generalize H1 = H at hP hS ⊢
    obtain ⟨hg6, hf⟩ := kg_some hf
    refine kx_last (pc := 104) (ws' := [(q_o, .inr (2, f_Matrices q_o_rows v_o_depth)), (q_o_rows, .inl (k_o_rows, 54, .inr (.inl (vp_updL (vp_updL c_o_rows ((x2 + x4)).toNatClampNeg r73) (((x2 + x4) + (1 : Int32))).toNatClampNeg r101)))), (q_p1, .inl (k_p1, 6, .inr (.inl c_p1)))]) hx hb hK hP hD hS 1 0 rfl rfl (ki_in hg6) rfl d_xMatrices_open_104 (fun H locs hP hD hS => ?_)
    refine lv_iload_n (pc := 105) hx hb d_xMatrices_open_105 rfl (lv_at hl 4 rfl) ?_
    refine lv_if_eq (pc := 106) (tgt := 145) hx hb d_xMatrices_open_106 (by decide) (fun hc => ?_) (fun hc => ?_)
    · rw [if_pos hc] at hf
      refine lv_iconst (pc := 145) (v := (0 : Int32)) hx hb d_xMatrices_open_145 (by decide) ?_
      refine lv_istore_n (pc := 146) (lv' := [(3, .int (0 : Int32)), (5, .int s0), (0, .ref q_o), (1, .ref q_p1), (2, .int x2), (4, .int x4)]) hx hb d_xMatrices_open_146 rfl hl (by decide) rfl (fun ls hl => ?_)
      refine lv_iinc (pc := 147) (v := (x4 + (2 : Int32))) (lv' := [(4, .int (x4 + (2 : Int32))), (3, .int (0 : Int32)), (5, .int s0), (0, .ref q_o), (1, .ref q_p1), (2, .int x2)]) hx hb d_xMatrices_open_147 hl (k := 5) rfl rfl (by decide) rfl (fun ls hl => ?_)
      refine lv_goto (pc := 150) (tgt := 31) hx hb d_xMatrices_open_150 (by decide) ?_
      exact hk31 x2 (0 : Int32) (x4 + (2 : Int32)) v_o_depth (vp_updL (vp_updL c_o_rows ((x2 + x4)).toNatClampNeg r73) (((x2 + x4) + (1 : Int32))).toNatClampNeg r101) _ _ _ hf hP hD hS (lv_sub hl [3, 4, 5, 1, 0] rfl)
    · rw [if_neg hc] at hf
      refine lv_aload_n (pc := 109) hx hb d_xMatrices_open_109 rfl (lv_at hl 1 rfl) ?_
      refine va_get (pc := 110) (D := (dC, dI)) (ci := 2) (v := .ref q_o_rows) (C := "PathTexts$Matrices") (T := F_Matrices) (N := 2) hx hb hts (fun w h => List.mem_cons_of_mem _ (in_Matrices w h)) hown hK hP 0 rfl rfl 0 (by decide) (hts _ (List.mem_cons_of_mem _ kw_62)) (fun _ h9 => h9) fg_Matrices_0 d_xMatrices_open_110 ?_
      refine lv_iload_n (pc := 113) hx hb d_xMatrices_open_113 rfl (lv_at hl 3 rfl) ?_
      refine lv_iload (pc := 114) hx hb d_xMatrices_open_114 (lv_at hl 5 rfl) ?_
      refine lv_iadd (pc := 116) hx hb d_xMatrices_open_116 ?_
      obtain ⟨hg7, hf⟩ := kg_some hf
      refine va_lald (pc := 117) hx hb hK hP 1 0 rfl rfl (ki_in hg7) d_xMatrices_open_117 ?_
      obtain ⟨r118, hz, hf⟩ := kb1_some hf
      have hPc := hP.sub (ws' := []) [] rfl
      have hDc := hD.sub (ws' := []) [] (by decide) rfl
      have hKc := hK.sub (tys' := []) [] rfl
      have hFc := va_free (wc := []) hD hS hA [] rfl
      refine va_calli (pc := 118) (va_runSN (As := [.long ((vp_updL (vp_updL c_o_rows ((x2 + x4)).toNatClampNeg r73) (((x2 + x4) + (1 : Int32))).toNatClampNeg r101) ((x2 + x4)).toNatClampNeg)]) (rest := []) ⟨hx, hb, hml, hown, hts⟩ (ct_xP_isNumber l dC dI _ ((vp_updL (vp_updL c_o_rows ((x2 + x4)).toNatClampNeg r73) (((x2 + x4) + (1 : Int32))).toNatClampNeg r101) ((x2 + x4)).toNatClampNeg) r118 hz) ⟨va_cnB 1 hts (kw_in kw_272) rfl rfl rfl (hE.1 _ kn_8) (hts _ (List.mem_cons_of_mem _ kw_1)) (by decide +kernel) ⟨Nat.le_of_ble_eq_true rfl, Nat.le_of_ble_eq_true rfl⟩, hts _ (List.mem_cons_of_mem _ kw_271), trivial⟩ (kx_pre hPc hKc hDc) rfl rfl hl.1 rfl (lv_room (Nat.le_of_ble_eq_true rfl)) d_xMatrices_open_118 ⟨Nat.le_of_ble_eq_true rfl, Nat.le_of_ble_eq_true rfl⟩) hS (fun q _ h => hFc q h) hFc (fun r9 u t H1 locs ht hvm hw hB hz1 hk1 hS => ?_)
      obtain ⟨hP1, hK1, hD1⟩ := hB
      rw [ht] at hP1
      have hw := hw.symm
      subst hw
      obtain ⟨hP, hD⟩ := va_join (wr := [(q_o, .inr (2, f_Matrices q_o_rows v_o_depth)), (q_o_rows, .inl (k_o_rows, 54, .inr (.inl (vp_updL (vp_updL c_o_rows ((x2 + x4)).toNatClampNeg r73) (((x2 + x4) + (1 : Int32))).toNatClampNeg r101)))), (q_p1, .inl (k_p1, 6, .inr (.inl c_p1)))]) (w1 := []) hP hD [] [0, 1, 2] rfl rfl (by decide) (by decide) hk1 hFc hP1 hD1
      have hP := hP.sub (ws' := [(q_o, .inr (2, f_Matrices q_o_rows v_o_depth)), (q_o_rows, .inl (k_o_rows, 54, .inr (.inl (vp_updL (vp_updL c_o_rows ((x2 + x4)).toNatClampNeg r73) (((x2 + x4) + (1 : Int32))).toNatClampNeg r101)))), (q_p1, .inl (k_p1, 6, .inr (.inl c_p1)))]) [0, 1, 2] rfl
      have hD := hD.sub (ws' := [(q_o, .inr (2, f_Matrices q_o_rows v_o_depth)), (q_o_rows, .inl (k_o_rows, 54, .inr (.inl (vp_updL (vp_updL c_o_rows ((x2 + x4)).toNatClampNeg r73) (((x2 + x4) + (1 : Int32))).toNatClampNeg r101)))), (q_p1, .inl (k_p1, 6, .inr (.inl c_p1)))]) [0, 1, 2] (by decide) rfl
      clear hP1 hK1 hD1 hk1 hPc hDc hKc hFc hz1 hvm ht hz
      generalize H1 = H at hP hS ⊢
      refine lv_if_eq (pc := 121) (tgt := 145) hx hb d_xMatrices_open_121 (by decide) (fun hc => ?_) (fun hc => ?_)
      · rw [if_pos hc] at hf
        refine lv_iconst (pc := 145) (v := (0 : Int32)) hx hb d_xMatrices_open_145 (by decide) ?_
        refine lv_istore_n (pc := 146) (lv' := [(3, .int (0 : Int32)), (5, .int s0), (0, .ref q_o), (1, .ref q_p1), (2, .int x2), (4, .int x4)]) hx hb d_xMatrices_open_146 rfl hl (by decide) rfl (fun ls hl => ?_)
        refine lv_iinc (pc := 147) (v := (x4 + (2 : Int32))) (lv' := [(4, .int (x4 + (2 : Int32))), (3, .int (0 : Int32)), (5, .int s0), (0, .ref q_o), (1, .ref q_p1), (2, .int x2)]) hx hb d_xMatrices_open_147 hl (k := 5) rfl rfl (by decide) rfl (fun ls hl => ?_)
        refine lv_goto (pc := 150) (tgt := 31) hx hb d_xMatrices_open_150 (by decide) ?_
        exact hk31 x2 (0 : Int32) (x4 + (2 : Int32)) v_o_depth (vp_updL (vp_updL c_o_rows ((x2 + x4)).toNatClampNeg r73) (((x2 + x4) + (1 : Int32))).toNatClampNeg r101) _ _ _ hf hP hD hS (lv_sub hl [3, 4, 5, 1, 0] rfl)
      · rw [if_neg hc] at hf
        refine lv_aload_n (pc := 124) hx hb d_xMatrices_open_124 rfl (lv_at hl 1 rfl) ?_
        refine va_get (pc := 125) (D := (dC, dI)) (ci := 2) (v := .ref q_o_rows) (C := "PathTexts$Matrices") (T := F_Matrices) (N := 2) hx hb hts (fun w h => List.mem_cons_of_mem _ (in_Matrices w h)) hown hK hP 0 rfl rfl 0 (by decide) (hts _ (List.mem_cons_of_mem _ kw_62)) (fun _ h9 => h9) fg_Matrices_0 d_xMatrices_open_125 ?_
        refine lv_iload_n (pc := 128) hx hb d_xMatrices_open_128 rfl (lv_at hl 3 rfl) ?_
        refine lv_iload (pc := 129) hx hb d_xMatrices_open_129 (lv_at hl 5 rfl) ?_
        refine lv_iadd (pc := 131) hx hb d_xMatrices_open_131 ?_
        refine lv_iconst (pc := 132) (v := (1 : Int32)) hx hb d_xMatrices_open_132 (by decide) ?_
        refine lv_iadd (pc := 133) hx hb d_xMatrices_open_133 ?_
        obtain ⟨hg8, hf⟩ := kg_some hf
        refine va_lald (pc := 134) hx hb hK hP 1 0 rfl rfl (ki_in hg8) d_xMatrices_open_134 ?_
        obtain ⟨r135, hz, hf⟩ := kb1_some hf
        have hPc := hP.sub (ws' := []) [] rfl
        have hDc := hD.sub (ws' := []) [] (by decide) rfl
        have hKc := hK.sub (tys' := []) [] rfl
        have hFc := va_free (wc := []) hD hS hA [] rfl
        refine va_calli (pc := 135) (va_runSN (As := [.long ((vp_updL (vp_updL c_o_rows ((x2 + x4)).toNatClampNeg r73) (((x2 + x4) + (1 : Int32))).toNatClampNeg r101) (((x2 + x4) + (1 : Int32))).toNatClampNeg)]) (rest := []) ⟨hx, hb, hml, hown, hts⟩ (ct_xP_isNumber l dC dI _ ((vp_updL (vp_updL c_o_rows ((x2 + x4)).toNatClampNeg r73) (((x2 + x4) + (1 : Int32))).toNatClampNeg r101) (((x2 + x4) + (1 : Int32))).toNatClampNeg) r135 hz) ⟨va_cnB 1 hts (kw_in kw_272) rfl rfl rfl (hE.1 _ kn_8) (hts _ (List.mem_cons_of_mem _ kw_1)) (by decide +kernel) ⟨Nat.le_of_ble_eq_true rfl, Nat.le_of_ble_eq_true rfl⟩, hts _ (List.mem_cons_of_mem _ kw_271), trivial⟩ (kx_pre hPc hKc hDc) rfl rfl hl.1 rfl (lv_room (Nat.le_of_ble_eq_true rfl)) d_xMatrices_open_135 ⟨Nat.le_of_ble_eq_true rfl, Nat.le_of_ble_eq_true rfl⟩) hS (fun q _ h => hFc q h) hFc (fun r9 u t H1 locs ht hvm hw hB hz1 hk1 hS => ?_)
        obtain ⟨hP1, hK1, hD1⟩ := hB
        rw [ht] at hP1
        have hw := hw.symm
        subst hw
        obtain ⟨hP, hD⟩ := va_join (wr := [(q_o, .inr (2, f_Matrices q_o_rows v_o_depth)), (q_o_rows, .inl (k_o_rows, 54, .inr (.inl (vp_updL (vp_updL c_o_rows ((x2 + x4)).toNatClampNeg r73) (((x2 + x4) + (1 : Int32))).toNatClampNeg r101)))), (q_p1, .inl (k_p1, 6, .inr (.inl c_p1)))]) (w1 := []) hP hD [] [0, 1, 2] rfl rfl (by decide) (by decide) hk1 hFc hP1 hD1
        have hP := hP.sub (ws' := [(q_o, .inr (2, f_Matrices q_o_rows v_o_depth)), (q_o_rows, .inl (k_o_rows, 54, .inr (.inl (vp_updL (vp_updL c_o_rows ((x2 + x4)).toNatClampNeg r73) (((x2 + x4) + (1 : Int32))).toNatClampNeg r101)))), (q_p1, .inl (k_p1, 6, .inr (.inl c_p1)))]) [0, 1, 2] rfl
        have hD := hD.sub (ws' := [(q_o, .inr (2, f_Matrices q_o_rows v_o_depth)), (q_o_rows, .inl (k_o_rows, 54, .inr (.inl (vp_updL (vp_updL c_o_rows ((x2 + x4)).toNatClampNeg r73) (((x2 + x4) + (1 : Int32))).toNatClampNeg r101)))), (q_p1, .inl (k_p1, 6, .inr (.inl c_p1)))]) [0, 1, 2] (by decide) rfl
        clear hP1 hK1 hD1 hk1 hPc hDc hKc hFc hz1 hvm ht hz
        generalize H1 = H at hP hS ⊢
        refine lv_if_eq (pc := 138) (tgt := 145) hx hb d_xMatrices_open_138 (by decide) (fun hc => ?_) (fun hc => ?_)
        · rw [if_pos hc] at hf
          refine lv_iconst (pc := 145) (v := (0 : Int32)) hx hb d_xMatrices_open_145 (by decide) ?_
          refine lv_istore_n (pc := 146) (lv' := [(3, .int (0 : Int32)), (5, .int s0), (0, .ref q_o), (1, .ref q_p1), (2, .int x2), (4, .int x4)]) hx hb d_xMatrices_open_146 rfl hl (by decide) rfl (fun ls hl => ?_)
          refine lv_iinc (pc := 147) (v := (x4 + (2 : Int32))) (lv' := [(4, .int (x4 + (2 : Int32))), (3, .int (0 : Int32)), (5, .int s0), (0, .ref q_o), (1, .ref q_p1), (2, .int x2)]) hx hb d_xMatrices_open_147 hl (k := 5) rfl rfl (by decide) rfl (fun ls hl => ?_)
          refine lv_goto (pc := 150) (tgt := 31) hx hb d_xMatrices_open_150 (by decide) ?_
          exact hk31 x2 (0 : Int32) (x4 + (2 : Int32)) v_o_depth (vp_updL (vp_updL c_o_rows ((x2 + x4)).toNatClampNeg r73) (((x2 + x4) + (1 : Int32))).toNatClampNeg r101) _ _ _ hf hP hD hS (lv_sub hl [3, 4, 5, 1, 0] rfl)
        · rw [if_neg hc] at hf
          refine lv_iconst (pc := 141) (v := (1 : Int32)) hx hb d_xMatrices_open_141 (by decide) ?_
          refine lv_goto (pc := 142) (tgt := 146) hx hb d_xMatrices_open_142 (by decide) ?_
          refine lv_istore_n (pc := 146) (lv' := [(3, .int (1 : Int32)), (5, .int s0), (0, .ref q_o), (1, .ref q_p1), (2, .int x2), (4, .int x4)]) hx hb d_xMatrices_open_146 rfl hl (by decide) rfl (fun ls hl => ?_)
          refine lv_iinc (pc := 147) (v := (x4 + (2 : Int32))) (lv' := [(4, .int (x4 + (2 : Int32))), (3, .int (1 : Int32)), (5, .int s0), (0, .ref q_o), (1, .ref q_p1), (2, .int x2)]) hx hb d_xMatrices_open_147 hl (k := 5) rfl rfl (by decide) rfl (fun ls hl => ?_)
          refine lv_goto (pc := 150) (tgt := 31) hx hb d_xMatrices_open_150 (by decide) ?_
          exact hk31 x2 (1 : Int32) (x4 + (2 : Int32)) v_o_depth (vp_updL (vp_updL c_o_rows ((x2 + x4)).toNatClampNeg r73) (((x2 + x4) + (1 : Int32))).toNatClampNeg r101) _ _ _ hf hP hD hS (lv_sub hl [3, 4, 5, 1, 0] rfl)
  have hB31 : ∀ (k31 : Int32 → Int32 → Int32 → Int32 → (Nat → Int64) → (Nat → Int64) → Option (Int32 × Int32 × (Nat → Int64))), (∀ (x2 : Int32) (x3 : Int32) (x4 : Int32) (v_o_depth : Int32) (c_o_rows : (Nat → Int64)) (H : Heap) (locs : List Loc) (ls : Array Slot), k31 x2 x3 x4 v_o_depth c_o_rows c_p1 = some (rv, v_o_depth_z, c_o_rows_z) → va_P (dC, dI) clz [(q_o, .inr (2, f_Matrices q_o_rows v_o_depth)), (q_o_rows, .inl (k_o_rows, 54, .inr (.inl c_o_rows))), (q_p1, .inl (k_p1, 6, .inr (.inl c_p1)))] H → va_D A [(q_o, .inr (2, f_Matrices q_o_rows v_o_depth)), (q_o_rows, .inl (k_o_rows, 54, .inr (.inl c_o_rows))), (q_p1, .inl (k_p1, 6, .inr (.inl c_p1)))] → va_S A s.heap H locs → lv_has ls 6 [(0, .ref q_o), (1, .ref q_p1), (2, .int x2), (3, .int x3), (4, .int x4)] → W p l e (headSpec w_xMatrices_open ({ frames := 3, cells := 0, slots := 0, locals := 77 })).room s m args below meth c H locs 0 0 Q (F0 m 31 ls [])) → ∀ (x2 : Int32) (x3 : Int32) (x4 : Int32) (v_o_depth : Int32) (c_o_rows : (Nat → Int64)) (H : Heap) (locs : List Loc) (ls : Array Slot), xMatrices_open_B31 N k31 x2 x3 x4 v_o_depth c_o_rows c_p1 = some (rv, v_o_depth_z, c_o_rows_z) → va_P (dC, dI) clz [(q_o, .inr (2, f_Matrices q_o_rows v_o_depth)), (q_o_rows, .inl (k_o_rows, 54, .inr (.inl c_o_rows))), (q_p1, .inl (k_p1, 6, .inr (.inl c_p1)))] H → va_D A [(q_o, .inr (2, f_Matrices q_o_rows v_o_depth)), (q_o_rows, .inl (k_o_rows, 54, .inr (.inl c_o_rows))), (q_p1, .inl (k_p1, 6, .inr (.inl c_p1)))] → va_S A s.heap H locs → lv_has ls 6 [(0, .ref q_o), (1, .ref q_p1), (2, .int x2), (3, .int x3), (4, .int x4)] → W p l e (headSpec w_xMatrices_open ({ frames := 3, cells := 0, slots := 0, locals := 77 })).room s m args below meth c H locs 0 0 Q (F0 m 31 ls []) := by
    intro k31 hk31
    intro x2 x3 x4 v_o_depth c_o_rows H locs ls hf hP hD hS hl
    rw [xMatrices_open_B31] at hf
    refine lv_iload (pc := 31) hx hb d_xMatrices_open_31 (lv_at hl 4 rfl) ?_
    refine lv_bipush (pc := 33) (v := (6 : Int32)) hx hb d_xMatrices_open_33 (by decide) ?_
    refine lv_icmp_ge (pc := 35) (tgt := 153) hx hb d_xMatrices_open_35 (by decide) (fun hc => ?_) (fun hc => ?_)
    · rw [if_pos hc] at hf
      refine lv_aload_n (pc := 153) hx hb d_xMatrices_open_153 rfl (lv_at hl 0 rfl) ?_
      refine lv_dup (pc := 154) hx hb d_xMatrices_open_154 rfl ?_
      refine va_get (pc := 155) (D := (dC, dI)) (ci := 2) (v := .int v_o_depth) (C := "PathTexts$Matrices") (T := F_Matrices) (N := 2) hx hb hts (fun w h => List.mem_cons_of_mem _ (in_Matrices w h)) hown hK hP 0 rfl rfl 1 (by decide) (hts _ (List.mem_cons_of_mem _ kw_63)) (fun _ h9 => h9) fg_Matrices_1 d_xMatrices_open_155 ?_
      refine lv_iconst (pc := 158) (v := (1 : Int32)) hx hb d_xMatrices_open_158 (by decide) ?_
      refine lv_iadd (pc := 159) hx hb d_xMatrices_open_159 ?_
      refine kx_put (pc := 160) (D := (dC, dI)) (ci := 2) (v := .int (v_o_depth + (1 : Int32))) (ty := .int) (C := "PathTexts$Matrices") (T := F_Matrices) (N := 2) hx hb hts (fun w h => List.mem_cons_of_mem _ (in_Matrices w h)) t_Matrices tk_Matrices n_Matrices hown hK hP hD hS 0 rfl rfl 1 (by decide) (hts _ (List.mem_cons_of_mem _ kw_63)) (fun _ h9 => h9) rfl (tk_Matrices 1 (by decide)) rfl rfl fl_Matrices_1 fs_Matrices_1 (ws' := [(q_o, .inr (2, f_Matrices q_o_rows (v_o_depth + (1 : Int32)))), (q_o_rows, .inl (k_o_rows, 54, .inr (.inl c_o_rows))), (q_p1, .inl (k_p1, 6, .inr (.inl c_p1)))]) rfl d_xMatrices_open_160 (fun H locs hP hD hS => ?_)
      refine lv_iload_n (pc := 163) hx hb d_xMatrices_open_163 rfl (lv_at hl 3 rfl) ?_
      obtain ⟨hg9, hf⟩ := kg_some hf
      obtain ⟨e_0, e_1, e_2⟩ := kr3 hf
      rw [e_0]
      exact hRet (by rw [← e_0]; exact kz_n hg9) 164 _ _ _ d_xMatrices_open_164 (by rw [← e_1, ← e_2]; exact hP) (by rw [← e_1, ← e_2]; exact hD) hS
    · rw [if_neg hc] at hf
      refine lv_iload (pc := 38) hx hb d_xMatrices_open_38 (lv_at hl 4 rfl) ?_
      refine lv_iconst (pc := 40) (v := (4 : Int32)) hx hb d_xMatrices_open_40 (by decide) ?_
      refine lv_icmp_ne (pc := 41) (tgt := 48) hx hb d_xMatrices_open_41 (by decide) (fun hc => ?_) (fun hc => ?_)
      · rw [if_neg hc] at hf
        refine lv_iconst (pc := 48) (v := (0 : Int32)) hx hb d_xMatrices_open_48 (by decide) ?_
        exact hb49 k31 hk31 x2 x3 x4 (0 : Int32) v_o_depth c_o_rows _ _ _ hf hP hD hS (lv_sub hl [0, 1, 2, 3, 4] rfl)
      · rw [if_pos hc] at hf
        refine lv_iconst (pc := 44) (v := (1 : Int32)) hx hb d_xMatrices_open_44 (by decide) ?_
        refine lv_goto (pc := 45) (tgt := 49) hx hb d_xMatrices_open_45 (by decide) ?_
        exact hb49 k31 hk31 x2 x3 x4 (1 : Int32) v_o_depth c_o_rows _ _ _ hf hP hD hS (lv_sub hl [0, 1, 2, 3, 4] rfl)
  have hL31 : ∀ n : Nat, ∀ (x2 : Int32) (x3 : Int32) (x4 : Int32) (v_o_depth : Int32) (c_o_rows : (Nat → Int64)) (H : Heap) (locs : List Loc) (ls : Array Slot), (xMatrices_open_L31 N n) x2 x3 x4 v_o_depth c_o_rows c_p1 = some (rv, v_o_depth_z, c_o_rows_z) → va_P (dC, dI) clz [(q_o, .inr (2, f_Matrices q_o_rows v_o_depth)), (q_o_rows, .inl (k_o_rows, 54, .inr (.inl c_o_rows))), (q_p1, .inl (k_p1, 6, .inr (.inl c_p1)))] H → va_D A [(q_o, .inr (2, f_Matrices q_o_rows v_o_depth)), (q_o_rows, .inl (k_o_rows, 54, .inr (.inl c_o_rows))), (q_p1, .inl (k_p1, 6, .inr (.inl c_p1)))] → va_S A s.heap H locs → lv_has ls 6 [(0, .ref q_o), (1, .ref q_p1), (2, .int x2), (3, .int x3), (4, .int x4)] → W p l e (headSpec w_xMatrices_open ({ frames := 3, cells := 0, slots := 0, locals := 77 })).room s m args below meth c H locs 0 0 Q (F0 m 31 ls []) := by
    intro n
    induction n with
    | zero => intro x2 x3 x4 v_o_depth c_o_rows H locs ls hf hP hD hS hl; have hf : none = some (rv, v_o_depth_z, c_o_rows_z) := hf; cases hf
    | succ n ih => exact hB31 (xMatrices_open_L31 N n) ih
  rw [xMatrices_open] at hf
  refine lv_aload_n (pc := 0) hx hb d_xMatrices_open_0 rfl (lv_at hl 0 rfl) ?_
  obtain ⟨r1, hz, hf⟩ := kb1_some hf
  have hPc := hP.sub (ws' := [(q_o, .inr (2, f_Matrices q_o_rows v_o_depth))]) [0] rfl
  have hDc := hD.sub (ws' := [(q_o, .inr (2, f_Matrices q_o_rows v_o_depth))]) [0] (by decide) rfl
  have hKc := hK.sub (tys' := []) [] rfl
  have hFc := va_free (wc := [(q_o, .inr (2, f_Matrices q_o_rows v_o_depth))]) hD hS hA [0] rfl
  refine va_calli (pc := 1) (va_runV (As := []) (rest := []) ⟨hx, hb, hml, hown, hts⟩ (ct_xMatrices_isFull l dC dI q_o q_o_rows _ v_o_depth r1 hz) (cwV 0 hts (kw_in4 kw_279 kw_241 kw_242 kw_5 kw_243) rfl rfl rfl (by decide +kernel) ⟨Nat.le_of_ble_eq_true rfl, Nat.le_of_ble_eq_true rfl⟩) (kx_preV hPc hKc hDc 0 rfl rfl) rfl rfl hl.1 rfl (lv_room (Nat.le_of_ble_eq_true rfl)) d_xMatrices_open_1 ⟨Nat.le_of_ble_eq_true rfl, Nat.le_of_ble_eq_true rfl⟩) hS (fun q _ h => hFc q h) hFc (fun r9 u t H1 locs ht hvm hw hB hz1 hk1 hS => ?_)
  obtain ⟨hP1, hK1, hD1⟩ := hB
  rw [ht] at hP1
  have hw := hw.symm
  subst hw
  obtain ⟨hP, hD⟩ := va_join (wr := [(q_o_rows, .inl (k_o_rows, 54, .inr (.inl c_o_rows))), (q_p1, .inl (k_p1, 6, .inr (.inl c_p1)))]) (w1 := [(q_o, .inr (2, f_Matrices q_o_rows v_o_depth))]) hP hD [0] [1, 2] rfl rfl (by decide) (by decide) hk1 hFc hP1 hD1
  have hP := hP.sub (ws' := [(q_o, .inr (2, f_Matrices q_o_rows v_o_depth)), (q_o_rows, .inl (k_o_rows, 54, .inr (.inl c_o_rows))), (q_p1, .inl (k_p1, 6, .inr (.inl c_p1)))]) [2, 0, 1] rfl
  have hD := hD.sub (ws' := [(q_o, .inr (2, f_Matrices q_o_rows v_o_depth)), (q_o_rows, .inl (k_o_rows, 54, .inr (.inl c_o_rows))), (q_p1, .inl (k_p1, 6, .inr (.inl c_p1)))]) [2, 0, 1] (by decide) rfl
  clear hP1 hK1 hD1 hk1 hPc hDc hKc hFc hz1 hvm ht hz
  generalize H1 = H at hP hS ⊢
  refine lv_if_ne (pc := 4) (tgt := 14) hx hb d_xMatrices_open_4 (by decide) (fun hc => ?_) (fun hc => ?_)
  · rw [if_neg hc] at hf
    refine lv_iconst (pc := 14) (v := (0 : Int32)) hx hb d_xMatrices_open_14 (by decide) ?_
    obtain ⟨e_0, e_1, e_2⟩ := kr3 hf
    rw [e_0]
    exact hRet (by rw [← e_0]; exact (by decide)) 15 _ _ _ d_xMatrices_open_15 (by rw [← e_1, ← e_2]; exact hP) (by rw [← e_1, ← e_2]; exact hD) hS
  · rw [if_pos hc] at hf
    refine lv_aload_n (pc := 7) hx hb d_xMatrices_open_7 rfl (lv_at hl 1 rfl) ?_
    refine va_alen (pc := 8) hx hb hK hP 2 1 rfl rfl (v := (6 : Int32)) rfl d_xMatrices_open_8 ?_
    refine lv_bipush (pc := 9) (v := (6 : Int32)) hx hb d_xMatrices_open_9 (by decide) ?_
    refine lv_icmp_ge (pc := 11) (tgt := 16) hx hb d_xMatrices_open_11 (by decide) (fun hc => ?_) (fun hc => ?_)
    · rw [if_pos hc] at hf
      refine lv_aload_n (pc := 16) hx hb d_xMatrices_open_16 rfl (lv_at hl 0 rfl) ?_
      refine va_get (pc := 17) (D := (dC, dI)) (ci := 2) (v := .int v_o_depth) (C := "PathTexts$Matrices") (T := F_Matrices) (N := 2) hx hb hts (fun w h => List.mem_cons_of_mem _ (in_Matrices w h)) hown hK hP 0 rfl rfl 1 (by decide) (hts _ (List.mem_cons_of_mem _ kw_63)) (fun _ h9 => h9) fg_Matrices_1 d_xMatrices_open_17 ?_
      refine lv_iconst (pc := 20) (v := (1 : Int32)) hx hb d_xMatrices_open_20 (by decide) ?_
      refine lv_iadd (pc := 21) hx hb d_xMatrices_open_21 ?_
      refine lv_bipush (pc := 22) (v := (6 : Int32)) hx hb d_xMatrices_open_22 (by decide) ?_
      refine lv_imul (pc := 24) hx hb d_xMatrices_open_24 ?_
      refine lv_istore_n (pc := 25) (lv' := [(2, .int ((v_o_depth + (1 : Int32)) * (6 : Int32))), (0, .ref q_o), (1, .ref q_p1)]) hx hb d_xMatrices_open_25 rfl hl (by decide) rfl (fun ls hl => ?_)
      refine lv_iconst (pc := 26) (v := (1 : Int32)) hx hb d_xMatrices_open_26 (by decide) ?_
      refine lv_istore_n (pc := 27) (lv' := [(3, .int (1 : Int32)), (2, .int ((v_o_depth + (1 : Int32)) * (6 : Int32))), (0, .ref q_o), (1, .ref q_p1)]) hx hb d_xMatrices_open_27 rfl hl (by decide) rfl (fun ls hl => ?_)
      refine lv_iconst (pc := 28) (v := (0 : Int32)) hx hb d_xMatrices_open_28 (by decide) ?_
      refine lv_istore (pc := 29) (lv' := [(4, .int (0 : Int32)), (3, .int (1 : Int32)), (2, .int ((v_o_depth + (1 : Int32)) * (6 : Int32))), (0, .ref q_o), (1, .ref q_p1)]) hx hb d_xMatrices_open_29 hl (by decide) rfl (fun ls hl => ?_)
      exact hL31 N ((v_o_depth + (1 : Int32)) * (6 : Int32)) (1 : Int32) (0 : Int32) v_o_depth c_o_rows _ _ _ hf hP hD hS (lv_sub hl [3, 4, 2, 1, 0] rfl)
    · rw [if_neg hc] at hf
      refine lv_iconst (pc := 14) (v := (0 : Int32)) hx hb d_xMatrices_open_14 (by decide) ?_
      obtain ⟨e_0, e_1, e_2⟩ := kr3 hf
      rw [e_0]
      exact hRet (by rw [← e_0]; exact (by decide)) 15 _ _ _ d_xMatrices_open_15 (by rw [← e_1, ← e_2]; exact hP) (by rw [← e_1, ← e_2]; exact hD) hS
set_option maxHeartbeats 4000000 in
set_option maxRecDepth 100000 in
theorem ct_xPen_aim (l : Launch) (dC : Nat → ClassId) (dI : Nat → Nat → Nat) (q_o : Nat) (q_o_matrices : Nat) (q_o_points : Nat) (q_o_drawn : Nat) (q_p3 : Nat) (k_o_points : ClassId) (k_p3 : ClassId) (sz : Nat) (tt : Nat) (N : Nat) (x1 : Int32) (x2 : Int32) (v_o_x : Int64) (v_o_y : Int64) (v_o_startX : Int64) (v_o_startY : Int64) (v_o_controlX : Int64) (v_o_controlY : Int64) (v_o_controlFor : Int32) (c_o_points : (Nat → Int64)) (c_p3 : (Nat → Int64)) (rv : Int32) (v_o_startX_z : Int64) (v_o_startY_z : Int64) (v_o_controlX_z : Int64) (v_o_controlY_z : Int64) (v_o_controlFor_z : Int32) (c_o_points_z : (Nat → Int64)) (hf : xPen_aim N x1 x2 v_o_x v_o_y v_o_startX v_o_startY v_o_controlX v_o_controlY v_o_controlFor c_o_points c_p3 = some (rv, v_o_startX_z, v_o_startY_z, v_o_controlX_z, v_o_controlY_z, v_o_controlFor_z, c_o_points_z)) : Met l y_xPen_aim w_xPen_aim ({ frames := 3, cells := 0, slots := 0, locals := 68 }) (va_Pc [.ref q_o, .int x1, .int x2, .ref q_p3] (fun U => U.heap.size = sz ∧ va_P (dC, dI) clz [(q_o, .inr (3, f_Pen q_o_matrices q_o_points q_o_drawn v_o_x v_o_y v_o_startX v_o_startY v_o_controlX v_o_controlY v_o_controlFor)), (q_o_points, .inl (k_o_points, 6, .inr (.inl c_o_points))), (q_p3, .inl (k_p3, 6, .inr (.inl c_p3)))] U.heap ∧ va_K (dC, dI) clz [(k_o_points, .long), (k_p3, .long)] U ∧ va_D (fun _ => True) [(q_o, .inr (3, f_Pen q_o_matrices q_o_points q_o_drawn v_o_x v_o_y v_o_startX v_o_startY v_o_controlX v_o_controlY v_o_controlFor)), (q_o_points, .inl (k_o_points, 6, .inr (.inl c_o_points))), (q_p3, .inl (k_p3, 6, .inr (.inl c_p3)))] ∧ ke tt (va_A [(q_o, .inr (3, f_Pen q_o_matrices q_o_points q_o_drawn v_o_x v_o_y v_o_startX v_o_startY v_o_controlX v_o_controlY v_o_controlFor)), (q_o_points, .inl (k_o_points, 6, .inr (.inl c_o_points))), (q_p3, .inl (k_p3, 6, .inr (.inl c_p3)))] sz) U)) (va_Qi (fun (r9 : Int32) (_ : Unit) => r9 = rv) (fun _ t => va_P (dC, dI) clz [(q_o, .inr (3, f_Pen q_o_matrices q_o_points q_o_drawn v_o_x v_o_y v_o_startX_z v_o_startY_z v_o_controlX_z v_o_controlY_z v_o_controlFor_z)), (q_o_points, .inl (k_o_points, 6, .inr (.inl c_o_points_z))), (q_p3, .inl (k_p3, 6, .inr (.inl c_p3)))] t.heap ∧ va_K (dC, dI) clz [(k_o_points, .long), (k_p3, .long)] t ∧ va_D (va_A [(q_o, .inr (3, f_Pen q_o_matrices q_o_points q_o_drawn v_o_x v_o_y v_o_startX v_o_startY v_o_controlX v_o_controlY v_o_controlFor)), (q_o_points, .inl (k_o_points, 6, .inr (.inl c_o_points))), (q_p3, .inl (k_p3, 6, .inr (.inl c_p3)))] sz) [(q_o, .inr (3, f_Pen q_o_matrices q_o_points q_o_drawn v_o_x v_o_y v_o_startX_z v_o_startY_z v_o_controlX_z v_o_controlY_z v_o_controlFor_z)), (q_o_points, .inl (k_o_points, 6, .inr (.inl c_o_points_z))), (q_p3, .inl (k_p3, 6, .inr (.inl c_p3)))]) (va_A [(q_o, .inr (3, f_Pen q_o_matrices q_o_points q_o_drawn v_o_x v_o_y v_o_startX v_o_startY v_o_controlX v_o_controlY v_o_controlFor)), (q_o_points, .inl (k_o_points, 6, .inr (.inl c_o_points))), (q_p3, .inl (k_p3, 6, .inr (.inl c_p3)))] sz)) 0 0 (va_A [(q_o, .inr (3, f_Pen q_o_matrices q_o_points q_o_drawn v_o_x v_o_y v_o_startX v_o_startY v_o_controlX v_o_controlY v_o_controlFor)), (q_o_points, .inl (k_o_points, 6, .inr (.inl c_o_points))), (q_p3, .inl (k_p3, 6, .inr (.inl c_p3)))] sz) := by
  refine Met.ofW (cc := prog_5_method_3_code) (maxL := 5) (ret := (some .int)) (by decide +kernel) rfl ?_
  intro p e s m args below meth c s₁ B hml hv
  obtain ⟨hargs, hsz, hP, hK, hD0, hE⟩ := hv
  have hx := B.exec
  have hb := B.bytes
  have hr := B.returns
  have hts := atoms_spec (ws := w_xPen_aim) B.pre
  have hown : s.vm.findClass "PathTexts$Pen" = some m.cls := findClass_of_methodNamed B.named
  have hlocks := B.notSynchronized
  subst hsz
  have hD := hD0.self (sz := s.heap.size)
  generalize hAe : va_A [(q_o, .inr (3, f_Pen q_o_matrices q_o_points q_o_drawn v_o_x v_o_y v_o_startX v_o_startY v_o_controlX v_o_controlY v_o_controlFor)), (q_o_points, .inl (k_o_points, 6, .inr (.inl c_o_points))), (q_p3, .inl (k_p3, 6, .inr (.inl c_p3)))] s.heap.size = A at hD hE ⊢
  have hA : ∀ q : Nat, s.heap.size ≤ q → A q := fun q h => by rw [← hAe]; exact Or.inr h
  clear hAe hD0
  have hS : va_S A s.heap s.heap [] := va_S.rf
  have hl := lv_entry ([.ref q_o, .int x1, .int x2, .ref q_p3]) (n := 5) (Nat.le_of_ble_eq_true rfl)
  have hent : entryFrame m args 5 = F0 m 0 (lg_sl ([.ref q_o, .int x1, .int x2, .ref q_p3]) ++ List.replicate (5 - (lg_sl ([.ref q_o, .int x1, .int x2, .ref q_p3])).length) Slot.unset).toArray [] := by rw [hargs, lg_entry_eq]
  rw [hent]
  clear hent hargs
  generalize (lg_sl ([.ref q_o, .int x1, .int x2, .ref q_p3]) ++ List.replicate (5 - (lg_sl ([.ref q_o, .int x1, .int x2, .ref q_p3])).length) Slot.unset).toArray = ls at hl ⊢
  have hl : lv_has ls 5 [(0, .ref q_o), (1, .int x1), (2, .int x2), (3, .ref q_p3)] := hl
  suffices key : ∀ Q : State → Prop, (∀ (pc : Nat) (H : Heap) (locs : List Loc) (ls : Array Slot), decode prog_5_method_3_code pc = .ok (.ireturn, 1) → va_P (dC, dI) clz [(q_o, .inr (3, f_Pen q_o_matrices q_o_points q_o_drawn v_o_x v_o_y v_o_startX_z v_o_startY_z v_o_controlX_z v_o_controlY_z v_o_controlFor_z)), (q_o_points, .inl (k_o_points, 6, .inr (.inl c_o_points_z))), (q_p3, .inl (k_p3, 6, .inr (.inl c_p3)))] H → va_D A [(q_o, .inr (3, f_Pen q_o_matrices q_o_points q_o_drawn v_o_x v_o_y v_o_startX_z v_o_startY_z v_o_controlX_z v_o_controlY_z v_o_controlFor_z)), (q_o_points, .inl (k_o_points, 6, .inr (.inl c_o_points_z))), (q_p3, .inl (k_p3, 6, .inr (.inl c_p3)))] → va_S A s.heap H locs → W p l e (headSpec w_xPen_aim ({ frames := 3, cells := 0, slots := 0, locals := 68 })).room s m args below meth c H locs 0 0 Q (F0 m pc ls [.int rv])) → W p l e (headSpec w_xPen_aim ({ frames := 3, cells := 0, slots := 0, locals := 68 })).room s m args below meth c s.heap [] 0 0 Q (F0 m 0 ls []) from key _ (fun pc H locs ls hd hP hD hS => W.iret hx hb hr (fun t ht hW => ⟨⟨rv, (), rfl, rfl, by rw [ht]; exact hP, va_K.moved hW.alike hK, hD⟩, hS.F ht⟩) hS.2.2 hd)
  intro Q hRet
  have hb214 : ∀ (s1 : Int32) (v_o_startX : Int64) (v_o_startY : Int64) (v_o_controlX : Int64) (v_o_controlY : Int64) (v_o_controlFor : Int32) (c_o_points : (Nat → Int64)) (H : Heap) (locs : List Loc) (ls : Array Slot), xPen_aim_b214 N s1 v_o_x v_o_y v_o_startX v_o_startY v_o_controlX v_o_controlY c_o_points = some (rv, v_o_startX_z, v_o_startY_z, v_o_controlX_z, v_o_controlY_z, v_o_controlFor_z, c_o_points_z) → va_P (dC, dI) clz [(q_o, .inr (3, f_Pen q_o_matrices q_o_points q_o_drawn v_o_x v_o_y v_o_startX v_o_startY v_o_controlX v_o_controlY v_o_controlFor)), (q_o_points, .inl (k_o_points, 6, .inr (.inl c_o_points))), (q_p3, .inl (k_p3, 6, .inr (.inl c_p3)))] H → va_D A [(q_o, .inr (3, f_Pen q_o_matrices q_o_points q_o_drawn v_o_x v_o_y v_o_startX v_o_startY v_o_controlX v_o_controlY v_o_controlFor)), (q_o_points, .inl (k_o_points, 6, .inr (.inl c_o_points))), (q_p3, .inl (k_p3, 6, .inr (.inl c_p3)))] → va_S A s.heap H locs → lv_has ls 5 [(0, .ref q_o)] → W p l e (headSpec w_xPen_aim ({ frames := 3, cells := 0, slots := 0, locals := 68 })).room s m args below meth c H locs 0 0 Q (F0 m 214 ls [.int s1, .ref q_o]) := by
    intro s1 v_o_startX v_o_startY v_o_controlX v_o_controlY v_o_controlFor c_o_points H locs ls hf hP hD hS hl
    rw [xPen_aim_b214] at hf
    obtain ⟨c_o_points_214, hz, hf⟩ := kb1_some hf
    have hPc := hP.sub (ws' := [(q_o, .inr (3, f_Pen q_o_matrices q_o_points q_o_drawn v_o_x v_o_y v_o_startX v_o_startY v_o_controlX v_o_controlY v_o_controlFor)), (q_o_points, .inl (k_o_points, 6, .inr (.inl c_o_points)))]) [0, 1] rfl
    have hDc := hD.sub (ws' := [(q_o, .inr (3, f_Pen q_o_matrices q_o_points q_o_drawn v_o_x v_o_y v_o_startX v_o_startY v_o_controlX v_o_controlY v_o_controlFor)), (q_o_points, .inl (k_o_points, 6, .inr (.inl c_o_points)))]) [0, 1] (by decide) rfl
    have hKc := hK.sub (tys' := [(k_o_points, .long)]) [0] rfl
    have hFc := va_free (wc := [(q_o, .inr (3, f_Pen q_o_matrices q_o_points q_o_drawn v_o_x v_o_y v_o_startX v_o_startY v_o_controlX v_o_controlY v_o_controlFor)), (q_o_points, .inl (k_o_points, 6, .inr (.inl c_o_points)))]) hD hS hA [0, 1] rfl
    refine va_callv (pc := 214) (va_runV (As := [.int s1]) (rest := []) ⟨hx, hb, hml, hown, hts⟩ (ct_xPen_putTurnedFirst l dC dI q_o q_o_matrices q_o_points q_o_drawn k_o_points _ N s1 v_o_x v_o_y v_o_startX v_o_startY v_o_controlX v_o_controlY v_o_controlFor c_o_points c_o_points_214 hz) (cwV 1 hts (kw_in4 kw_317 kw_318 kw_319 kw_4 kw_320) rfl rfl rfl (by decide +kernel) ⟨Nat.le_of_ble_eq_true rfl, Nat.le_of_ble_eq_true rfl⟩) (kx_preV hPc hKc hDc 0 rfl rfl) rfl rfl hl.1 rfl (lv_room (Nat.le_of_ble_eq_true rfl)) d_xPen_aim_214 ⟨Nat.le_of_ble_eq_true rfl, Nat.le_of_ble_eq_true rfl⟩) hS (fun q _ h => hFc q h) hFc (fun u t H1 locs ht hvm hw hB hz1 hk1 hS => ?_)
    obtain ⟨hP1, hK1, hD1⟩ := hB
    rw [ht] at hP1
    obtain ⟨hP, hD⟩ := va_join (wr := [(q_p3, .inl (k_p3, 6, .inr (.inl c_p3)))]) (w1 := [(q_o, .inr (3, f_Pen q_o_matrices q_o_points q_o_drawn v_o_x v_o_y v_o_startX v_o_startY v_o_controlX v_o_controlY v_o_controlFor)), (q_o_points, .inl (k_o_points, 6, .inr (.inl c_o_points_214)))]) hP hD [0, 1] [2] rfl rfl (by decide) (by decide) hk1 hFc hP1 hD1
    have hP := hP.sub (ws' := [(q_o, .inr (3, f_Pen q_o_matrices q_o_points q_o_drawn v_o_x v_o_y v_o_startX v_o_startY v_o_controlX v_o_controlY v_o_controlFor)), (q_o_points, .inl (k_o_points, 6, .inr (.inl c_o_points_214))), (q_p3, .inl (k_p3, 6, .inr (.inl c_p3)))]) [1, 2, 0] rfl
    have hD := hD.sub (ws' := [(q_o, .inr (3, f_Pen q_o_matrices q_o_points q_o_drawn v_o_x v_o_y v_o_startX v_o_startY v_o_controlX v_o_controlY v_o_controlFor)), (q_o_points, .inl (k_o_points, 6, .inr (.inl c_o_points_214))), (q_p3, .inl (k_p3, 6, .inr (.inl c_p3)))]) [1, 2, 0] (by decide) rfl
    clear hP1 hK1 hD1 hk1 hPc hDc hKc hFc hz1 hvm ht hz
    generalize H1 = H at hP hS ⊢
    refine lv_aload_n (pc := 217) hx hb d_xPen_aim_217 rfl (lv_at hl 0 rfl) ?_
    obtain ⟨v_o_controlX_218, v_o_controlY_218, v_o_controlFor_218, hz, hf⟩ := kb3_some hf
    have hPc := hP.sub (ws' := [(q_o, .inr (3, f_Pen q_o_matrices q_o_points q_o_drawn v_o_x v_o_y v_o_startX v_o_startY v_o_controlX v_o_controlY v_o_controlFor)), (q_o_points, .inl (k_o_points, 6, .inr (.inl c_o_points_214)))]) [0, 1] rfl
    have hDc := hD.sub (ws' := [(q_o, .inr (3, f_Pen q_o_matrices q_o_points q_o_drawn v_o_x v_o_y v_o_startX v_o_startY v_o_controlX v_o_controlY v_o_controlFor)), (q_o_points, .inl (k_o_points, 6, .inr (.inl c_o_points_214)))]) [0, 1] (by decide) rfl
    have hKc := hK.sub (tys' := [(k_o_points, .long)]) [0] rfl
    have hFc := va_free (wc := [(q_o, .inr (3, f_Pen q_o_matrices q_o_points q_o_drawn v_o_x v_o_y v_o_startX v_o_startY v_o_controlX v_o_controlY v_o_controlFor)), (q_o_points, .inl (k_o_points, 6, .inr (.inl c_o_points_214)))]) hD hS hA [0, 1] rfl
    refine va_callv (pc := 218) (va_runV (As := []) (rest := []) ⟨hx, hb, hml, hown, hts⟩ (ct_xPen_aimByTwoControls l dC dI q_o q_o_matrices q_o_points q_o_drawn k_o_points _ v_o_x v_o_y v_o_startX v_o_startY v_o_controlX v_o_controlY v_o_controlFor c_o_points_214 v_o_controlX_218 v_o_controlY_218 v_o_controlFor_218 hz) (cwV 0 hts (kw_in4 kw_313 kw_314 kw_315 kw_4 kw_316) rfl rfl rfl (by decide +kernel) ⟨Nat.le_of_ble_eq_true rfl, Nat.le_of_ble_eq_true rfl⟩) (kx_preV hPc hKc hDc 0 rfl rfl) rfl rfl hl.1 rfl (lv_room (Nat.le_of_ble_eq_true rfl)) d_xPen_aim_218 ⟨Nat.le_of_ble_eq_true rfl, Nat.le_of_ble_eq_true rfl⟩) hS (fun q _ h => hFc q h) hFc (fun u t H1 locs ht hvm hw hB hz1 hk1 hS => ?_)
    obtain ⟨hP1, hK1, hD1⟩ := hB
    rw [ht] at hP1
    obtain ⟨hP, hD⟩ := va_join (wr := [(q_p3, .inl (k_p3, 6, .inr (.inl c_p3)))]) (w1 := [(q_o, .inr (3, f_Pen q_o_matrices q_o_points q_o_drawn v_o_x v_o_y v_o_startX v_o_startY v_o_controlX_218 v_o_controlY_218 v_o_controlFor_218)), (q_o_points, .inl (k_o_points, 6, .inr (.inl c_o_points_214)))]) hP hD [0, 1] [2] rfl rfl (by decide) (by decide) hk1 hFc hP1 hD1
    have hP := hP.sub (ws' := [(q_o, .inr (3, f_Pen q_o_matrices q_o_points q_o_drawn v_o_x v_o_y v_o_startX v_o_startY v_o_controlX_218 v_o_controlY_218 v_o_controlFor_218)), (q_o_points, .inl (k_o_points, 6, .inr (.inl c_o_points_214))), (q_p3, .inl (k_p3, 6, .inr (.inl c_p3)))]) [1, 2, 0] rfl
    have hD := hD.sub (ws' := [(q_o, .inr (3, f_Pen q_o_matrices q_o_points q_o_drawn v_o_x v_o_y v_o_startX v_o_startY v_o_controlX_218 v_o_controlY_218 v_o_controlFor_218)), (q_o_points, .inl (k_o_points, 6, .inr (.inl c_o_points_214))), (q_p3, .inl (k_p3, 6, .inr (.inl c_p3)))]) [1, 2, 0] (by decide) rfl
    clear hP1 hK1 hD1 hk1 hPc hDc hKc hFc hz1 hvm ht hz
    generalize H1 = H at hP hS ⊢
    refine lv_iconst (pc := 221) (v := (2 : Int32)) hx hb d_xPen_aim_221 (by decide) ?_
    obtain ⟨e_0, e_1, e_2, e_3, e_4, e_5, e_6⟩ := kr7 hf
    rw [e_0]
    exact hRet 222 _ _ _ d_xPen_aim_222 (by rw [← e_1, ← e_2, ← e_3, ← e_4, ← e_5, ← e_6]; exact hP) (by rw [← e_1, ← e_2, ← e_3, ← e_4, ← e_5, ← e_6]; exact hD) hS
  have hb242 : ∀ (s1 : Int32) (v_o_startX : Int64) (v_o_startY : Int64) (v_o_controlX : Int64) (v_o_controlY : Int64) (v_o_controlFor : Int32) (c_o_points : (Nat → Int64)) (H : Heap) (locs : List Loc) (ls : Array Slot), xPen_aim_b242 N s1 v_o_x v_o_y v_o_startX v_o_startY v_o_controlX v_o_controlY c_o_points = some (rv, v_o_startX_z, v_o_startY_z, v_o_controlX_z, v_o_controlY_z, v_o_controlFor_z, c_o_points_z) → va_P (dC, dI) clz [(q_o, .inr (3, f_Pen q_o_matrices q_o_points q_o_drawn v_o_x v_o_y v_o_startX v_o_startY v_o_controlX v_o_controlY v_o_controlFor)), (q_o_points, .inl (k_o_points, 6, .inr (.inl c_o_points))), (q_p3, .inl (k_p3, 6, .inr (.inl c_p3)))] H → va_D A [(q_o, .inr (3, f_Pen q_o_matrices q_o_points q_o_drawn v_o_x v_o_y v_o_startX v_o_startY v_o_controlX v_o_controlY v_o_controlFor)), (q_o_points, .inl (k_o_points, 6, .inr (.inl c_o_points))), (q_p3, .inl (k_p3, 6, .inr (.inl c_p3)))] → va_S A s.heap H locs → lv_has ls 5 [(0, .ref q_o)] → W p l e (headSpec w_xPen_aim ({ frames := 3, cells := 0, slots := 0, locals := 68 })).room s m args below meth c H locs 0 0 Q (F0 m 242 ls [.int s1, .ref q_o]) := by
    intro s1 v_o_startX v_o_startY v_o_controlX v_o_controlY v_o_controlFor c_o_points H locs ls hf hP hD hS hl
    rw [xPen_aim_b242] at hf
    obtain ⟨c_o_points_242, hz, hf⟩ := kb1_some hf
    have hPc := hP.sub (ws' := [(q_o, .inr (3, f_Pen q_o_matrices q_o_points q_o_drawn v_o_x v_o_y v_o_startX v_o_startY v_o_controlX v_o_controlY v_o_controlFor)), (q_o_points, .inl (k_o_points, 6, .inr (.inl c_o_points)))]) [0, 1] rfl
    have hDc := hD.sub (ws' := [(q_o, .inr (3, f_Pen q_o_matrices q_o_points q_o_drawn v_o_x v_o_y v_o_startX v_o_startY v_o_controlX v_o_controlY v_o_controlFor)), (q_o_points, .inl (k_o_points, 6, .inr (.inl c_o_points)))]) [0, 1] (by decide) rfl
    have hKc := hK.sub (tys' := [(k_o_points, .long)]) [0] rfl
    have hFc := va_free (wc := [(q_o, .inr (3, f_Pen q_o_matrices q_o_points q_o_drawn v_o_x v_o_y v_o_startX v_o_startY v_o_controlX v_o_controlY v_o_controlFor)), (q_o_points, .inl (k_o_points, 6, .inr (.inl c_o_points)))]) hD hS hA [0, 1] rfl
    refine va_callv (pc := 242) (va_runV (As := [.int s1]) (rest := []) ⟨hx, hb, hml, hown, hts⟩ (ct_xPen_putTurnedFirst l dC dI q_o q_o_matrices q_o_points q_o_drawn k_o_points _ N s1 v_o_x v_o_y v_o_startX v_o_startY v_o_controlX v_o_controlY v_o_controlFor c_o_points c_o_points_242 hz) (cwV 1 hts (kw_in4 kw_317 kw_318 kw_319 kw_4 kw_320) rfl rfl rfl (by decide +kernel) ⟨Nat.le_of_ble_eq_true rfl, Nat.le_of_ble_eq_true rfl⟩) (kx_preV hPc hKc hDc 0 rfl rfl) rfl rfl hl.1 rfl (lv_room (Nat.le_of_ble_eq_true rfl)) d_xPen_aim_242 ⟨Nat.le_of_ble_eq_true rfl, Nat.le_of_ble_eq_true rfl⟩) hS (fun q _ h => hFc q h) hFc (fun u t H1 locs ht hvm hw hB hz1 hk1 hS => ?_)
    obtain ⟨hP1, hK1, hD1⟩ := hB
    rw [ht] at hP1
    obtain ⟨hP, hD⟩ := va_join (wr := [(q_p3, .inl (k_p3, 6, .inr (.inl c_p3)))]) (w1 := [(q_o, .inr (3, f_Pen q_o_matrices q_o_points q_o_drawn v_o_x v_o_y v_o_startX v_o_startY v_o_controlX v_o_controlY v_o_controlFor)), (q_o_points, .inl (k_o_points, 6, .inr (.inl c_o_points_242)))]) hP hD [0, 1] [2] rfl rfl (by decide) (by decide) hk1 hFc hP1 hD1
    have hP := hP.sub (ws' := [(q_o, .inr (3, f_Pen q_o_matrices q_o_points q_o_drawn v_o_x v_o_y v_o_startX v_o_startY v_o_controlX v_o_controlY v_o_controlFor)), (q_o_points, .inl (k_o_points, 6, .inr (.inl c_o_points_242))), (q_p3, .inl (k_p3, 6, .inr (.inl c_p3)))]) [1, 2, 0] rfl
    have hD := hD.sub (ws' := [(q_o, .inr (3, f_Pen q_o_matrices q_o_points q_o_drawn v_o_x v_o_y v_o_startX v_o_startY v_o_controlX v_o_controlY v_o_controlFor)), (q_o_points, .inl (k_o_points, 6, .inr (.inl c_o_points_242))), (q_p3, .inl (k_p3, 6, .inr (.inl c_p3)))]) [1, 2, 0] (by decide) rfl
    clear hP1 hK1 hD1 hk1 hPc hDc hKc hFc hz1 hvm ht hz
    generalize H1 = H at hP hS ⊢
    refine lv_aload_n (pc := 245) hx hb d_xPen_aim_245 rfl (lv_at hl 0 rfl) ?_
    obtain ⟨v_o_controlX_246, v_o_controlY_246, v_o_controlFor_246, c_o_points_246, hz, hf⟩ := kb4_some hf
    have hPc := hP.sub (ws' := [(q_o, .inr (3, f_Pen q_o_matrices q_o_points q_o_drawn v_o_x v_o_y v_o_startX v_o_startY v_o_controlX v_o_controlY v_o_controlFor)), (q_o_points, .inl (k_o_points, 6, .inr (.inl c_o_points_242)))]) [0, 1] rfl
    have hDc := hD.sub (ws' := [(q_o, .inr (3, f_Pen q_o_matrices q_o_points q_o_drawn v_o_x v_o_y v_o_startX v_o_startY v_o_controlX v_o_controlY v_o_controlFor)), (q_o_points, .inl (k_o_points, 6, .inr (.inl c_o_points_242)))]) [0, 1] (by decide) rfl
    have hKc := hK.sub (tys' := [(k_o_points, .long)]) [0] rfl
    have hFc := va_free (wc := [(q_o, .inr (3, f_Pen q_o_matrices q_o_points q_o_drawn v_o_x v_o_y v_o_startX v_o_startY v_o_controlX v_o_controlY v_o_controlFor)), (q_o_points, .inl (k_o_points, 6, .inr (.inl c_o_points_242)))]) hD hS hA [0, 1] rfl
    refine va_callv (pc := 246) (va_runV (As := []) (rest := []) ⟨hx, hb, hml, hown, hts⟩ (ct_xPen_aimByOneControl l dC dI q_o q_o_matrices q_o_points q_o_drawn k_o_points _ tt v_o_x v_o_y v_o_startX v_o_startY v_o_controlX v_o_controlY v_o_controlFor c_o_points_242 v_o_controlX_246 v_o_controlY_246 v_o_controlFor_246 c_o_points_246 hz) (cwV 0 hts (kw_in4 kw_322 kw_323 kw_324 kw_4 kw_325) rfl rfl rfl (by decide +kernel) ⟨Nat.le_of_ble_eq_true rfl, Nat.le_of_ble_eq_true rfl⟩) (ke_preV hPc hKc hDc hE hS hFc 0 rfl rfl) rfl rfl hl.1 rfl (lv_room (Nat.le_of_ble_eq_true rfl)) d_xPen_aim_246 ⟨Nat.le_of_ble_eq_true rfl, Nat.le_of_ble_eq_true rfl⟩) hS (fun q _ h => hFc q h) hFc (fun u t H1 locs ht hvm hw hB hz1 hk1 hS => ?_)
    obtain ⟨hP1, hK1, hD1⟩ := hB
    rw [ht] at hP1
    obtain ⟨hP, hD⟩ := va_join (wr := [(q_p3, .inl (k_p3, 6, .inr (.inl c_p3)))]) (w1 := [(q_o, .inr (3, f_Pen q_o_matrices q_o_points q_o_drawn v_o_x v_o_y v_o_startX v_o_startY v_o_controlX_246 v_o_controlY_246 v_o_controlFor_246)), (q_o_points, .inl (k_o_points, 6, .inr (.inl c_o_points_246)))]) hP hD [0, 1] [2] rfl rfl (by decide) (by decide) hk1 hFc hP1 hD1
    have hP := hP.sub (ws' := [(q_o, .inr (3, f_Pen q_o_matrices q_o_points q_o_drawn v_o_x v_o_y v_o_startX v_o_startY v_o_controlX_246 v_o_controlY_246 v_o_controlFor_246)), (q_o_points, .inl (k_o_points, 6, .inr (.inl c_o_points_246))), (q_p3, .inl (k_p3, 6, .inr (.inl c_p3)))]) [1, 2, 0] rfl
    have hD := hD.sub (ws' := [(q_o, .inr (3, f_Pen q_o_matrices q_o_points q_o_drawn v_o_x v_o_y v_o_startX v_o_startY v_o_controlX_246 v_o_controlY_246 v_o_controlFor_246)), (q_o_points, .inl (k_o_points, 6, .inr (.inl c_o_points_246))), (q_p3, .inl (k_p3, 6, .inr (.inl c_p3)))]) [1, 2, 0] (by decide) rfl
    clear hP1 hK1 hD1 hk1 hPc hDc hKc hFc hz1 hvm ht hz
    generalize H1 = H at hP hS ⊢
    refine lv_iconst (pc := 249) (v := (2 : Int32)) hx hb d_xPen_aim_249 (by decide) ?_
    obtain ⟨e_0, e_1, e_2, e_3, e_4, e_5, e_6⟩ := kr7 hf
    rw [e_0]
    exact hRet 250 _ _ _ d_xPen_aim_250 (by rw [← e_1, ← e_2, ← e_3, ← e_4, ← e_5, ← e_6]; exact hP) (by rw [← e_1, ← e_2, ← e_3, ← e_4, ← e_5, ← e_6]; exact hD) hS
  have hb182 : ∀ (s1 : Int32) (s2 : Int64) (v_o_startX : Int64) (v_o_startY : Int64) (v_o_controlX : Int64) (v_o_controlY : Int64) (v_o_controlFor : Int32) (c_o_points : (Nat → Int64)) (H : Heap) (locs : List Loc) (ls : Array Slot), xPen_aim_b182 N s1 s2 v_o_x v_o_startX v_o_startY v_o_controlX v_o_controlY v_o_controlFor c_o_points = some (rv, v_o_startX_z, v_o_startY_z, v_o_controlX_z, v_o_controlY_z, v_o_controlFor_z, c_o_points_z) → va_P (dC, dI) clz [(q_o, .inr (3, f_Pen q_o_matrices q_o_points q_o_drawn v_o_x v_o_y v_o_startX v_o_startY v_o_controlX v_o_controlY v_o_controlFor)), (q_o_points, .inl (k_o_points, 6, .inr (.inl c_o_points))), (q_p3, .inl (k_p3, 6, .inr (.inl c_p3)))] H → va_D A [(q_o, .inr (3, f_Pen q_o_matrices q_o_points q_o_drawn v_o_x v_o_y v_o_startX v_o_startY v_o_controlX v_o_controlY v_o_controlFor)), (q_o_points, .inl (k_o_points, 6, .inr (.inl c_o_points))), (q_p3, .inl (k_p3, 6, .inr (.inl c_p3)))] → va_S A s.heap H locs → lv_has ls 5 [(0, .ref q_o)] → W p l e (headSpec w_xPen_aim ({ frames := 3, cells := 0, slots := 0, locals := 68 })).room s m args below meth c H locs 0 0 Q (F0 m 182 ls [.long s2, .int s1, .ref q_o_points]) := by
    intro s1 s2 v_o_startX v_o_startY v_o_controlX v_o_controlY v_o_controlFor c_o_points H locs ls hf hP hD hS hl
    rw [xPen_aim_b182] at hf
    obtain ⟨hg1, hf⟩ := kg_some hf
    refine kx_last (pc := 182) (ws' := [(q_o, .inr (3, f_Pen q_o_matrices q_o_points q_o_drawn v_o_x v_o_y v_o_startX v_o_startY v_o_controlX v_o_controlY v_o_controlFor)), (q_o_points, .inl (k_o_points, 6, .inr (.inl (vp_updL c_o_points (s1).toNatClampNeg s2)))), (q_p3, .inl (k_p3, 6, .inr (.inl c_p3)))]) hx hb hK hP hD hS 1 0 rfl rfl (ki_in hg1) rfl d_xPen_aim_182 (fun H locs hP hD hS => ?_)
    refine lv_aload_n (pc := 183) hx hb d_xPen_aim_183 rfl (lv_at hl 0 rfl) ?_
    refine va_get (pc := 184) (D := (dC, dI)) (ci := 3) (v := .ref q_o_points) (C := "PathTexts$Pen") (T := F_Pen) (N := 10) hx hb hts (fun w h => List.mem_cons_of_mem _ (in_Pen w h)) hown hK hP 0 rfl rfl 1 (by decide) (hts _ (List.mem_cons_of_mem _ kw_73)) (fun _ h9 => h9) fg_Pen_1 d_xPen_aim_184 ?_
    refine lv_iconst (pc := 187) (v := (0 : Int32)) hx hb d_xPen_aim_187 (by decide) ?_
    refine lv_aload_n (pc := 188) hx hb d_xPen_aim_188 rfl (lv_at hl 0 rfl) ?_
    refine va_get (pc := 189) (D := (dC, dI)) (ci := 3) (v := .long v_o_x) (C := "PathTexts$Pen") (T := F_Pen) (N := 10) hx hb hts (fun w h => List.mem_cons_of_mem _ (in_Pen w h)) hown hK hP 0 rfl rfl 3 (by decide) (hts _ (List.mem_cons_of_mem _ kw_75)) (fun _ h9 => h9) fg_Pen_3 d_xPen_aim_189 ?_
    refine kx_last (pc := 192) (ws' := [(q_o, .inr (3, f_Pen q_o_matrices q_o_points q_o_drawn v_o_x v_o_y v_o_startX v_o_startY v_o_controlX v_o_controlY v_o_controlFor)), (q_o_points, .inl (k_o_points, 6, .inr (.inl (vp_updL (vp_updL c_o_points (s1).toNatClampNeg s2) ((0 : Int32)).toNatClampNeg v_o_x)))), (q_p3, .inl (k_p3, 6, .inr (.inl c_p3)))]) hx hb hK hP hD hS 1 0 rfl rfl (ki_in (by decide)) rfl d_xPen_aim_192 (fun H locs hP hD hS => ?_)
    refine lv_iconst (pc := 193) (v := (1 : Int32)) hx hb d_xPen_aim_193 (by decide) ?_
    obtain ⟨e_0, e_1, e_2, e_3, e_4, e_5, e_6⟩ := kr7 hf
    rw [e_0]
    exact hRet 194 _ _ _ d_xPen_aim_194 (by rw [← e_1, ← e_2, ← e_3, ← e_4, ← e_5, ← e_6]; exact hP) (by rw [← e_1, ← e_2, ← e_3, ← e_4, ← e_5, ← e_6]; exact hD) hS
  rw [xPen_aim] at hf
  refine lv_aload_n (pc := 0) hx hb d_xPen_aim_0 rfl (lv_at hl 0 rfl) ?_
  refine lv_iload_n (pc := 1) hx hb d_xPen_aim_1 rfl (lv_at hl 2 rfl) ?_
  refine lv_aload_n (pc := 2) hx hb d_xPen_aim_2 rfl (lv_at hl 3 rfl) ?_
  obtain ⟨c_o_points_3, hz, hf⟩ := kb1_some hf
  have hPc := hP.sub (ws' := [(q_o, .inr (3, f_Pen q_o_matrices q_o_points q_o_drawn v_o_x v_o_y v_o_startX v_o_startY v_o_controlX v_o_controlY v_o_controlFor)), (q_o_points, .inl (k_o_points, 6, .inr (.inl c_o_points))), (q_p3, .inl (k_p3, 6, .inr (.inl c_p3)))]) [0, 1, 2] rfl
  have hDc := hD.sub (ws' := [(q_o, .inr (3, f_Pen q_o_matrices q_o_points q_o_drawn v_o_x v_o_y v_o_startX v_o_startY v_o_controlX v_o_controlY v_o_controlFor)), (q_o_points, .inl (k_o_points, 6, .inr (.inl c_o_points))), (q_p3, .inl (k_p3, 6, .inr (.inl c_p3)))]) [0, 1, 2] (by decide) rfl
  have hKc := hK.sub (tys' := [(k_o_points, .long), (k_p3, .long)]) [0, 1] rfl
  have hFc := va_free (wc := [(q_o, .inr (3, f_Pen q_o_matrices q_o_points q_o_drawn v_o_x v_o_y v_o_startX v_o_startY v_o_controlX v_o_controlY v_o_controlFor)), (q_o_points, .inl (k_o_points, 6, .inr (.inl c_o_points))), (q_p3, .inl (k_p3, 6, .inr (.inl c_p3)))]) hD hS hA [0, 1, 2] rfl
  refine va_callv (pc := 3) (va_runV (As := [.int x2, .ref q_p3]) (rest := []) ⟨hx, hb, hml, hown, hts⟩ (ct_xPen_takePoints l dC dI q_o q_o_matrices q_o_points q_o_drawn q_p3 k_o_points k_p3 _ N x2 v_o_x v_o_y v_o_startX v_o_startY v_o_controlX v_o_controlY v_o_controlFor c_o_points c_p3 c_o_points_3 hz) (cwV 2 hts (kw_in4 kw_309 kw_310 kw_311 kw_4 kw_312) rfl rfl rfl (by decide +kernel) ⟨Nat.le_of_ble_eq_true rfl, Nat.le_of_ble_eq_true rfl⟩) (kx_preV hPc hKc hDc 0 rfl rfl) rfl rfl hl.1 rfl (lv_room (Nat.le_of_ble_eq_true rfl)) d_xPen_aim_3 ⟨Nat.le_of_ble_eq_true rfl, Nat.le_of_ble_eq_true rfl⟩) hS (fun q _ h => hFc q h) hFc (fun u t H1 locs ht hvm hw hB hz1 hk1 hS => ?_)
  obtain ⟨hP1, hK1, hD1⟩ := hB
  rw [ht] at hP1
  obtain ⟨hP, hD⟩ := va_join (wr := []) (w1 := [(q_o, .inr (3, f_Pen q_o_matrices q_o_points q_o_drawn v_o_x v_o_y v_o_startX v_o_startY v_o_controlX v_o_controlY v_o_controlFor)), (q_o_points, .inl (k_o_points, 6, .inr (.inl c_o_points_3))), (q_p3, .inl (k_p3, 6, .inr (.inl c_p3)))]) hP hD [0, 1, 2] [] rfl rfl (by decide) (by decide) hk1 hFc hP1 hD1
  have hP := hP.sub (ws' := [(q_o, .inr (3, f_Pen q_o_matrices q_o_points q_o_drawn v_o_x v_o_y v_o_startX v_o_startY v_o_controlX v_o_controlY v_o_controlFor)), (q_o_points, .inl (k_o_points, 6, .inr (.inl c_o_points_3))), (q_p3, .inl (k_p3, 6, .inr (.inl c_p3)))]) [0, 1, 2] rfl
  have hD := hD.sub (ws' := [(q_o, .inr (3, f_Pen q_o_matrices q_o_points q_o_drawn v_o_x v_o_y v_o_startX v_o_startY v_o_controlX v_o_controlY v_o_controlFor)), (q_o_points, .inl (k_o_points, 6, .inr (.inl c_o_points_3))), (q_p3, .inl (k_p3, 6, .inr (.inl c_p3)))]) [0, 1, 2] (by decide) rfl
  clear hP1 hK1 hD1 hk1 hPc hDc hKc hFc hz1 hvm ht hz
  generalize H1 = H at hP hS ⊢
  refine lv_aload_n (pc := 6) hx hb d_xPen_aim_6 rfl (lv_at hl 0 rfl) ?_
  refine va_get (pc := 7) (D := (dC, dI)) (ci := 3) (v := .int v_o_controlFor) (C := "PathTexts$Pen") (T := F_Pen) (N := 10) hx hb hts (fun w h => List.mem_cons_of_mem _ (in_Pen w h)) hown hK hP 0 rfl rfl 9 (by decide) (hts _ (List.mem_cons_of_mem _ kw_81)) (fun _ h9 => h9) fg_Pen_9 d_xPen_aim_7 ?_
  refine lv_istore (pc := 10) (lv' := [(4, .int v_o_controlFor), (0, .ref q_o), (1, .int x1), (2, .int x2), (3, .ref q_p3)]) hx hb d_xPen_aim_10 hl (by decide) rfl (fun ls hl => ?_)
  refine lv_aload_n (pc := 12) hx hb d_xPen_aim_12 rfl (lv_at hl 1 rfl) ?_
  refine lv_iconst (pc := 13) (v := (0 : Int32)) hx hb d_xPen_aim_13 (by decide) ?_
  refine kx_put (pc := 14) (D := (dC, dI)) (ci := 3) (v := .int (0 : Int32)) (ty := .char) (C := "PathTexts$Pen") (T := F_Pen) (N := 10) hx hb hts (fun w h => List.mem_cons_of_mem _ (in_Pen w h)) t_Pen tk_Pen n_Pen hown hK hP hD hS 0 rfl rfl 9 (by decide) (hts _ (List.mem_cons_of_mem _ kw_81)) (fun _ h9 => h9) rfl (tk_Pen 9 (by decide)) (by decide) (by decide) fl_Pen_9 fs_Pen_9 (ws' := [(q_o, .inr (3, f_Pen q_o_matrices q_o_points q_o_drawn v_o_x v_o_y v_o_startX v_o_startY v_o_controlX v_o_controlY (0 : Int32))), (q_o_points, .inl (k_o_points, 6, .inr (.inl c_o_points_3))), (q_p3, .inl (k_p3, 6, .inr (.inl c_p3)))]) rfl d_xPen_aim_14 (fun H locs hP hD hS => ?_)
  refine lv_iload_n (pc := 17) hx hb d_xPen_aim_17 rfl (lv_at hl 2 rfl) ?_
  by_cases hc67 : x1 = (67 : Int32)
  · rw [if_pos hc67] at hf
    refine lv_tableIn (pc := 18) (tgt := 195) hx hb d_xPen_aim_18 (by rw [hc67]; decide) (by rw [hc67]; decide) (by rw [hc67]; rfl) (by decide) ?_
    refine lv_aload_n (pc := 195) hx hb d_xPen_aim_195 rfl (lv_at hl 1 rfl) ?_
    obtain ⟨v_o_controlX_196, v_o_controlY_196, v_o_controlFor_196, hz, hf⟩ := kb3_some hf
    have hPc := hP.sub (ws' := [(q_o, .inr (3, f_Pen q_o_matrices q_o_points q_o_drawn v_o_x v_o_y v_o_startX v_o_startY v_o_controlX v_o_controlY (0 : Int32))), (q_o_points, .inl (k_o_points, 6, .inr (.inl c_o_points_3)))]) [0, 1] rfl
    have hDc := hD.sub (ws' := [(q_o, .inr (3, f_Pen q_o_matrices q_o_points q_o_drawn v_o_x v_o_y v_o_startX v_o_startY v_o_controlX v_o_controlY (0 : Int32))), (q_o_points, .inl (k_o_points, 6, .inr (.inl c_o_points_3)))]) [0, 1] (by decide) rfl
    have hKc := hK.sub (tys' := [(k_o_points, .long)]) [0] rfl
    have hFc := va_free (wc := [(q_o, .inr (3, f_Pen q_o_matrices q_o_points q_o_drawn v_o_x v_o_y v_o_startX v_o_startY v_o_controlX v_o_controlY (0 : Int32))), (q_o_points, .inl (k_o_points, 6, .inr (.inl c_o_points_3)))]) hD hS hA [0, 1] rfl
    refine va_callv (pc := 196) (va_runV (As := []) (rest := []) ⟨hx, hb, hml, hown, hts⟩ (ct_xPen_aimByTwoControls l dC dI q_o q_o_matrices q_o_points q_o_drawn k_o_points _ v_o_x v_o_y v_o_startX v_o_startY v_o_controlX v_o_controlY (0 : Int32) c_o_points_3 v_o_controlX_196 v_o_controlY_196 v_o_controlFor_196 hz) (cwV 0 hts (kw_in4 kw_313 kw_314 kw_315 kw_4 kw_316) rfl rfl rfl (by decide +kernel) ⟨Nat.le_of_ble_eq_true rfl, Nat.le_of_ble_eq_true rfl⟩) (kx_preV hPc hKc hDc 0 rfl rfl) rfl rfl hl.1 rfl (lv_room (Nat.le_of_ble_eq_true rfl)) d_xPen_aim_196 ⟨Nat.le_of_ble_eq_true rfl, Nat.le_of_ble_eq_true rfl⟩) hS (fun q _ h => hFc q h) hFc (fun u t H1 locs ht hvm hw hB hz1 hk1 hS => ?_)
    obtain ⟨hP1, hK1, hD1⟩ := hB
    rw [ht] at hP1
    obtain ⟨hP, hD⟩ := va_join (wr := [(q_p3, .inl (k_p3, 6, .inr (.inl c_p3)))]) (w1 := [(q_o, .inr (3, f_Pen q_o_matrices q_o_points q_o_drawn v_o_x v_o_y v_o_startX v_o_startY v_o_controlX_196 v_o_controlY_196 v_o_controlFor_196)), (q_o_points, .inl (k_o_points, 6, .inr (.inl c_o_points_3)))]) hP hD [0, 1] [2] rfl rfl (by decide) (by decide) hk1 hFc hP1 hD1
    have hP := hP.sub (ws' := [(q_o, .inr (3, f_Pen q_o_matrices q_o_points q_o_drawn v_o_x v_o_y v_o_startX v_o_startY v_o_controlX_196 v_o_controlY_196 v_o_controlFor_196)), (q_o_points, .inl (k_o_points, 6, .inr (.inl c_o_points_3))), (q_p3, .inl (k_p3, 6, .inr (.inl c_p3)))]) [1, 2, 0] rfl
    have hD := hD.sub (ws' := [(q_o, .inr (3, f_Pen q_o_matrices q_o_points q_o_drawn v_o_x v_o_y v_o_startX v_o_startY v_o_controlX_196 v_o_controlY_196 v_o_controlFor_196)), (q_o_points, .inl (k_o_points, 6, .inr (.inl c_o_points_3))), (q_p3, .inl (k_p3, 6, .inr (.inl c_p3)))]) [1, 2, 0] (by decide) rfl
    clear hP1 hK1 hD1 hk1 hPc hDc hKc hFc hz1 hvm ht hz
    generalize H1 = H at hP hS ⊢
    refine lv_iconst (pc := 199) (v := (2 : Int32)) hx hb d_xPen_aim_199 (by decide) ?_
    obtain ⟨e_0, e_1, e_2, e_3, e_4, e_5, e_6⟩ := kr7 hf
    rw [e_0]
    exact hRet 200 _ _ _ d_xPen_aim_200 (by rw [← e_1, ← e_2, ← e_3, ← e_4, ← e_5, ← e_6]; exact hP) (by rw [← e_1, ← e_2, ← e_3, ← e_4, ← e_5, ← e_6]; exact hD) hS
  rw [if_neg hc67] at hf
  by_cases hc72 : x1 = (72 : Int32)
  · rw [if_pos hc72] at hf
    refine lv_tableIn (pc := 18) (tgt := 136) hx hb d_xPen_aim_18 (by rw [hc72]; decide) (by rw [hc72]; decide) (by rw [hc72]; rfl) (by decide) ?_
    refine lv_aload_n (pc := 136) hx hb d_xPen_aim_136 rfl (lv_at hl 1 rfl) ?_
    refine va_get (pc := 137) (D := (dC, dI)) (ci := 3) (v := .ref q_o_points) (C := "PathTexts$Pen") (T := F_Pen) (N := 10) hx hb hts (fun w h => List.mem_cons_of_mem _ (in_Pen w h)) hown hK hP 0 rfl rfl 1 (by decide) (hts _ (List.mem_cons_of_mem _ kw_73)) (fun _ h9 => h9) fg_Pen_1 d_xPen_aim_137 ?_
    refine lv_iconst (pc := 140) (v := (1 : Int32)) hx hb d_xPen_aim_140 (by decide) ?_
    refine lv_aload_n (pc := 141) hx hb d_xPen_aim_141 rfl (lv_at hl 1 rfl) ?_
    refine va_get (pc := 142) (D := (dC, dI)) (ci := 3) (v := .long v_o_y) (C := "PathTexts$Pen") (T := F_Pen) (N := 10) hx hb hts (fun w h => List.mem_cons_of_mem _ (in_Pen w h)) hown hK hP 0 rfl rfl 4 (by decide) (hts _ (List.mem_cons_of_mem _ kw_76)) (fun _ h9 => h9) fg_Pen_4 d_xPen_aim_142 ?_
    refine kx_last (pc := 145) (ws' := [(q_o, .inr (3, f_Pen q_o_matrices q_o_points q_o_drawn v_o_x v_o_y v_o_startX v_o_startY v_o_controlX v_o_controlY (0 : Int32))), (q_o_points, .inl (k_o_points, 6, .inr (.inl (vp_updL c_o_points_3 ((1 : Int32)).toNatClampNeg v_o_y)))), (q_p3, .inl (k_p3, 6, .inr (.inl c_p3)))]) hx hb hK hP hD hS 1 0 rfl rfl (ki_in (by decide)) rfl d_xPen_aim_145 (fun H locs hP hD hS => ?_)
    refine lv_iconst (pc := 146) (v := (1 : Int32)) hx hb d_xPen_aim_146 (by decide) ?_
    obtain ⟨e_0, e_1, e_2, e_3, e_4, e_5, e_6⟩ := kr7 hf
    rw [e_0]
    exact hRet 147 _ _ _ d_xPen_aim_147 (by rw [← e_1, ← e_2, ← e_3, ← e_4, ← e_5, ← e_6]; exact hP) (by rw [← e_1, ← e_2, ← e_3, ← e_4, ← e_5, ← e_6]; exact hD) hS
  rw [if_neg hc72] at hf
  by_cases hc76 : x1 = (76 : Int32)
  · rw [if_pos hc76] at hf
    refine lv_tableIn (pc := 18) (tgt := 134) hx hb d_xPen_aim_18 (by rw [hc76]; decide) (by rw [hc76]; decide) (by rw [hc76]; rfl) (by decide) ?_
    refine lv_iconst (pc := 134) (v := (1 : Int32)) hx hb d_xPen_aim_134 (by decide) ?_
    obtain ⟨e_0, e_1, e_2, e_3, e_4, e_5, e_6⟩ := kr7 hf
    rw [e_0]
    exact hRet 135 _ _ _ d_xPen_aim_135 (by rw [← e_1, ← e_2, ← e_3, ← e_4, ← e_5, ← e_6]; exact hP) (by rw [← e_1, ← e_2, ← e_3, ← e_4, ← e_5, ← e_6]; exact hD) hS
  rw [if_neg hc76] at hf
  by_cases hc77 : x1 = (77 : Int32)
  · rw [if_pos hc77] at hf
    refine lv_tableIn (pc := 18) (tgt := 112) hx hb d_xPen_aim_18 (by rw [hc77]; decide) (by rw [hc77]; decide) (by rw [hc77]; rfl) (by decide) ?_
    refine lv_aload_n (pc := 112) hx hb d_xPen_aim_112 rfl (lv_at hl 1 rfl) ?_
    refine lv_aload_n (pc := 113) hx hb d_xPen_aim_113 rfl (lv_at hl 1 rfl) ?_
    refine va_get (pc := 114) (D := (dC, dI)) (ci := 3) (v := .ref q_o_points) (C := "PathTexts$Pen") (T := F_Pen) (N := 10) hx hb hts (fun w h => List.mem_cons_of_mem _ (in_Pen w h)) hown hK hP 0 rfl rfl 1 (by decide) (hts _ (List.mem_cons_of_mem _ kw_73)) (fun _ h9 => h9) fg_Pen_1 d_xPen_aim_114 ?_
    refine lv_iconst (pc := 117) (v := (0 : Int32)) hx hb d_xPen_aim_117 (by decide) ?_
    refine va_lald (pc := 118) hx hb hK hP 1 0 rfl rfl (ki_in (by decide)) d_xPen_aim_118 ?_
    refine kx_put (pc := 119) (D := (dC, dI)) (ci := 3) (v := .long (c_o_points_3 ((0 : Int32)).toNatClampNeg)) (ty := .long) (C := "PathTexts$Pen") (T := F_Pen) (N := 10) hx hb hts (fun w h => List.mem_cons_of_mem _ (in_Pen w h)) t_Pen tk_Pen n_Pen hown hK hP hD hS 0 rfl rfl 5 (by decide) (hts _ (List.mem_cons_of_mem _ kw_77)) (fun _ h9 => h9) rfl (tk_Pen 5 (by decide)) rfl rfl fl_Pen_5 fs_Pen_5 (ws' := [(q_o, .inr (3, f_Pen q_o_matrices q_o_points q_o_drawn v_o_x v_o_y (c_o_points_3 ((0 : Int32)).toNatClampNeg) v_o_startY v_o_controlX v_o_controlY (0 : Int32))), (q_o_points, .inl (k_o_points, 6, .inr (.inl c_o_points_3))), (q_p3, .inl (k_p3, 6, .inr (.inl c_p3)))]) rfl d_xPen_aim_119 (fun H locs hP hD hS => ?_)
    refine lv_aload_n (pc := 122) hx hb d_xPen_aim_122 rfl (lv_at hl 1 rfl) ?_
    refine lv_aload_n (pc := 123) hx hb d_xPen_aim_123 rfl (lv_at hl 1 rfl) ?_
    refine va_get (pc := 124) (D := (dC, dI)) (ci := 3) (v := .ref q_o_points) (C := "PathTexts$Pen") (T := F_Pen) (N := 10) hx hb hts (fun w h => List.mem_cons_of_mem _ (in_Pen w h)) hown hK hP 0 rfl rfl 1 (by decide) (hts _ (List.mem_cons_of_mem _ kw_73)) (fun _ h9 => h9) fg_Pen_1 d_xPen_aim_124 ?_
    refine lv_iconst (pc := 127) (v := (1 : Int32)) hx hb d_xPen_aim_127 (by decide) ?_
    refine va_lald (pc := 128) hx hb hK hP 1 0 rfl rfl (ki_in (by decide)) d_xPen_aim_128 ?_
    refine kx_put (pc := 129) (D := (dC, dI)) (ci := 3) (v := .long (c_o_points_3 ((1 : Int32)).toNatClampNeg)) (ty := .long) (C := "PathTexts$Pen") (T := F_Pen) (N := 10) hx hb hts (fun w h => List.mem_cons_of_mem _ (in_Pen w h)) t_Pen tk_Pen n_Pen hown hK hP hD hS 0 rfl rfl 6 (by decide) (hts _ (List.mem_cons_of_mem _ kw_78)) (fun _ h9 => h9) rfl (tk_Pen 6 (by decide)) rfl rfl fl_Pen_6 fs_Pen_6 (ws' := [(q_o, .inr (3, f_Pen q_o_matrices q_o_points q_o_drawn v_o_x v_o_y (c_o_points_3 ((0 : Int32)).toNatClampNeg) (c_o_points_3 ((1 : Int32)).toNatClampNeg) v_o_controlX v_o_controlY (0 : Int32))), (q_o_points, .inl (k_o_points, 6, .inr (.inl c_o_points_3))), (q_p3, .inl (k_p3, 6, .inr (.inl c_p3)))]) rfl d_xPen_aim_129 (fun H locs hP hD hS => ?_)
    refine lv_iconst (pc := 132) (v := (0 : Int32)) hx hb d_xPen_aim_132 (by decide) ?_
    obtain ⟨e_0, e_1, e_2, e_3, e_4, e_5, e_6⟩ := kr7 hf
    rw [e_0]
    exact hRet 133 _ _ _ d_xPen_aim_133 (by rw [← e_1, ← e_2, ← e_3, ← e_4, ← e_5, ← e_6]; exact hP) (by rw [← e_1, ← e_2, ← e_3, ← e_4, ← e_5, ← e_6]; exact hD) hS
  rw [if_neg hc77] at hf
  by_cases hc81 : x1 = (81 : Int32)
  · rw [if_pos hc81] at hf
    refine lv_tableIn (pc := 18) (tgt := 223) hx hb d_xPen_aim_18 (by rw [hc81]; decide) (by rw [hc81]; decide) (by rw [hc81]; rfl) (by decide) ?_
    refine lv_aload_n (pc := 223) hx hb d_xPen_aim_223 rfl (lv_at hl 1 rfl) ?_
    obtain ⟨v_o_controlX_224, v_o_controlY_224, v_o_controlFor_224, c_o_points_224, hz, hf⟩ := kb4_some hf
    have hPc := hP.sub (ws' := [(q_o, .inr (3, f_Pen q_o_matrices q_o_points q_o_drawn v_o_x v_o_y v_o_startX v_o_startY v_o_controlX v_o_controlY (0 : Int32))), (q_o_points, .inl (k_o_points, 6, .inr (.inl c_o_points_3)))]) [0, 1] rfl
    have hDc := hD.sub (ws' := [(q_o, .inr (3, f_Pen q_o_matrices q_o_points q_o_drawn v_o_x v_o_y v_o_startX v_o_startY v_o_controlX v_o_controlY (0 : Int32))), (q_o_points, .inl (k_o_points, 6, .inr (.inl c_o_points_3)))]) [0, 1] (by decide) rfl
    have hKc := hK.sub (tys' := [(k_o_points, .long)]) [0] rfl
    have hFc := va_free (wc := [(q_o, .inr (3, f_Pen q_o_matrices q_o_points q_o_drawn v_o_x v_o_y v_o_startX v_o_startY v_o_controlX v_o_controlY (0 : Int32))), (q_o_points, .inl (k_o_points, 6, .inr (.inl c_o_points_3)))]) hD hS hA [0, 1] rfl
    refine va_callv (pc := 224) (va_runV (As := []) (rest := []) ⟨hx, hb, hml, hown, hts⟩ (ct_xPen_aimByOneControl l dC dI q_o q_o_matrices q_o_points q_o_drawn k_o_points _ tt v_o_x v_o_y v_o_startX v_o_startY v_o_controlX v_o_controlY (0 : Int32) c_o_points_3 v_o_controlX_224 v_o_controlY_224 v_o_controlFor_224 c_o_points_224 hz) (cwV 0 hts (kw_in4 kw_322 kw_323 kw_324 kw_4 kw_325) rfl rfl rfl (by decide +kernel) ⟨Nat.le_of_ble_eq_true rfl, Nat.le_of_ble_eq_true rfl⟩) (ke_preV hPc hKc hDc hE hS hFc 0 rfl rfl) rfl rfl hl.1 rfl (lv_room (Nat.le_of_ble_eq_true rfl)) d_xPen_aim_224 ⟨Nat.le_of_ble_eq_true rfl, Nat.le_of_ble_eq_true rfl⟩) hS (fun q _ h => hFc q h) hFc (fun u t H1 locs ht hvm hw hB hz1 hk1 hS => ?_)
    obtain ⟨hP1, hK1, hD1⟩ := hB
    rw [ht] at hP1
    obtain ⟨hP, hD⟩ := va_join (wr := [(q_p3, .inl (k_p3, 6, .inr (.inl c_p3)))]) (w1 := [(q_o, .inr (3, f_Pen q_o_matrices q_o_points q_o_drawn v_o_x v_o_y v_o_startX v_o_startY v_o_controlX_224 v_o_controlY_224 v_o_controlFor_224)), (q_o_points, .inl (k_o_points, 6, .inr (.inl c_o_points_224)))]) hP hD [0, 1] [2] rfl rfl (by decide) (by decide) hk1 hFc hP1 hD1
    have hP := hP.sub (ws' := [(q_o, .inr (3, f_Pen q_o_matrices q_o_points q_o_drawn v_o_x v_o_y v_o_startX v_o_startY v_o_controlX_224 v_o_controlY_224 v_o_controlFor_224)), (q_o_points, .inl (k_o_points, 6, .inr (.inl c_o_points_224))), (q_p3, .inl (k_p3, 6, .inr (.inl c_p3)))]) [1, 2, 0] rfl
    have hD := hD.sub (ws' := [(q_o, .inr (3, f_Pen q_o_matrices q_o_points q_o_drawn v_o_x v_o_y v_o_startX v_o_startY v_o_controlX_224 v_o_controlY_224 v_o_controlFor_224)), (q_o_points, .inl (k_o_points, 6, .inr (.inl c_o_points_224))), (q_p3, .inl (k_p3, 6, .inr (.inl c_p3)))]) [1, 2, 0] (by decide) rfl
    clear hP1 hK1 hD1 hk1 hPc hDc hKc hFc hz1 hvm ht hz
    generalize H1 = H at hP hS ⊢
    refine lv_iconst (pc := 227) (v := (2 : Int32)) hx hb d_xPen_aim_227 (by decide) ?_
    obtain ⟨e_0, e_1, e_2, e_3, e_4, e_5, e_6⟩ := kr7 hf
    rw [e_0]
    exact hRet 228 _ _ _ d_xPen_aim_228 (by rw [← e_1, ← e_2, ← e_3, ← e_4, ← e_5, ← e_6]; exact hP) (by rw [← e_1, ← e_2, ← e_3, ← e_4, ← e_5, ← e_6]; exact hD) hS
  rw [if_neg hc81] at hf
  by_cases hc83 : x1 = (83 : Int32)
  · rw [if_pos hc83] at hf
    refine lv_tableIn (pc := 18) (tgt := 201) hx hb d_xPen_aim_18 (by rw [hc83]; decide) (by rw [hc83]; decide) (by rw [hc83]; rfl) (by decide) ?_
    refine lv_aload_n (pc := 201) hx hb d_xPen_aim_201 rfl (lv_at hl 1 rfl) ?_
    refine lv_iload (pc := 202) hx hb d_xPen_aim_202 (lv_at hl 0 rfl) ?_
    refine lv_bipush (pc := 204) (v := (67 : Int32)) hx hb d_xPen_aim_204 (by decide) ?_
    refine lv_icmp_ne (pc := 206) (tgt := 213) hx hb d_xPen_aim_206 (by decide) (fun hc => ?_) (fun hc => ?_)
    · rw [if_neg hc] at hf
      refine lv_iconst (pc := 213) (v := (0 : Int32)) hx hb d_xPen_aim_213 (by decide) ?_
      exact hb214 (0 : Int32) v_o_startX v_o_startY v_o_controlX v_o_controlY (0 : Int32) c_o_points_3 _ _ _ hf hP hD hS (lv_sub hl [1] rfl)
    · rw [if_pos hc] at hf
      refine lv_iconst (pc := 209) (v := (1 : Int32)) hx hb d_xPen_aim_209 (by decide) ?_
      refine lv_goto (pc := 210) (tgt := 214) hx hb d_xPen_aim_210 (by decide) ?_
      exact hb214 (1 : Int32) v_o_startX v_o_startY v_o_controlX v_o_controlY (0 : Int32) c_o_points_3 _ _ _ hf hP hD hS (lv_sub hl [1] rfl)
  rw [if_neg hc83] at hf
  by_cases hc84 : x1 = (84 : Int32)
  · rw [if_pos hc84] at hf
    refine lv_tableIn (pc := 18) (tgt := 229) hx hb d_xPen_aim_18 (by rw [hc84]; decide) (by rw [hc84]; decide) (by rw [hc84]; rfl) (by decide) ?_
    refine lv_aload_n (pc := 229) hx hb d_xPen_aim_229 rfl (lv_at hl 1 rfl) ?_
    refine lv_iload (pc := 230) hx hb d_xPen_aim_230 (lv_at hl 0 rfl) ?_
    refine lv_bipush (pc := 232) (v := (81 : Int32)) hx hb d_xPen_aim_232 (by decide) ?_
    refine lv_icmp_ne (pc := 234) (tgt := 241) hx hb d_xPen_aim_234 (by decide) (fun hc => ?_) (fun hc => ?_)
    · rw [if_neg hc] at hf
      refine lv_iconst (pc := 241) (v := (0 : Int32)) hx hb d_xPen_aim_241 (by decide) ?_
      exact hb242 (0 : Int32) v_o_startX v_o_startY v_o_controlX v_o_controlY (0 : Int32) c_o_points_3 _ _ _ hf hP hD hS (lv_sub hl [1] rfl)
    · rw [if_pos hc] at hf
      refine lv_iconst (pc := 237) (v := (1 : Int32)) hx hb d_xPen_aim_237 (by decide) ?_
      refine lv_goto (pc := 238) (tgt := 242) hx hb d_xPen_aim_238 (by decide) ?_
      exact hb242 (1 : Int32) v_o_startX v_o_startY v_o_controlX v_o_controlY (0 : Int32) c_o_points_3 _ _ _ hf hP hD hS (lv_sub hl [1] rfl)
  rw [if_neg hc84] at hf
  by_cases hc86 : x1 = (86 : Int32)
  · rw [if_pos hc86] at hf
    refine lv_tableIn (pc := 18) (tgt := 148) hx hb d_xPen_aim_18 (by rw [hc86]; decide) (by rw [hc86]; decide) (by rw [hc86]; rfl) (by decide) ?_
    refine lv_aload_n (pc := 148) hx hb d_xPen_aim_148 rfl (lv_at hl 1 rfl) ?_
    refine va_get (pc := 149) (D := (dC, dI)) (ci := 3) (v := .ref q_o_points) (C := "PathTexts$Pen") (T := F_Pen) (N := 10) hx hb hts (fun w h => List.mem_cons_of_mem _ (in_Pen w h)) hown hK hP 0 rfl rfl 1 (by decide) (hts _ (List.mem_cons_of_mem _ kw_73)) (fun _ h9 => h9) fg_Pen_1 d_xPen_aim_149 ?_
    refine lv_iconst (pc := 152) (v := (1 : Int32)) hx hb d_xPen_aim_152 (by decide) ?_
    refine lv_iload_n (pc := 153) hx hb d_xPen_aim_153 rfl (lv_at hl 3 rfl) ?_
    refine lv_if_eq (pc := 154) (tgt := 176) hx hb d_xPen_aim_154 (by decide) (fun hc => ?_) (fun hc => ?_)
    · rw [if_pos hc] at hf
      refine lv_aload_n (pc := 176) hx hb d_xPen_aim_176 rfl (lv_at hl 1 rfl) ?_
      refine va_get (pc := 177) (D := (dC, dI)) (ci := 3) (v := .ref q_o_points) (C := "PathTexts$Pen") (T := F_Pen) (N := 10) hx hb hts (fun w h => List.mem_cons_of_mem _ (in_Pen w h)) hown hK hP 0 rfl rfl 1 (by decide) (hts _ (List.mem_cons_of_mem _ kw_73)) (fun _ h9 => h9) fg_Pen_1 d_xPen_aim_177 ?_
      refine lv_iconst (pc := 180) (v := (0 : Int32)) hx hb d_xPen_aim_180 (by decide) ?_
      refine va_lald (pc := 181) hx hb hK hP 1 0 rfl rfl (ki_in (by decide)) d_xPen_aim_181 ?_
      exact hb182 (1 : Int32) (c_o_points_3 ((0 : Int32)).toNatClampNeg) v_o_startX v_o_startY v_o_controlX v_o_controlY (0 : Int32) c_o_points_3 _ _ _ hf hP hD hS (lv_sub hl [1] rfl)
    · rw [if_neg hc] at hf
      refine lv_aload_n (pc := 157) hx hb d_xPen_aim_157 rfl (lv_at hl 1 rfl) ?_
      refine va_get (pc := 158) (D := (dC, dI)) (ci := 3) (v := .ref q_o_points) (C := "PathTexts$Pen") (T := F_Pen) (N := 10) hx hb hts (fun w h => List.mem_cons_of_mem _ (in_Pen w h)) hown hK hP 0 rfl rfl 1 (by decide) (hts _ (List.mem_cons_of_mem _ kw_73)) (fun _ h9 => h9) fg_Pen_1 d_xPen_aim_158 ?_
      refine lv_iconst (pc := 161) (v := (0 : Int32)) hx hb d_xPen_aim_161 (by decide) ?_
      refine va_lald (pc := 162) hx hb hK hP 1 0 rfl rfl (ki_in (by decide)) d_xPen_aim_162 ?_
      refine lv_aload_n (pc := 163) hx hb d_xPen_aim_163 rfl (lv_at hl 1 rfl) ?_
      refine va_get (pc := 164) (D := (dC, dI)) (ci := 3) (v := .long v_o_x) (C := "PathTexts$Pen") (T := F_Pen) (N := 10) hx hb hts (fun w h => List.mem_cons_of_mem _ (in_Pen w h)) hown hK hP 0 rfl rfl 3 (by decide) (hts _ (List.mem_cons_of_mem _ kw_75)) (fun _ h9 => h9) fg_Pen_3 d_xPen_aim_164 ?_
      refine lv_lsub (pc := 167) hx hb d_xPen_aim_167 ?_
      refine lv_aload_n (pc := 168) hx hb d_xPen_aim_168 rfl (lv_at hl 1 rfl) ?_
      refine va_get (pc := 169) (D := (dC, dI)) (ci := 3) (v := .long v_o_y) (C := "PathTexts$Pen") (T := F_Pen) (N := 10) hx hb hts (fun w h => List.mem_cons_of_mem _ (in_Pen w h)) hown hK hP 0 rfl rfl 4 (by decide) (hts _ (List.mem_cons_of_mem _ kw_76)) (fun _ h9 => h9) fg_Pen_4 d_xPen_aim_169 ?_
      refine lv_ladd (pc := 172) hx hb d_xPen_aim_172 ?_
      refine lv_goto (pc := 173) (tgt := 182) hx hb d_xPen_aim_173 (by decide) ?_
      exact hb182 (1 : Int32) (((c_o_points_3 ((0 : Int32)).toNatClampNeg) - v_o_x) + v_o_y) v_o_startX v_o_startY v_o_controlX v_o_controlY (0 : Int32) c_o_points_3 _ _ _ hf hP hD hS (lv_sub hl [1] rfl)
  rw [if_neg hc86] at hf
  have hn67 := lv_neT hc67 (a := 67) (by decide)
  have hn72 := lv_neT hc72 (a := 72) (by decide)
  have hn76 := lv_neT hc76 (a := 76) (by decide)
  have hn77 := lv_neT hc77 (a := 77) (by decide)
  have hn81 := lv_neT hc81 (a := 81) (by decide)
  have hn83 := lv_neT hc83 (a := 83) (by decide)
  have hn84 := lv_neT hc84 (a := 84) (by decide)
  have hn86 := lv_neT hc86 (a := 86) (by decide)
  by_cases hr9 : x1.toInt < 67 ∨ 86 < x1.toInt
  · refine lv_tableOut (pc := 18) (tgt := 251) hx hb d_xPen_aim_18 hr9 (by decide) ?_
    refine lv_iconst (pc := 251) (v := (3 : Int32)) hx hb d_xPen_aim_251 (by decide) ?_
    obtain ⟨e_0, e_1, e_2, e_3, e_4, e_5, e_6⟩ := kr7 hf
    rw [e_0]
    exact hRet 252 _ _ _ d_xPen_aim_252 (by rw [← e_1, ← e_2, ← e_3, ← e_4, ← e_5, ← e_6]; exact hP) (by rw [← e_1, ← e_2, ← e_3, ← e_4, ← e_5, ← e_6]; exact hD) hS
  · obtain ⟨k9, hk9, hk8⟩ : ∃ k9 : Nat, k9 < 20 ∧ x1.toInt = 67 + (k9 : Int) := ⟨(x1.toInt - 67).toNat, by omega, by omega⟩
    have hk7 : k9 ≠ 0 ∧ k9 ≠ 5 ∧ k9 ≠ 9 ∧ k9 ≠ 10 ∧ k9 ≠ 14 ∧ k9 ≠ 16 ∧ k9 ≠ 17 ∧ k9 ≠ 19 := by omega
    have kq : ∀ k : Nat, k < 20 → (k ≠ 0 ∧ k ≠ 5 ∧ k ≠ 9 ∧ k ≠ 10 ∧ k ≠ 14 ∧ k ≠ 16 ∧ k ≠ 17 ∧ k ≠ 19) → (#[177, 233, 233, 233, 233, 118, 233, 233, 233, 116, 94, 233, 233, 233, 205, 233, 183, 211, 233, 130] : Array Int)[k]? = some 233 := by decide
    refine lv_tableIn (pc := 18) (off := 233) (tgt := 251) hx hb d_xPen_aim_18 (by omega) (by omega) (by rw [hk8, show (67 + (k9 : Int) - 67).toNat = k9 by omega]; exact kq k9 hk9 hk7) (by decide) ?_
    refine lv_iconst (pc := 251) (v := (3 : Int32)) hx hb d_xPen_aim_251 (by decide) ?_
    obtain ⟨e_0, e_1, e_2, e_3, e_4, e_5, e_6⟩ := kr7 hf
    rw [e_0]
    exact hRet 252 _ _ _ d_xPen_aim_252 (by rw [← e_1, ← e_2, ← e_3, ← e_4, ← e_5, ← e_6]; exact hP) (by rw [← e_1, ← e_2, ← e_3, ← e_4, ← e_5, ← e_6]; exact hD) hS
set_option maxHeartbeats 4000000 in
set_option maxRecDepth 100000 in
theorem ct_xReader_takeClosing (l : Launch) (dC : Nat → ClassId) (dI : Nat → Nat → Nat) (q_o : Nat) (q_o_text : Nat) (q_o_pen : Nat) (q_o_numbers : Nat) (q_o_pen_matrices : Nat) (q_o_pen_points : Nat) (q_o_pen_drawn : Nat) (q_o_pen_matrices_rows : Nat) (sz : Nat) (x1 : Int32) (v_o_at : Int32) (v_o_wrong : Int32) (v_o_moveIsDue : Int32) (v_o_pen_x : Int64) (v_o_pen_y : Int64) (v_o_pen_startX : Int64) (v_o_pen_startY : Int64) (v_o_pen_controlX : Int64) (v_o_pen_controlY : Int64) (v_o_pen_controlFor : Int32) (v_o_pen_matrices_depth : Int32) (rv : Int32) (v_o_wrong_z : Int32) (v_o_moveIsDue_z : Int32) (v_o_pen_x_z : Int64) (v_o_pen_y_z : Int64) (v_o_pen_controlFor_z : Int32) (v_o_pen_matrices_depth_z : Int32) (hf : xReader_takeClosing x1 v_o_wrong v_o_moveIsDue v_o_pen_x v_o_pen_y v_o_pen_controlFor v_o_pen_matrices_depth = some (rv, v_o_wrong_z, v_o_moveIsDue_z, v_o_pen_x_z, v_o_pen_y_z, v_o_pen_controlFor_z, v_o_pen_matrices_depth_z)) : Met l y_xReader_takeClosing w_xReader_takeClosing ({ frames := 2, cells := 0, slots := 0, locals := 40 }) (va_Pc [.ref q_o, .int x1] (fun U => U.heap.size = sz ∧ va_P (dC, dI) clz [(q_o, .inr (4, f_Reader q_o_text q_o_pen q_o_numbers v_o_at v_o_wrong v_o_moveIsDue)), (q_o_pen, .inr (3, f_Pen q_o_pen_matrices q_o_pen_points q_o_pen_drawn v_o_pen_x v_o_pen_y v_o_pen_startX v_o_pen_startY v_o_pen_controlX v_o_pen_controlY v_o_pen_controlFor)), (q_o_pen_matrices, .inr (2, f_Matrices q_o_pen_matrices_rows v_o_pen_matrices_depth))] U.heap ∧ va_K (dC, dI) clz [] U ∧ va_D (fun _ => True) [(q_o, .inr (4, f_Reader q_o_text q_o_pen q_o_numbers v_o_at v_o_wrong v_o_moveIsDue)), (q_o_pen, .inr (3, f_Pen q_o_pen_matrices q_o_pen_points q_o_pen_drawn v_o_pen_x v_o_pen_y v_o_pen_startX v_o_pen_startY v_o_pen_controlX v_o_pen_controlY v_o_pen_controlFor)), (q_o_pen_matrices, .inr (2, f_Matrices q_o_pen_matrices_rows v_o_pen_matrices_depth))])) (va_Qi (fun (r9 : Int32) (_ : Unit) => r9 = rv) (fun _ t => va_P (dC, dI) clz [(q_o, .inr (4, f_Reader q_o_text q_o_pen q_o_numbers v_o_at v_o_wrong_z v_o_moveIsDue_z)), (q_o_pen, .inr (3, f_Pen q_o_pen_matrices q_o_pen_points q_o_pen_drawn v_o_pen_x_z v_o_pen_y_z v_o_pen_startX v_o_pen_startY v_o_pen_controlX v_o_pen_controlY v_o_pen_controlFor_z)), (q_o_pen_matrices, .inr (2, f_Matrices q_o_pen_matrices_rows v_o_pen_matrices_depth_z))] t.heap ∧ va_K (dC, dI) clz [] t ∧ va_D (va_A [(q_o, .inr (4, f_Reader q_o_text q_o_pen q_o_numbers v_o_at v_o_wrong v_o_moveIsDue)), (q_o_pen, .inr (3, f_Pen q_o_pen_matrices q_o_pen_points q_o_pen_drawn v_o_pen_x v_o_pen_y v_o_pen_startX v_o_pen_startY v_o_pen_controlX v_o_pen_controlY v_o_pen_controlFor)), (q_o_pen_matrices, .inr (2, f_Matrices q_o_pen_matrices_rows v_o_pen_matrices_depth))] sz) [(q_o, .inr (4, f_Reader q_o_text q_o_pen q_o_numbers v_o_at v_o_wrong_z v_o_moveIsDue_z)), (q_o_pen, .inr (3, f_Pen q_o_pen_matrices q_o_pen_points q_o_pen_drawn v_o_pen_x_z v_o_pen_y_z v_o_pen_startX v_o_pen_startY v_o_pen_controlX v_o_pen_controlY v_o_pen_controlFor_z)), (q_o_pen_matrices, .inr (2, f_Matrices q_o_pen_matrices_rows v_o_pen_matrices_depth_z))]) (va_A [(q_o, .inr (4, f_Reader q_o_text q_o_pen q_o_numbers v_o_at v_o_wrong v_o_moveIsDue)), (q_o_pen, .inr (3, f_Pen q_o_pen_matrices q_o_pen_points q_o_pen_drawn v_o_pen_x v_o_pen_y v_o_pen_startX v_o_pen_startY v_o_pen_controlX v_o_pen_controlY v_o_pen_controlFor)), (q_o_pen_matrices, .inr (2, f_Matrices q_o_pen_matrices_rows v_o_pen_matrices_depth))] sz)) 0 0 (va_A [(q_o, .inr (4, f_Reader q_o_text q_o_pen q_o_numbers v_o_at v_o_wrong v_o_moveIsDue)), (q_o_pen, .inr (3, f_Pen q_o_pen_matrices q_o_pen_points q_o_pen_drawn v_o_pen_x v_o_pen_y v_o_pen_startX v_o_pen_startY v_o_pen_controlX v_o_pen_controlY v_o_pen_controlFor)), (q_o_pen_matrices, .inr (2, f_Matrices q_o_pen_matrices_rows v_o_pen_matrices_depth))] sz) := by
  refine Met.ofW (cc := prog_6_method_4_code) (maxL := 2) (ret := (some .boolean)) (by decide +kernel) rfl ?_
  intro p e s m args below meth c s₁ B hml hv
  obtain ⟨hargs, hsz, hP, hK, hD0⟩ := hv
  have hx := B.exec
  have hb := B.bytes
  have hr := B.returns
  have hts := atoms_spec (ws := w_xReader_takeClosing) B.pre
  have hown : s.vm.findClass "PathTexts$Reader" = some m.cls := findClass_of_methodNamed B.named
  have hlocks := B.notSynchronized
  subst hsz
  have hD := hD0.self (sz := s.heap.size)
  generalize hAe : va_A [(q_o, .inr (4, f_Reader q_o_text q_o_pen q_o_numbers v_o_at v_o_wrong v_o_moveIsDue)), (q_o_pen, .inr (3, f_Pen q_o_pen_matrices q_o_pen_points q_o_pen_drawn v_o_pen_x v_o_pen_y v_o_pen_startX v_o_pen_startY v_o_pen_controlX v_o_pen_controlY v_o_pen_controlFor)), (q_o_pen_matrices, .inr (2, f_Matrices q_o_pen_matrices_rows v_o_pen_matrices_depth))] s.heap.size = A at hD ⊢
  have hA : ∀ q : Nat, s.heap.size ≤ q → A q := fun q h => by rw [← hAe]; exact Or.inr h
  clear hAe hD0
  have hS : va_S A s.heap s.heap [] := va_S.rf
  have hl := lv_entry ([.ref q_o, .int x1]) (n := 2) (Nat.le_of_ble_eq_true rfl)
  have hent : entryFrame m args 2 = F0 m 0 (lg_sl ([.ref q_o, .int x1]) ++ List.replicate (2 - (lg_sl ([.ref q_o, .int x1])).length) Slot.unset).toArray [] := by rw [hargs, lg_entry_eq]
  rw [hent]
  clear hent hargs
  generalize (lg_sl ([.ref q_o, .int x1]) ++ List.replicate (2 - (lg_sl ([.ref q_o, .int x1])).length) Slot.unset).toArray = ls at hl ⊢
  have hl : lv_has ls 2 [(0, .ref q_o), (1, .int x1)] := hl
  suffices key : ∀ Q : State → Prop, (∀ (hn9 : narrow .boolean (.int rv) = .int rv) (pc : Nat) (H : Heap) (locs : List Loc) (ls : Array Slot), decode prog_6_method_4_code pc = .ok (.ireturn, 1) → va_P (dC, dI) clz [(q_o, .inr (4, f_Reader q_o_text q_o_pen q_o_numbers v_o_at v_o_wrong_z v_o_moveIsDue_z)), (q_o_pen, .inr (3, f_Pen q_o_pen_matrices q_o_pen_points q_o_pen_drawn v_o_pen_x_z v_o_pen_y_z v_o_pen_startX v_o_pen_startY v_o_pen_controlX v_o_pen_controlY v_o_pen_controlFor_z)), (q_o_pen_matrices, .inr (2, f_Matrices q_o_pen_matrices_rows v_o_pen_matrices_depth_z))] H → va_D A [(q_o, .inr (4, f_Reader q_o_text q_o_pen q_o_numbers v_o_at v_o_wrong_z v_o_moveIsDue_z)), (q_o_pen, .inr (3, f_Pen q_o_pen_matrices q_o_pen_points q_o_pen_drawn v_o_pen_x_z v_o_pen_y_z v_o_pen_startX v_o_pen_startY v_o_pen_controlX v_o_pen_controlY v_o_pen_controlFor_z)), (q_o_pen_matrices, .inr (2, f_Matrices q_o_pen_matrices_rows v_o_pen_matrices_depth_z))] → va_S A s.heap H locs → W p l e (headSpec w_xReader_takeClosing ({ frames := 2, cells := 0, slots := 0, locals := 40 })).room s m args below meth c H locs 0 0 Q (F0 m pc ls [.int rv])) → W p l e (headSpec w_xReader_takeClosing ({ frames := 2, cells := 0, slots := 0, locals := 40 })).room s m args below meth c s.heap [] 0 0 Q (F0 m 0 ls []) from key _ (fun hn9 pc H locs ls hd hP hD hS => W.zret hx hb hr hn9 (fun t ht hW => ⟨⟨rv, (), rfl, rfl, by rw [ht]; exact hP, va_K.moved hW.alike hK, hD⟩, hS.F ht⟩) hS.2.2 hd)
  intro Q hRet
  rw [xReader_takeClosing] at hf
  refine lv_aload_n (pc := 0) hx hb d_xReader_takeClosing_0 rfl (lv_at hl 0 rfl) ?_
  refine va_get (pc := 1) (D := (dC, dI)) (ci := 4) (v := .ref q_o_pen) (C := "PathTexts$Reader") (T := F_Reader) (N := 6) hx hb hts (fun w h => List.mem_cons_of_mem _ (in_Reader w h)) hown hK hP 0 rfl rfl 1 (by decide) (hts _ (List.mem_cons_of_mem _ kw_104)) (fun _ h9 => h9) fg_Reader_1 d_xReader_takeClosing_1 ?_
  refine va_get (pc := 4) (D := (dC, dI)) (ci := 3) (v := .ref q_o_pen_matrices) (C := "PathTexts$Pen") (T := F_Pen) (N := 10) hx hb hts (fun w h => List.mem_cons_of_mem _ (in_Pen w h)) hown hK hP 1 rfl rfl 0 (by decide) (hts _ (List.mem_cons_of_mem _ kw_72)) (fun _ h9 => h9) fg_Pen_0 d_xReader_takeClosing_4 ?_
  obtain ⟨r7, v_o_pen_matrices_depth_7, hz, hf⟩ := kb2_some hf
  have hPc := hP.sub (ws' := [(q_o_pen_matrices, .inr (2, f_Matrices q_o_pen_matrices_rows v_o_pen_matrices_depth))]) [2] rfl
  have hDc := hD.sub (ws' := [(q_o_pen_matrices, .inr (2, f_Matrices q_o_pen_matrices_rows v_o_pen_matrices_depth))]) [2] (by decide) rfl
  have hKc := hK.sub (tys' := []) [] rfl
  have hFc := va_free (wc := [(q_o_pen_matrices, .inr (2, f_Matrices q_o_pen_matrices_rows v_o_pen_matrices_depth))]) hD hS hA [2] rfl
  refine va_calli (pc := 7) (va_runV (As := []) (rest := []) ⟨hx, hb, hml, hown, hts⟩ (ct_xMatrices_shut l dC dI q_o_pen_matrices q_o_pen_matrices_rows _ v_o_pen_matrices_depth r7 v_o_pen_matrices_depth_7 hz) (cwV 0 hts (kw_in4 kw_294 kw_295 kw_296 kw_5 kw_297) rfl rfl rfl (by decide +kernel) ⟨Nat.le_of_ble_eq_true rfl, Nat.le_of_ble_eq_true rfl⟩) (kx_preV hPc hKc hDc 0 rfl rfl) rfl rfl hl.1 rfl (lv_room (Nat.le_of_ble_eq_true rfl)) d_xReader_takeClosing_7 ⟨Nat.le_of_ble_eq_true rfl, Nat.le_of_ble_eq_true rfl⟩) hS (fun q _ h => hFc q h) hFc (fun r9 u t H1 locs ht hvm hw hB hz1 hk1 hS => ?_)
  obtain ⟨hP1, hK1, hD1⟩ := hB
  rw [ht] at hP1
  have hw := hw.symm
  subst hw
  obtain ⟨hP, hD⟩ := va_join (wr := [(q_o, .inr (4, f_Reader q_o_text q_o_pen q_o_numbers v_o_at v_o_wrong v_o_moveIsDue)), (q_o_pen, .inr (3, f_Pen q_o_pen_matrices q_o_pen_points q_o_pen_drawn v_o_pen_x v_o_pen_y v_o_pen_startX v_o_pen_startY v_o_pen_controlX v_o_pen_controlY v_o_pen_controlFor))]) (w1 := [(q_o_pen_matrices, .inr (2, f_Matrices q_o_pen_matrices_rows v_o_pen_matrices_depth_7))]) hP hD [2] [0, 1] rfl rfl (by decide) (by decide) hk1 hFc hP1 hD1
  have hP := hP.sub (ws' := [(q_o, .inr (4, f_Reader q_o_text q_o_pen q_o_numbers v_o_at v_o_wrong v_o_moveIsDue)), (q_o_pen, .inr (3, f_Pen q_o_pen_matrices q_o_pen_points q_o_pen_drawn v_o_pen_x v_o_pen_y v_o_pen_startX v_o_pen_startY v_o_pen_controlX v_o_pen_controlY v_o_pen_controlFor)), (q_o_pen_matrices, .inr (2, f_Matrices q_o_pen_matrices_rows v_o_pen_matrices_depth_7))]) [0, 1, 2] rfl
  have hD := hD.sub (ws' := [(q_o, .inr (4, f_Reader q_o_text q_o_pen q_o_numbers v_o_at v_o_wrong v_o_moveIsDue)), (q_o_pen, .inr (3, f_Pen q_o_pen_matrices q_o_pen_points q_o_pen_drawn v_o_pen_x v_o_pen_y v_o_pen_startX v_o_pen_startY v_o_pen_controlX v_o_pen_controlY v_o_pen_controlFor)), (q_o_pen_matrices, .inr (2, f_Matrices q_o_pen_matrices_rows v_o_pen_matrices_depth_7))]) [0, 1, 2] (by decide) rfl
  clear hP1 hK1 hD1 hk1 hPc hDc hKc hFc hz1 hvm ht hz
  generalize H1 = H at hP hS ⊢
  refine lv_if_ne (pc := 10) (tgt := 19) hx hb d_xReader_takeClosing_10 (by decide) (fun hc => ?_) (fun hc => ?_)
  · rw [if_neg hc] at hf
    refine lv_aload_n (pc := 19) hx hb d_xReader_takeClosing_19 rfl (lv_at hl 0 rfl) ?_
    obtain ⟨v_o_moveIsDue_20, v_o_pen_x_20, v_o_pen_y_20, v_o_pen_controlFor_20, hz, hf⟩ := kb4_some hf
    have hPc := hP.sub (ws' := [(q_o, .inr (4, f_Reader q_o_text q_o_pen q_o_numbers v_o_at v_o_wrong v_o_moveIsDue)), (q_o_pen, .inr (3, f_Pen q_o_pen_matrices q_o_pen_points q_o_pen_drawn v_o_pen_x v_o_pen_y v_o_pen_startX v_o_pen_startY v_o_pen_controlX v_o_pen_controlY v_o_pen_controlFor))]) [0, 1] rfl
    have hDc := hD.sub (ws' := [(q_o, .inr (4, f_Reader q_o_text q_o_pen q_o_numbers v_o_at v_o_wrong v_o_moveIsDue)), (q_o_pen, .inr (3, f_Pen q_o_pen_matrices q_o_pen_points q_o_pen_drawn v_o_pen_x v_o_pen_y v_o_pen_startX v_o_pen_startY v_o_pen_controlX v_o_pen_controlY v_o_pen_controlFor))]) [0, 1] (by decide) rfl
    have hKc := hK.sub (tys' := []) [] rfl
    have hFc := va_free (wc := [(q_o, .inr (4, f_Reader q_o_text q_o_pen q_o_numbers v_o_at v_o_wrong v_o_moveIsDue)), (q_o_pen, .inr (3, f_Pen q_o_pen_matrices q_o_pen_points q_o_pen_drawn v_o_pen_x v_o_pen_y v_o_pen_startX v_o_pen_startY v_o_pen_controlX v_o_pen_controlY v_o_pen_controlFor))]) hD hS hA [0, 1] rfl
    refine va_callv (pc := 20) (va_runV (As := []) (rest := []) ⟨hx, hb, hml, hown, hts⟩ (ct_xReader_passBracket l dC dI q_o q_o_text q_o_pen q_o_numbers q_o_pen_matrices q_o_pen_points q_o_pen_drawn _ v_o_at v_o_wrong v_o_moveIsDue v_o_pen_x v_o_pen_y v_o_pen_startX v_o_pen_startY v_o_pen_controlX v_o_pen_controlY v_o_pen_controlFor v_o_moveIsDue_20 v_o_pen_x_20 v_o_pen_y_20 v_o_pen_controlFor_20 hz) (cwV 0 hts (kw_in4 kw_286 kw_287 kw_288 kw_3 kw_289) rfl rfl rfl (by decide +kernel) ⟨Nat.le_of_ble_eq_true rfl, Nat.le_of_ble_eq_true rfl⟩) (kx_preV hPc hKc hDc 0 rfl rfl) rfl rfl hl.1 rfl (lv_room (Nat.le_of_ble_eq_true rfl)) d_xReader_takeClosing_20 ⟨Nat.le_of_ble_eq_true rfl, Nat.le_of_ble_eq_true rfl⟩) hS (fun q _ h => hFc q h) hFc (fun u t H1 locs ht hvm hw hB hz1 hk1 hS => ?_)
    obtain ⟨hP1, hK1, hD1⟩ := hB
    rw [ht] at hP1
    obtain ⟨hP, hD⟩ := va_join (wr := [(q_o_pen_matrices, .inr (2, f_Matrices q_o_pen_matrices_rows v_o_pen_matrices_depth_7))]) (w1 := [(q_o, .inr (4, f_Reader q_o_text q_o_pen q_o_numbers v_o_at v_o_wrong v_o_moveIsDue_20)), (q_o_pen, .inr (3, f_Pen q_o_pen_matrices q_o_pen_points q_o_pen_drawn v_o_pen_x_20 v_o_pen_y_20 v_o_pen_startX v_o_pen_startY v_o_pen_controlX v_o_pen_controlY v_o_pen_controlFor_20))]) hP hD [0, 1] [2] rfl rfl (by decide) (by decide) hk1 hFc hP1 hD1
    have hP := hP.sub (ws' := [(q_o, .inr (4, f_Reader q_o_text q_o_pen q_o_numbers v_o_at v_o_wrong v_o_moveIsDue_20)), (q_o_pen, .inr (3, f_Pen q_o_pen_matrices q_o_pen_points q_o_pen_drawn v_o_pen_x_20 v_o_pen_y_20 v_o_pen_startX v_o_pen_startY v_o_pen_controlX v_o_pen_controlY v_o_pen_controlFor_20)), (q_o_pen_matrices, .inr (2, f_Matrices q_o_pen_matrices_rows v_o_pen_matrices_depth_7))]) [1, 2, 0] rfl
    have hD := hD.sub (ws' := [(q_o, .inr (4, f_Reader q_o_text q_o_pen q_o_numbers v_o_at v_o_wrong v_o_moveIsDue_20)), (q_o_pen, .inr (3, f_Pen q_o_pen_matrices q_o_pen_points q_o_pen_drawn v_o_pen_x_20 v_o_pen_y_20 v_o_pen_startX v_o_pen_startY v_o_pen_controlX v_o_pen_controlY v_o_pen_controlFor_20)), (q_o_pen_matrices, .inr (2, f_Matrices q_o_pen_matrices_rows v_o_pen_matrices_depth_7))]) [1, 2, 0] (by decide) rfl
    clear hP1 hK1 hD1 hk1 hPc hDc hKc hFc hz1 hvm ht hz
    generalize H1 = H at hP hS ⊢
    refine lv_iconst (pc := 23) (v := (1 : Int32)) hx hb d_xReader_takeClosing_23 (by decide) ?_
    obtain ⟨e_0, e_1, e_2, e_3, e_4, e_5, e_6⟩ := kr7 hf
    rw [e_0]
    exact hRet (by rw [← e_0]; exact (by decide)) 24 _ _ _ d_xReader_takeClosing_24 (by rw [← e_1, ← e_2, ← e_3, ← e_4, ← e_5, ← e_6]; exact hP) (by rw [← e_1, ← e_2, ← e_3, ← e_4, ← e_5, ← e_6]; exact hD) hS
  · rw [if_pos hc] at hf
    refine lv_aload_n (pc := 13) hx hb d_xReader_takeClosing_13 rfl (lv_at hl 0 rfl) ?_
    refine lv_iload_n (pc := 14) hx hb d_xReader_takeClosing_14 rfl (lv_at hl 1 rfl) ?_
    obtain ⟨r15, v_o_wrong_15, hz, hf⟩ := kb2_some hf
    have hPc := hP.sub (ws' := [(q_o, .inr (4, f_Reader q_o_text q_o_pen q_o_numbers v_o_at v_o_wrong v_o_moveIsDue))]) [0] rfl
    have hDc := hD.sub (ws' := [(q_o, .inr (4, f_Reader q_o_text q_o_pen q_o_numbers v_o_at v_o_wrong v_o_moveIsDue))]) [0] (by decide) rfl
    have hKc := hK.sub (tys' := []) [] rfl
    have hFc := va_free (wc := [(q_o, .inr (4, f_Reader q_o_text q_o_pen q_o_numbers v_o_at v_o_wrong v_o_moveIsDue))]) hD hS hA [0] rfl
    refine va_calli (pc := 15) (va_runV (As := [.int x1]) (rest := []) ⟨hx, hb, hml, hown, hts⟩ (ct_xReader_seeWrong l dC dI q_o q_o_text q_o_pen q_o_numbers _ x1 v_o_at v_o_wrong v_o_moveIsDue r15 v_o_wrong_15 hz) (cwV 1 hts (kw_in4 kw_244 kw_245 kw_246 kw_3 kw_247) rfl rfl rfl (by decide +kernel) ⟨Nat.le_of_ble_eq_true rfl, Nat.le_of_ble_eq_true rfl⟩) (kx_preV hPc hKc hDc 0 rfl rfl) rfl rfl hl.1 rfl (lv_room (Nat.le_of_ble_eq_true rfl)) d_xReader_takeClosing_15 ⟨Nat.le_of_ble_eq_true rfl, Nat.le_of_ble_eq_true rfl⟩) hS (fun q _ h => hFc q h) hFc (fun r9 u t H1 locs ht hvm hw hB hz1 hk1 hS => ?_)
    obtain ⟨hP1, hK1, hD1⟩ := hB
    rw [ht] at hP1
    have hw := hw.symm
    subst hw
    obtain ⟨hP, hD⟩ := va_join (wr := [(q_o_pen, .inr (3, f_Pen q_o_pen_matrices q_o_pen_points q_o_pen_drawn v_o_pen_x v_o_pen_y v_o_pen_startX v_o_pen_startY v_o_pen_controlX v_o_pen_controlY v_o_pen_controlFor)), (q_o_pen_matrices, .inr (2, f_Matrices q_o_pen_matrices_rows v_o_pen_matrices_depth_7))]) (w1 := [(q_o, .inr (4, f_Reader q_o_text q_o_pen q_o_numbers v_o_at v_o_wrong_15 v_o_moveIsDue))]) hP hD [0] [1, 2] rfl rfl (by decide) (by decide) hk1 hFc hP1 hD1
    have hP := hP.sub (ws' := [(q_o, .inr (4, f_Reader q_o_text q_o_pen q_o_numbers v_o_at v_o_wrong_15 v_o_moveIsDue)), (q_o_pen, .inr (3, f_Pen q_o_pen_matrices q_o_pen_points q_o_pen_drawn v_o_pen_x v_o_pen_y v_o_pen_startX v_o_pen_startY v_o_pen_controlX v_o_pen_controlY v_o_pen_controlFor)), (q_o_pen_matrices, .inr (2, f_Matrices q_o_pen_matrices_rows v_o_pen_matrices_depth_7))]) [2, 0, 1] rfl
    have hD := hD.sub (ws' := [(q_o, .inr (4, f_Reader q_o_text q_o_pen q_o_numbers v_o_at v_o_wrong_15 v_o_moveIsDue)), (q_o_pen, .inr (3, f_Pen q_o_pen_matrices q_o_pen_points q_o_pen_drawn v_o_pen_x v_o_pen_y v_o_pen_startX v_o_pen_startY v_o_pen_controlX v_o_pen_controlY v_o_pen_controlFor)), (q_o_pen_matrices, .inr (2, f_Matrices q_o_pen_matrices_rows v_o_pen_matrices_depth_7))]) [2, 0, 1] (by decide) rfl
    clear hP1 hK1 hD1 hk1 hPc hDc hKc hFc hz1 hvm ht hz
    generalize H1 = H at hP hS ⊢
    obtain ⟨hg1, hf⟩ := kg_some hf
    obtain ⟨e_0, e_1, e_2, e_3, e_4, e_5, e_6⟩ := kr7 hf
    rw [e_0]
    exact hRet (by rw [← e_0]; exact kz_n hg1) 18 _ _ _ d_xReader_takeClosing_18 (by rw [← e_1, ← e_2, ← e_3, ← e_4, ← e_5, ← e_6]; exact hP) (by rw [← e_1, ← e_2, ← e_3, ← e_4, ← e_5, ← e_6]; exact hD) hS
set_option maxHeartbeats 4000000 in
set_option maxRecDepth 100000 in
theorem ct_xReader_takeNumeral (l : Launch) (dC : Nat → ClassId) (dI : Nat → Nat → Nat) (q_o : Nat) (q_o_text : Nat) (q_o_pen : Nat) (q_o_numbers : Nat) (q_o_text_characters : Nat) (k_o_text_characters : ClassId) (k_o_numbers : ClassId) (sz : Nat) (tt : Nat) (N : Nat) (x1 : Int32) (v_o_at : Int32) (v_o_wrong : Int32) (v_o_moveIsDue : Int32) (v_o_text_length : Int32) (c_o_text_characters : (Nat → Int32)) (c_o_numbers : (Nat → Int64)) (rv : Int32) (v_o_at_z : Int32) (c_o_numbers_z : (Nat → Int64)) (hf : xReader_takeNumeral N x1 v_o_at v_o_text_length c_o_text_characters c_o_numbers = some (rv, v_o_at_z, c_o_numbers_z)) : Met l y_xReader_takeNumeral w_xReader_takeNumeral ({ frames := 2, cells := 0, slots := 0, locals := 48 }) (va_Pc [.ref q_o, .int x1] (fun U => U.heap.size = sz ∧ va_P (dC, dI) clz [(q_o, .inr (4, f_Reader q_o_text q_o_pen q_o_numbers v_o_at v_o_wrong v_o_moveIsDue)), (q_o_text, .inr (5, f_Row q_o_text_characters v_o_text_length)), (q_o_text_characters, .inl (k_o_text_characters, 1200, .inl c_o_text_characters)), (q_o_numbers, .inl (k_o_numbers, 6, .inr (.inl c_o_numbers)))] U.heap ∧ va_K (dC, dI) clz [(k_o_text_characters, .char), (k_o_numbers, .long)] U ∧ va_D (fun _ => True) [(q_o, .inr (4, f_Reader q_o_text q_o_pen q_o_numbers v_o_at v_o_wrong v_o_moveIsDue)), (q_o_text, .inr (5, f_Row q_o_text_characters v_o_text_length)), (q_o_text_characters, .inl (k_o_text_characters, 1200, .inl c_o_text_characters)), (q_o_numbers, .inl (k_o_numbers, 6, .inr (.inl c_o_numbers)))] ∧ ke tt (va_A [(q_o, .inr (4, f_Reader q_o_text q_o_pen q_o_numbers v_o_at v_o_wrong v_o_moveIsDue)), (q_o_text, .inr (5, f_Row q_o_text_characters v_o_text_length)), (q_o_text_characters, .inl (k_o_text_characters, 1200, .inl c_o_text_characters)), (q_o_numbers, .inl (k_o_numbers, 6, .inr (.inl c_o_numbers)))] sz) U)) (va_Qi (fun (r9 : Int32) (_ : Unit) => r9 = rv) (fun _ t => va_P (dC, dI) clz [(q_o, .inr (4, f_Reader q_o_text q_o_pen q_o_numbers v_o_at_z v_o_wrong v_o_moveIsDue)), (q_o_text, .inr (5, f_Row q_o_text_characters v_o_text_length)), (q_o_text_characters, .inl (k_o_text_characters, 1200, .inl c_o_text_characters)), (q_o_numbers, .inl (k_o_numbers, 6, .inr (.inl c_o_numbers_z)))] t.heap ∧ va_K (dC, dI) clz [(k_o_text_characters, .char), (k_o_numbers, .long)] t ∧ va_D (va_A [(q_o, .inr (4, f_Reader q_o_text q_o_pen q_o_numbers v_o_at v_o_wrong v_o_moveIsDue)), (q_o_text, .inr (5, f_Row q_o_text_characters v_o_text_length)), (q_o_text_characters, .inl (k_o_text_characters, 1200, .inl c_o_text_characters)), (q_o_numbers, .inl (k_o_numbers, 6, .inr (.inl c_o_numbers)))] sz) [(q_o, .inr (4, f_Reader q_o_text q_o_pen q_o_numbers v_o_at_z v_o_wrong v_o_moveIsDue)), (q_o_text, .inr (5, f_Row q_o_text_characters v_o_text_length)), (q_o_text_characters, .inl (k_o_text_characters, 1200, .inl c_o_text_characters)), (q_o_numbers, .inl (k_o_numbers, 6, .inr (.inl c_o_numbers_z)))]) (va_A [(q_o, .inr (4, f_Reader q_o_text q_o_pen q_o_numbers v_o_at v_o_wrong v_o_moveIsDue)), (q_o_text, .inr (5, f_Row q_o_text_characters v_o_text_length)), (q_o_text_characters, .inl (k_o_text_characters, 1200, .inl c_o_text_characters)), (q_o_numbers, .inl (k_o_numbers, 6, .inr (.inl c_o_numbers)))] sz)) 0 0 (va_A [(q_o, .inr (4, f_Reader q_o_text q_o_pen q_o_numbers v_o_at v_o_wrong v_o_moveIsDue)), (q_o_text, .inr (5, f_Row q_o_text_characters v_o_text_length)), (q_o_text_characters, .inl (k_o_text_characters, 1200, .inl c_o_text_characters)), (q_o_numbers, .inl (k_o_numbers, 6, .inr (.inl c_o_numbers)))] sz) := by
  refine Met.ofW (cc := prog_6_method_9_code) (maxL := 11) (ret := (some .boolean)) (by decide +kernel) rfl ?_
  intro p e s m args below meth c s₁ B hml hv
  obtain ⟨hargs, hsz, hP, hK, hD0, hE⟩ := hv
  have hx := B.exec
  have hb := B.bytes
  have hr := B.returns
  have hts := atoms_spec (ws := w_xReader_takeNumeral) B.pre
  have hown : s.vm.findClass "PathTexts$Reader" = some m.cls := findClass_of_methodNamed B.named
  have hlocks := B.notSynchronized
  subst hsz
  have hD := hD0.self (sz := s.heap.size)
  generalize hAe : va_A [(q_o, .inr (4, f_Reader q_o_text q_o_pen q_o_numbers v_o_at v_o_wrong v_o_moveIsDue)), (q_o_text, .inr (5, f_Row q_o_text_characters v_o_text_length)), (q_o_text_characters, .inl (k_o_text_characters, 1200, .inl c_o_text_characters)), (q_o_numbers, .inl (k_o_numbers, 6, .inr (.inl c_o_numbers)))] s.heap.size = A at hD hE ⊢
  have hA : ∀ q : Nat, s.heap.size ≤ q → A q := fun q h => by rw [← hAe]; exact Or.inr h
  clear hAe hD0
  have hS : va_S A s.heap s.heap [] := va_S.rf
  have hl := lv_entry ([.ref q_o, .int x1]) (n := 11) (Nat.le_of_ble_eq_true rfl)
  have hent : entryFrame m args 11 = F0 m 0 (lg_sl ([.ref q_o, .int x1]) ++ List.replicate (11 - (lg_sl ([.ref q_o, .int x1])).length) Slot.unset).toArray [] := by rw [hargs, lg_entry_eq]
  rw [hent]
  clear hent hargs
  generalize (lg_sl ([.ref q_o, .int x1]) ++ List.replicate (11 - (lg_sl ([.ref q_o, .int x1])).length) Slot.unset).toArray = ls at hl ⊢
  have hl : lv_has ls 11 [(0, .ref q_o), (1, .int x1)] := hl
  suffices key : ∀ Q : State → Prop, (∀ (hn9 : narrow .boolean (.int rv) = .int rv) (pc : Nat) (H : Heap) (locs : List Loc) (ls : Array Slot), decode prog_6_method_9_code pc = .ok (.ireturn, 1) → va_P (dC, dI) clz [(q_o, .inr (4, f_Reader q_o_text q_o_pen q_o_numbers v_o_at_z v_o_wrong v_o_moveIsDue)), (q_o_text, .inr (5, f_Row q_o_text_characters v_o_text_length)), (q_o_text_characters, .inl (k_o_text_characters, 1200, .inl c_o_text_characters)), (q_o_numbers, .inl (k_o_numbers, 6, .inr (.inl c_o_numbers_z)))] H → va_D A [(q_o, .inr (4, f_Reader q_o_text q_o_pen q_o_numbers v_o_at_z v_o_wrong v_o_moveIsDue)), (q_o_text, .inr (5, f_Row q_o_text_characters v_o_text_length)), (q_o_text_characters, .inl (k_o_text_characters, 1200, .inl c_o_text_characters)), (q_o_numbers, .inl (k_o_numbers, 6, .inr (.inl c_o_numbers_z)))] → va_S A s.heap H locs → W p l e (headSpec w_xReader_takeNumeral ({ frames := 2, cells := 0, slots := 0, locals := 48 })).room s m args below meth c H locs 0 0 Q (F0 m pc ls [.int rv])) → W p l e (headSpec w_xReader_takeNumeral ({ frames := 2, cells := 0, slots := 0, locals := 48 })).room s m args below meth c s.heap [] 0 0 Q (F0 m 0 ls []) from key _ (fun hn9 pc H locs ls hd hP hD hS => W.zret hx hb hr hn9 (fun t ht hW => ⟨⟨rv, (), rfl, rfl, by rw [ht]; exact hP, va_K.moved hW.alike hK, hD⟩, hS.F ht⟩) hS.2.2 hd)
  intro Q hRet
  have hb205 : ∀ (x1 : Int32) (x3 : Int32) (x7 : Int32) (s0 : Int64) (v_o_at : Int32) (c_o_numbers : (Nat → Int64)) (H : Heap) (locs : List Loc) (ls : Array Slot), xReader_takeNumeral_b205 N x1 x3 x7 s0 v_o_at c_o_numbers = some (rv, v_o_at_z, c_o_numbers_z) → va_P (dC, dI) clz [(q_o, .inr (4, f_Reader q_o_text q_o_pen q_o_numbers v_o_at v_o_wrong v_o_moveIsDue)), (q_o_text, .inr (5, f_Row q_o_text_characters v_o_text_length)), (q_o_text_characters, .inl (k_o_text_characters, 1200, .inl c_o_text_characters)), (q_o_numbers, .inl (k_o_numbers, 6, .inr (.inl c_o_numbers)))] H → va_D A [(q_o, .inr (4, f_Reader q_o_text q_o_pen q_o_numbers v_o_at v_o_wrong v_o_moveIsDue)), (q_o_text, .inr (5, f_Row q_o_text_characters v_o_text_length)), (q_o_text_characters, .inl (k_o_text_characters, 1200, .inl c_o_text_characters)), (q_o_numbers, .inl (k_o_numbers, 6, .inr (.inl c_o_numbers)))] → va_S A s.heap H locs → lv_has ls 11 [(0, .ref q_o), (1, .int x1), (3, .int x3), (7, .int x7)] → W p l e (headSpec w_xReader_takeNumeral ({ frames := 2, cells := 0, slots := 0, locals := 48 })).room s m args below meth c H locs 0 0 Q (F0 m 205 ls [.long s0]) := by
    intro x1 x3 x7 s0 v_o_at c_o_numbers H locs ls hf hP hD hS hl
    rw [xReader_takeNumeral_b205] at hf
    refine lv_ldc2 (pc := 205) hx hb hown (hts _ (List.mem_cons_of_mem _ kw_262)) d_xReader_takeNumeral_205 ?_
    refine lv_lmul (pc := 208) hx hb d_xReader_takeNumeral_208 ?_
    refine va_getsN (pc := 209) hx hb hE.2.1 hS hown (va_Nw.use rfl (hE.1 _ kn_4)) (fun _ h9 => h9) d_xReader_takeNumeral_209 ?_
    refine lv_iload (pc := 212) hx hb d_xReader_takeNumeral_212 (lv_at hl 3 rfl) ?_
    obtain ⟨hg1, hf⟩ := kg_some hf
    refine va_tl (pc := 214) hx hb hE.2.2.1 hS (ki_in hg1) rfl d_xReader_takeNumeral_214 ?_
    obtain ⟨r215, hz, hf⟩ := kb1_some hf
    have hPc := hP.sub (ws' := []) [] rfl
    have hDc := hD.sub (ws' := []) [] (by decide) rfl
    have hKc := hK.sub (tys' := []) [] rfl
    have hFc := va_free (wc := []) hD hS hA [] rfl
    refine va_calll (pc := 215) (va_runSN (As := [.long (s0 * (256 : Int64)), .long (k_tens (x7).toNatClampNeg)]) (rest := []) ⟨hx, hb, hml, hown, hts⟩ (ct_xP_nearest l dC dI _ (s0 * (256 : Int64)) (k_tens (x7).toNatClampNeg) r215 hz) ⟨va_cnB 2 hts (kw_in kw_265) rfl rfl rfl (hE.1 _ kn_5) (hts _ (List.mem_cons_of_mem _ kw_1)) (by decide +kernel) ⟨Nat.le_of_ble_eq_true rfl, Nat.le_of_ble_eq_true rfl⟩, hts _ (List.mem_cons_of_mem _ kw_264), trivial⟩ (kx_pre hPc hKc hDc) rfl rfl hl.1 rfl (lv_room (Nat.le_of_ble_eq_true rfl)) d_xReader_takeNumeral_215 ⟨Nat.le_of_ble_eq_true rfl, Nat.le_of_ble_eq_true rfl⟩) hS (fun q _ h => hFc q h) hFc (fun r9 u t H1 locs ht hvm hw hB hz1 hk1 hS => ?_)
    obtain ⟨hP1, hK1, hD1⟩ := hB
    rw [ht] at hP1
    have hw := hw.symm
    subst hw
    obtain ⟨hP, hD⟩ := va_join (wr := [(q_o, .inr (4, f_Reader q_o_text q_o_pen q_o_numbers v_o_at v_o_wrong v_o_moveIsDue)), (q_o_text, .inr (5, f_Row q_o_text_characters v_o_text_length)), (q_o_text_characters, .inl (k_o_text_characters, 1200, .inl c_o_text_characters)), (q_o_numbers, .inl (k_o_numbers, 6, .inr (.inl c_o_numbers)))]) (w1 := []) hP hD [] [0, 1, 2, 3] rfl rfl (by decide) (by decide) hk1 hFc hP1 hD1
    have hP := hP.sub (ws' := [(q_o, .inr (4, f_Reader q_o_text q_o_pen q_o_numbers v_o_at v_o_wrong v_o_moveIsDue)), (q_o_text, .inr (5, f_Row q_o_text_characters v_o_text_length)), (q_o_text_characters, .inl (k_o_text_characters, 1200, .inl c_o_text_characters)), (q_o_numbers, .inl (k_o_numbers, 6, .inr (.inl c_o_numbers)))]) [0, 1, 2, 3] rfl
    have hD := hD.sub (ws' := [(q_o, .inr (4, f_Reader q_o_text q_o_pen q_o_numbers v_o_at v_o_wrong v_o_moveIsDue)), (q_o_text, .inr (5, f_Row q_o_text_characters v_o_text_length)), (q_o_text_characters, .inl (k_o_text_characters, 1200, .inl c_o_text_characters)), (q_o_numbers, .inl (k_o_numbers, 6, .inr (.inl c_o_numbers)))]) [0, 1, 2, 3] (by decide) rfl
    clear hP1 hK1 hD1 hk1 hPc hDc hKc hFc hz1 hvm ht hz
    generalize H1 = H at hP hS ⊢
    refine lv_lstore (pc := 218) (lv' := [(9, .long r215), (0, .ref q_o), (1, .int x1), (3, .int x3), (7, .int x7)]) hx hb d_xReader_takeNumeral_218 hl (by decide) rfl (fun ls hl => ?_)
    refine lv_lload (pc := 220) hx hb d_xReader_takeNumeral_220 (lv_at hl 0 rfl) ?_
    obtain ⟨r222, hz, hf⟩ := kb1_some hf
    have hPc := hP.sub (ws' := []) [] rfl
    have hDc := hD.sub (ws' := []) [] (by decide) rfl
    have hKc := hK.sub (tys' := []) [] rfl
    have hFc := va_free (wc := []) hD hS hA [] rfl
    refine va_calli (pc := 222) (va_runSN (As := [.long r215]) (rest := []) ⟨hx, hb, hml, hown, hts⟩ (ct_xP_isNumber l dC dI _ r215 r222 hz) ⟨va_cnB 1 hts (kw_in kw_272) rfl rfl rfl (hE.1 _ kn_6) (hts _ (List.mem_cons_of_mem _ kw_1)) (by decide +kernel) ⟨Nat.le_of_ble_eq_true rfl, Nat.le_of_ble_eq_true rfl⟩, hts _ (List.mem_cons_of_mem _ kw_271), trivial⟩ (kx_pre hPc hKc hDc) rfl rfl hl.1 rfl (lv_room (Nat.le_of_ble_eq_true rfl)) d_xReader_takeNumeral_222 ⟨Nat.le_of_ble_eq_true rfl, Nat.le_of_ble_eq_true rfl⟩) hS (fun q _ h => hFc q h) hFc (fun r9 u t H1 locs ht hvm hw hB hz1 hk1 hS => ?_)
    obtain ⟨hP1, hK1, hD1⟩ := hB
    rw [ht] at hP1
    have hw := hw.symm
    subst hw
    obtain ⟨hP, hD⟩ := va_join (wr := [(q_o, .inr (4, f_Reader q_o_text q_o_pen q_o_numbers v_o_at v_o_wrong v_o_moveIsDue)), (q_o_text, .inr (5, f_Row q_o_text_characters v_o_text_length)), (q_o_text_characters, .inl (k_o_text_characters, 1200, .inl c_o_text_characters)), (q_o_numbers, .inl (k_o_numbers, 6, .inr (.inl c_o_numbers)))]) (w1 := []) hP hD [] [0, 1, 2, 3] rfl rfl (by decide) (by decide) hk1 hFc hP1 hD1
    have hP := hP.sub (ws' := [(q_o, .inr (4, f_Reader q_o_text q_o_pen q_o_numbers v_o_at v_o_wrong v_o_moveIsDue)), (q_o_text, .inr (5, f_Row q_o_text_characters v_o_text_length)), (q_o_text_characters, .inl (k_o_text_characters, 1200, .inl c_o_text_characters)), (q_o_numbers, .inl (k_o_numbers, 6, .inr (.inl c_o_numbers)))]) [0, 1, 2, 3] rfl
    have hD := hD.sub (ws' := [(q_o, .inr (4, f_Reader q_o_text q_o_pen q_o_numbers v_o_at v_o_wrong v_o_moveIsDue)), (q_o_text, .inr (5, f_Row q_o_text_characters v_o_text_length)), (q_o_text_characters, .inl (k_o_text_characters, 1200, .inl c_o_text_characters)), (q_o_numbers, .inl (k_o_numbers, 6, .inr (.inl c_o_numbers)))]) [0, 1, 2, 3] (by decide) rfl
    clear hP1 hK1 hD1 hk1 hPc hDc hKc hFc hz1 hvm ht hz
    generalize H1 = H at hP hS ⊢
    refine lv_if_eq (pc := 225) (tgt := 238) hx hb d_xReader_takeNumeral_225 (by decide) (fun hc => ?_) (fun hc => ?_)
    · rw [if_pos hc] at hf
      refine lv_iconst (pc := 238) (v := (0 : Int32)) hx hb d_xReader_takeNumeral_238 (by decide) ?_
      obtain ⟨e_0, e_1, e_2⟩ := kr3 hf
      rw [e_0]
      exact hRet (by rw [← e_0]; exact (by decide)) 239 _ _ _ d_xReader_takeNumeral_239 (by rw [← e_1, ← e_2]; exact hP) (by rw [← e_1, ← e_2]; exact hD) hS
    · rw [if_neg hc] at hf
      refine lv_iload_n (pc := 228) hx hb d_xReader_takeNumeral_228 rfl (lv_at hl 2 rfl) ?_
      refine lv_if_lt (pc := 229) (tgt := 238) hx hb d_xReader_takeNumeral_229 (by decide) (fun hc => ?_) (fun hc => ?_)
      · rw [if_pos hc] at hf
        refine lv_iconst (pc := 238) (v := (0 : Int32)) hx hb d_xReader_takeNumeral_238 (by decide) ?_
        obtain ⟨e_0, e_1, e_2⟩ := kr3 hf
        rw [e_0]
        exact hRet (by rw [← e_0]; exact (by decide)) 239 _ _ _ d_xReader_takeNumeral_239 (by rw [← e_1, ← e_2]; exact hP) (by rw [← e_1, ← e_2]; exact hD) hS
      · rw [if_neg hc] at hf
        refine lv_iload_n (pc := 232) hx hb d_xReader_takeNumeral_232 rfl (lv_at hl 2 rfl) ?_
        refine lv_bipush (pc := 233) (v := (6 : Int32)) hx hb d_xReader_takeNumeral_233 (by decide) ?_
        refine lv_icmp_lt (pc := 235) (tgt := 240) hx hb d_xReader_takeNumeral_235 (by decide) (fun hc => ?_) (fun hc => ?_)
        · rw [if_pos hc] at hf
          refine lv_aload_n (pc := 240) hx hb d_xReader_takeNumeral_240 rfl (lv_at hl 1 rfl) ?_
          refine va_get (pc := 241) (D := (dC, dI)) (ci := 4) (v := .ref q_o_numbers) (C := "PathTexts$Reader") (T := F_Reader) (N := 6) hx hb hts (fun w h => List.mem_cons_of_mem _ (in_Reader w h)) hown hK hP 0 rfl rfl 2 (by decide) (hts _ (List.mem_cons_of_mem _ kw_105)) (fun _ h9 => h9) fg_Reader_2 d_xReader_takeNumeral_241 ?_
          refine lv_iload_n (pc := 244) hx hb d_xReader_takeNumeral_244 rfl (lv_at hl 2 rfl) ?_
          refine lv_lload (pc := 245) hx hb d_xReader_takeNumeral_245 (lv_at hl 0 rfl) ?_
          obtain ⟨hg2, hf⟩ := kg_some hf
          refine kx_last (pc := 247) (ws' := [(q_o, .inr (4, f_Reader q_o_text q_o_pen q_o_numbers v_o_at v_o_wrong v_o_moveIsDue)), (q_o_text, .inr (5, f_Row q_o_text_characters v_o_text_length)), (q_o_text_characters, .inl (k_o_text_characters, 1200, .inl c_o_text_characters)), (q_o_numbers, .inl (k_o_numbers, 6, .inr (.inl (vp_updL c_o_numbers (x1).toNatClampNeg r215))))]) hx hb hK hP hD hS 3 1 rfl rfl (ki_in hg2) rfl d_xReader_takeNumeral_247 (fun H locs hP hD hS => ?_)
          refine lv_aload_n (pc := 248) hx hb d_xReader_takeNumeral_248 rfl (lv_at hl 1 rfl) ?_
          refine lv_iload_n (pc := 249) hx hb d_xReader_takeNumeral_249 rfl (lv_at hl 3 rfl) ?_
          refine kx_put (pc := 250) (D := (dC, dI)) (ci := 4) (v := .int x3) (ty := .int) (C := "PathTexts$Reader") (T := F_Reader) (N := 6) hx hb hts (fun w h => List.mem_cons_of_mem _ (in_Reader w h)) t_Reader tk_Reader n_Reader hown hK hP hD hS 0 rfl rfl 3 (by decide) (hts _ (List.mem_cons_of_mem _ kw_106)) (fun _ h9 => h9) rfl (tk_Reader 3 (by decide)) rfl rfl fl_Reader_3 fs_Reader_3 (ws' := [(q_o, .inr (4, f_Reader q_o_text q_o_pen q_o_numbers x3 v_o_wrong v_o_moveIsDue)), (q_o_text, .inr (5, f_Row q_o_text_characters v_o_text_length)), (q_o_text_characters, .inl (k_o_text_characters, 1200, .inl c_o_text_characters)), (q_o_numbers, .inl (k_o_numbers, 6, .inr (.inl (vp_updL c_o_numbers (x1).toNatClampNeg r215))))]) rfl d_xReader_takeNumeral_250 (fun H locs hP hD hS => ?_)
          refine lv_iconst (pc := 253) (v := (1 : Int32)) hx hb d_xReader_takeNumeral_253 (by decide) ?_
          obtain ⟨e_0, e_1, e_2⟩ := kr3 hf
          rw [e_0]
          exact hRet (by rw [← e_0]; exact (by decide)) 254 _ _ _ d_xReader_takeNumeral_254 (by rw [← e_1, ← e_2]; exact hP) (by rw [← e_1, ← e_2]; exact hD) hS
        · rw [if_neg hc] at hf
          refine lv_iconst (pc := 238) (v := (0 : Int32)) hx hb d_xReader_takeNumeral_238 (by decide) ?_
          obtain ⟨e_0, e_1, e_2⟩ := kr3 hf
          rw [e_0]
          exact hRet (by rw [← e_0]; exact (by decide)) 239 _ _ _ d_xReader_takeNumeral_239 (by rw [← e_1, ← e_2]; exact hP) (by rw [← e_1, ← e_2]; exact hD) hS
  have hb165 : ∀ (x1 : Int32) (x2 : Int32) (x3 : Int32) (x4 : Int64) (x6 : Int32) (x7 : Int32) (v_o_at : Int32) (c_o_numbers : (Nat → Int64)) (H : Heap) (locs : List Loc) (ls : Array Slot), xReader_takeNumeral_b165 N x1 x2 x3 x4 x6 x7 v_o_at c_o_numbers = some (rv, v_o_at_z, c_o_numbers_z) → va_P (dC, dI) clz [(q_o, .inr (4, f_Reader q_o_text q_o_pen q_o_numbers v_o_at v_o_wrong v_o_moveIsDue)), (q_o_text, .inr (5, f_Row q_o_text_characters v_o_text_length)), (q_o_text_characters, .inl (k_o_text_characters, 1200, .inl c_o_text_characters)), (q_o_numbers, .inl (k_o_numbers, 6, .inr (.inl c_o_numbers)))] H → va_D A [(q_o, .inr (4, f_Reader q_o_text q_o_pen q_o_numbers v_o_at v_o_wrong v_o_moveIsDue)), (q_o_text, .inr (5, f_Row q_o_text_characters v_o_text_length)), (q_o_text_characters, .inl (k_o_text_characters, 1200, .inl c_o_text_characters)), (q_o_numbers, .inl (k_o_numbers, 6, .inr (.inl c_o_numbers)))] → va_S A s.heap H locs → lv_has ls 11 [(0, .ref q_o), (1, .int x1), (2, .int x2), (3, .int x3), (4, .long x4), (6, .int x6), (7, .int x7)] → W p l e (headSpec w_xReader_takeNumeral ({ frames := 2, cells := 0, slots := 0, locals := 48 })).room s m args below meth c H locs 0 0 Q (F0 m 165 ls []) := by
    intro x1 x2 x3 x4 x6 x7 v_o_at c_o_numbers H locs ls hf hP hD hS hl
    rw [xReader_takeNumeral_b165] at hf
    refine lv_iload (pc := 165) hx hb d_xReader_takeNumeral_165 (lv_at hl 5 rfl) ?_
    refine lv_if_eq (pc := 167) (tgt := 191) hx hb d_xReader_takeNumeral_167 (by decide) (fun hc => ?_) (fun hc => ?_)
    · rw [if_pos hc] at hf
      refine lv_iconst (pc := 191) (v := (0 : Int32)) hx hb d_xReader_takeNumeral_191 (by decide) ?_
      obtain ⟨e_0, e_1, e_2⟩ := kr3 hf
      rw [e_0]
      exact hRet (by rw [← e_0]; exact (by decide)) 192 _ _ _ d_xReader_takeNumeral_192 (by rw [← e_1, ← e_2]; exact hP) (by rw [← e_1, ← e_2]; exact hD) hS
    · rw [if_neg hc] at hf
      refine lv_iload (pc := 170) hx hb d_xReader_takeNumeral_170 (lv_at hl 5 rfl) ?_
      refine lv_bipush (pc := 172) (v := (9 : Int32)) hx hb d_xReader_takeNumeral_172 (by decide) ?_
      refine lv_icmp_gt (pc := 174) (tgt := 191) hx hb d_xReader_takeNumeral_174 (by decide) (fun hc => ?_) (fun hc => ?_)
      · rw [if_pos hc] at hf
        refine lv_iconst (pc := 191) (v := (0 : Int32)) hx hb d_xReader_takeNumeral_191 (by decide) ?_
        obtain ⟨e_0, e_1, e_2⟩ := kr3 hf
        rw [e_0]
        exact hRet (by rw [← e_0]; exact (by decide)) 192 _ _ _ d_xReader_takeNumeral_192 (by rw [← e_1, ← e_2]; exact hP) (by rw [← e_1, ← e_2]; exact hD) hS
      · rw [if_neg hc] at hf
        refine lv_iload (pc := 177) hx hb d_xReader_takeNumeral_177 (lv_at hl 6 rfl) ?_
        refine lv_if_lt (pc := 179) (tgt := 191) hx hb d_xReader_takeNumeral_179 (by decide) (fun hc => ?_) (fun hc => ?_)
        · rw [if_pos hc] at hf
          refine lv_iconst (pc := 191) (v := (0 : Int32)) hx hb d_xReader_takeNumeral_191 (by decide) ?_
          obtain ⟨e_0, e_1, e_2⟩ := kr3 hf
          rw [e_0]
          exact hRet (by rw [← e_0]; exact (by decide)) 192 _ _ _ d_xReader_takeNumeral_192 (by rw [← e_1, ← e_2]; exact hP) (by rw [← e_1, ← e_2]; exact hD) hS
        · rw [if_neg hc] at hf
          refine lv_iload (pc := 182) hx hb d_xReader_takeNumeral_182 (lv_at hl 6 rfl) ?_
          refine va_getsN (pc := 184) hx hb hE.2.1 hS hown (va_Nw.use rfl (hE.1 _ kn_4)) (fun _ h9 => h9) d_xReader_takeNumeral_184 ?_
          refine va_tlen (pc := 187) (v := (10 : Int32)) hx hb hE.2.2.1 hS rfl d_xReader_takeNumeral_187 ?_
          refine lv_icmp_lt (pc := 188) (tgt := 193) hx hb d_xReader_takeNumeral_188 (by decide) (fun hc => ?_) (fun hc => ?_)
          · rw [if_pos hc] at hf
            refine lv_iload_n (pc := 193) hx hb d_xReader_takeNumeral_193 rfl (lv_at hl 2 rfl) ?_
            refine lv_if_eq (pc := 194) (tgt := 203) hx hb d_xReader_takeNumeral_194 (by decide) (fun hc => ?_) (fun hc => ?_)
            · rw [if_pos hc] at hf
              refine lv_lload (pc := 203) hx hb d_xReader_takeNumeral_203 (lv_at hl 4 rfl) ?_
              exact hb205 x1 x3 x7 x4 v_o_at c_o_numbers _ _ _ hf hP hD hS (lv_sub hl [0, 1, 3, 6] rfl)
            · rw [if_neg hc] at hf
              refine lv_lload (pc := 197) hx hb d_xReader_takeNumeral_197 (lv_at hl 4 rfl) ?_
              refine lv_lneg (pc := 199) hx hb d_xReader_takeNumeral_199 ?_
              refine lv_goto (pc := 200) (tgt := 205) hx hb d_xReader_takeNumeral_200 (by decide) ?_
              exact hb205 x1 x3 x7 (-x4) v_o_at c_o_numbers _ _ _ hf hP hD hS (lv_sub hl [0, 1, 3, 6] rfl)
          · rw [if_neg hc] at hf
            refine lv_iconst (pc := 191) (v := (0 : Int32)) hx hb d_xReader_takeNumeral_191 (by decide) ?_
            obtain ⟨e_0, e_1, e_2⟩ := kr3 hf
            rw [e_0]
            exact hRet (by rw [← e_0]; exact (by decide)) 192 _ _ _ d_xReader_takeNumeral_192 (by rw [← e_1, ← e_2]; exact hP) (by rw [← e_1, ← e_2]; exact hD) hS
  have hb138 : ∀ (k68 : Int32 → Int32 → Int32 → Int64 → Int32 → Int32 → Int32 → Int32 → Int32 → (Nat → Int32) → (Nat → Int64) → Option (Int32 × Int32 × (Nat → Int64))), (∀ (x1 : Int32) (x2 : Int32) (x3 : Int32) (x4 : Int64) (x6 : Int32) (x7 : Int32) (x8 : Int32) (v_o_at : Int32) (c_o_numbers : (Nat → Int64)) (H : Heap) (locs : List Loc) (ls : Array Slot), k68 x1 x2 x3 x4 x6 x7 x8 v_o_at v_o_text_length c_o_text_characters c_o_numbers = some (rv, v_o_at_z, c_o_numbers_z) → va_P (dC, dI) clz [(q_o, .inr (4, f_Reader q_o_text q_o_pen q_o_numbers v_o_at v_o_wrong v_o_moveIsDue)), (q_o_text, .inr (5, f_Row q_o_text_characters v_o_text_length)), (q_o_text_characters, .inl (k_o_text_characters, 1200, .inl c_o_text_characters)), (q_o_numbers, .inl (k_o_numbers, 6, .inr (.inl c_o_numbers)))] H → va_D A [(q_o, .inr (4, f_Reader q_o_text q_o_pen q_o_numbers v_o_at v_o_wrong v_o_moveIsDue)), (q_o_text, .inr (5, f_Row q_o_text_characters v_o_text_length)), (q_o_text_characters, .inl (k_o_text_characters, 1200, .inl c_o_text_characters)), (q_o_numbers, .inl (k_o_numbers, 6, .inr (.inl c_o_numbers)))] → va_S A s.heap H locs → lv_has ls 11 [(0, .ref q_o), (1, .int x1), (2, .int x2), (3, .int x3), (4, .long x4), (6, .int x6), (7, .int x7), (8, .int x8)] → W p l e (headSpec w_xReader_takeNumeral ({ frames := 2, cells := 0, slots := 0, locals := 48 })).room s m args below meth c H locs 0 0 Q (F0 m 68 ls [])) → ∀ (x1 : Int32) (x2 : Int32) (x3 : Int32) (x4 : Int64) (x6 : Int32) (x8 : Int32) (s0 : Int32) (s1 : Int32) (v_o_at : Int32) (c_o_numbers : (Nat → Int64)) (H : Heap) (locs : List Loc) (ls : Array Slot), xReader_takeNumeral_b138 N k68 x1 x2 x3 x4 x6 x8 s0 s1 v_o_at v_o_text_length c_o_text_characters c_o_numbers = some (rv, v_o_at_z, c_o_numbers_z) → va_P (dC, dI) clz [(q_o, .inr (4, f_Reader q_o_text q_o_pen q_o_numbers v_o_at v_o_wrong v_o_moveIsDue)), (q_o_text, .inr (5, f_Row q_o_text_characters v_o_text_length)), (q_o_text_characters, .inl (k_o_text_characters, 1200, .inl c_o_text_characters)), (q_o_numbers, .inl (k_o_numbers, 6, .inr (.inl c_o_numbers)))] H → va_D A [(q_o, .inr (4, f_Reader q_o_text q_o_pen q_o_numbers v_o_at v_o_wrong v_o_moveIsDue)), (q_o_text, .inr (5, f_Row q_o_text_characters v_o_text_length)), (q_o_text_characters, .inl (k_o_text_characters, 1200, .inl c_o_text_characters)), (q_o_numbers, .inl (k_o_numbers, 6, .inr (.inl c_o_numbers)))] → va_S A s.heap H locs → lv_has ls 11 [(0, .ref q_o), (1, .int x1), (2, .int x2), (3, .int x3), (4, .long x4), (6, .int x6), (8, .int x8)] → W p l e (headSpec w_xReader_takeNumeral ({ frames := 2, cells := 0, slots := 0, locals := 48 })).room s m args below meth c H locs 0 0 Q (F0 m 138 ls [.int s1, .int s0]) := by
    intro k68 hk68
    intro x1 x2 x3 x4 x6 x8 s0 s1 v_o_at c_o_numbers H locs ls hf hP hD hS hl
    rw [xReader_takeNumeral_b138] at hf
    refine lv_iadd (pc := 138) hx hb d_xReader_takeNumeral_138 ?_
    refine lv_istore (pc := 139) (lv' := [(7, .int (s0 + s1)), (0, .ref q_o), (1, .int x1), (2, .int x2), (3, .int x3), (4, .long x4), (6, .int x6), (8, .int x8)]) hx hb d_xReader_takeNumeral_139 hl (by decide) rfl (fun ls hl => ?_)
    refine lv_goto (pc := 141) (tgt := 159) hx hb d_xReader_takeNumeral_141 (by decide) ?_
    refine lv_iinc (pc := 159) (v := (x3 + (1 : Int32))) (lv' := [(3, .int (x3 + (1 : Int32))), (7, .int (s0 + s1)), (0, .ref q_o), (1, .int x1), (2, .int x2), (4, .long x4), (6, .int x6), (8, .int x8)]) hx hb d_xReader_takeNumeral_159 hl (k := 4) rfl rfl (by decide) rfl (fun ls hl => ?_)
    refine lv_goto (pc := 162) (tgt := 68) hx hb d_xReader_takeNumeral_162 (by decide) ?_
    exact hk68 x1 x2 (x3 + (1 : Int32)) x4 x6 (s0 + s1) x8 v_o_at c_o_numbers _ _ _ hf hP hD hS (lv_sub hl [2, 3, 4, 0, 5, 6, 1, 7] rfl)
  have hb124 : ∀ (k68 : Int32 → Int32 → Int32 → Int64 → Int32 → Int32 → Int32 → Int32 → Int32 → (Nat → Int32) → (Nat → Int64) → Option (Int32 × Int32 × (Nat → Int64))), (∀ (x1 : Int32) (x2 : Int32) (x3 : Int32) (x4 : Int64) (x6 : Int32) (x7 : Int32) (x8 : Int32) (v_o_at : Int32) (c_o_numbers : (Nat → Int64)) (H : Heap) (locs : List Loc) (ls : Array Slot), k68 x1 x2 x3 x4 x6 x7 x8 v_o_at v_o_text_length c_o_text_characters c_o_numbers = some (rv, v_o_at_z, c_o_numbers_z) → va_P (dC, dI) clz [(q_o, .inr (4, f_Reader q_o_text q_o_pen q_o_numbers v_o_at v_o_wrong v_o_moveIsDue)), (q_o_text, .inr (5, f_Row q_o_text_characters v_o_text_length)), (q_o_text_characters, .inl (k_o_text_characters, 1200, .inl c_o_text_characters)), (q_o_numbers, .inl (k_o_numbers, 6, .inr (.inl c_o_numbers)))] H → va_D A [(q_o, .inr (4, f_Reader q_o_text q_o_pen q_o_numbers v_o_at v_o_wrong v_o_moveIsDue)), (q_o_text, .inr (5, f_Row q_o_text_characters v_o_text_length)), (q_o_text_characters, .inl (k_o_text_characters, 1200, .inl c_o_text_characters)), (q_o_numbers, .inl (k_o_numbers, 6, .inr (.inl c_o_numbers)))] → va_S A s.heap H locs → lv_has ls 11 [(0, .ref q_o), (1, .int x1), (2, .int x2), (3, .int x3), (4, .long x4), (6, .int x6), (7, .int x7), (8, .int x8)] → W p l e (headSpec w_xReader_takeNumeral ({ frames := 2, cells := 0, slots := 0, locals := 48 })).room s m args below meth c H locs 0 0 Q (F0 m 68 ls [])) → ∀ (x1 : Int32) (x2 : Int32) (x3 : Int32) (x6 : Int32) (x7 : Int32) (x8 : Int32) (s0 : Int64) (v_o_at : Int32) (c_o_numbers : (Nat → Int64)) (H : Heap) (locs : List Loc) (ls : Array Slot), xReader_takeNumeral_b124 N k68 x1 x2 x3 x6 x7 x8 s0 v_o_at v_o_text_length c_o_text_characters c_o_numbers = some (rv, v_o_at_z, c_o_numbers_z) → va_P (dC, dI) clz [(q_o, .inr (4, f_Reader q_o_text q_o_pen q_o_numbers v_o_at v_o_wrong v_o_moveIsDue)), (q_o_text, .inr (5, f_Row q_o_text_characters v_o_text_length)), (q_o_text_characters, .inl (k_o_text_characters, 1200, .inl c_o_text_characters)), (q_o_numbers, .inl (k_o_numbers, 6, .inr (.inl c_o_numbers)))] H → va_D A [(q_o, .inr (4, f_Reader q_o_text q_o_pen q_o_numbers v_o_at v_o_wrong v_o_moveIsDue)), (q_o_text, .inr (5, f_Row q_o_text_characters v_o_text_length)), (q_o_text_characters, .inl (k_o_text_characters, 1200, .inl c_o_text_characters)), (q_o_numbers, .inl (k_o_numbers, 6, .inr (.inl c_o_numbers)))] → va_S A s.heap H locs → lv_has ls 11 [(0, .ref q_o), (1, .int x1), (2, .int x2), (3, .int x3), (6, .int x6), (7, .int x7), (8, .int x8)] → W p l e (headSpec w_xReader_takeNumeral ({ frames := 2, cells := 0, slots := 0, locals := 48 })).room s m args below meth c H locs 0 0 Q (F0 m 124 ls [.long s0]) := by
    intro k68 hk68
    intro x1 x2 x3 x6 x7 x8 s0 v_o_at c_o_numbers H locs ls hf hP hD hS hl
    rw [xReader_takeNumeral_b124] at hf
    refine lv_lstore (pc := 124) (lv' := [(4, .long s0), (0, .ref q_o), (1, .int x1), (2, .int x2), (3, .int x3), (6, .int x6), (7, .int x7), (8, .int x8)]) hx hb d_xReader_takeNumeral_124 hl (by decide) rfl (fun ls hl => ?_)
    refine lv_iload (pc := 126) hx hb d_xReader_takeNumeral_126 (lv_at hl 6 rfl) ?_
    refine lv_iload (pc := 128) hx hb d_xReader_takeNumeral_128 (lv_at hl 7 rfl) ?_
    refine lv_if_eq (pc := 130) (tgt := 137) hx hb d_xReader_takeNumeral_130 (by decide) (fun hc => ?_) (fun hc => ?_)
    · rw [if_pos hc] at hf
      refine lv_iconst (pc := 137) (v := (0 : Int32)) hx hb d_xReader_takeNumeral_137 (by decide) ?_
      exact hb138 k68 hk68 x1 x2 x3 s0 x6 x8 x7 (0 : Int32) v_o_at c_o_numbers _ _ _ hf hP hD hS (lv_sub hl [1, 2, 3, 4, 0, 5, 7] rfl)
    · rw [if_neg hc] at hf
      refine lv_iconst (pc := 133) (v := (1 : Int32)) hx hb d_xReader_takeNumeral_133 (by decide) ?_
      refine lv_goto (pc := 134) (tgt := 138) hx hb d_xReader_takeNumeral_134 (by decide) ?_
      exact hb138 k68 hk68 x1 x2 x3 s0 x6 x8 x7 (1 : Int32) v_o_at c_o_numbers _ _ _ hf hP hD hS (lv_sub hl [1, 2, 3, 4, 0, 5, 7] rfl)
  have hB68 : ∀ (k68 : Int32 → Int32 → Int32 → Int64 → Int32 → Int32 → Int32 → Int32 → Int32 → (Nat → Int32) → (Nat → Int64) → Option (Int32 × Int32 × (Nat → Int64))), (∀ (x1 : Int32) (x2 : Int32) (x3 : Int32) (x4 : Int64) (x6 : Int32) (x7 : Int32) (x8 : Int32) (v_o_at : Int32) (c_o_numbers : (Nat → Int64)) (H : Heap) (locs : List Loc) (ls : Array Slot), k68 x1 x2 x3 x4 x6 x7 x8 v_o_at v_o_text_length c_o_text_characters c_o_numbers = some (rv, v_o_at_z, c_o_numbers_z) → va_P (dC, dI) clz [(q_o, .inr (4, f_Reader q_o_text q_o_pen q_o_numbers v_o_at v_o_wrong v_o_moveIsDue)), (q_o_text, .inr (5, f_Row q_o_text_characters v_o_text_length)), (q_o_text_characters, .inl (k_o_text_characters, 1200, .inl c_o_text_characters)), (q_o_numbers, .inl (k_o_numbers, 6, .inr (.inl c_o_numbers)))] H → va_D A [(q_o, .inr (4, f_Reader q_o_text q_o_pen q_o_numbers v_o_at v_o_wrong v_o_moveIsDue)), (q_o_text, .inr (5, f_Row q_o_text_characters v_o_text_length)), (q_o_text_characters, .inl (k_o_text_characters, 1200, .inl c_o_text_characters)), (q_o_numbers, .inl (k_o_numbers, 6, .inr (.inl c_o_numbers)))] → va_S A s.heap H locs → lv_has ls 11 [(0, .ref q_o), (1, .int x1), (2, .int x2), (3, .int x3), (4, .long x4), (6, .int x6), (7, .int x7), (8, .int x8)] → W p l e (headSpec w_xReader_takeNumeral ({ frames := 2, cells := 0, slots := 0, locals := 48 })).room s m args below meth c H locs 0 0 Q (F0 m 68 ls [])) → ∀ (x1 : Int32) (x2 : Int32) (x3 : Int32) (x4 : Int64) (x6 : Int32) (x7 : Int32) (x8 : Int32) (v_o_at : Int32) (c_o_numbers : (Nat → Int64)) (H : Heap) (locs : List Loc) (ls : Array Slot), xReader_takeNumeral_B68 N k68 x1 x2 x3 x4 x6 x7 x8 v_o_at v_o_text_length c_o_text_characters c_o_numbers = some (rv, v_o_at_z, c_o_numbers_z) → va_P (dC, dI) clz [(q_o, .inr (4, f_Reader q_o_text q_o_pen q_o_numbers v_o_at v_o_wrong v_o_moveIsDue)), (q_o_text, .inr (5, f_Row q_o_text_characters v_o_text_length)), (q_o_text_characters, .inl (k_o_text_characters, 1200, .inl c_o_text_characters)), (q_o_numbers, .inl (k_o_numbers, 6, .inr (.inl c_o_numbers)))] H → va_D A [(q_o, .inr (4, f_Reader q_o_text q_o_pen q_o_numbers v_o_at v_o_wrong v_o_moveIsDue)), (q_o_text, .inr (5, f_Row q_o_text_characters v_o_text_length)), (q_o_text_characters, .inl (k_o_text_characters, 1200, .inl c_o_text_characters)), (q_o_numbers, .inl (k_o_numbers, 6, .inr (.inl c_o_numbers)))] → va_S A s.heap H locs → lv_has ls 11 [(0, .ref q_o), (1, .int x1), (2, .int x2), (3, .int x3), (4, .long x4), (6, .int x6), (7, .int x7), (8, .int x8)] → W p l e (headSpec w_xReader_takeNumeral ({ frames := 2, cells := 0, slots := 0, locals := 48 })).room s m args below meth c H locs 0 0 Q (F0 m 68 ls []) := by
    intro k68 hk68
    intro x1 x2 x3 x4 x6 x7 x8 v_o_at c_o_numbers H locs ls hf hP hD hS hl
    rw [xReader_takeNumeral_B68] at hf
    refine lv_iload_n (pc := 68) hx hb d_xReader_takeNumeral_68 rfl (lv_at hl 3 rfl) ?_
    refine lv_aload_n (pc := 69) hx hb d_xReader_takeNumeral_69 rfl (lv_at hl 0 rfl) ?_
    refine va_get (pc := 70) (D := (dC, dI)) (ci := 4) (v := .ref q_o_text) (C := "PathTexts$Reader") (T := F_Reader) (N := 6) hx hb hts (fun w h => List.mem_cons_of_mem _ (in_Reader w h)) hown hK hP 0 rfl rfl 0 (by decide) (hts _ (List.mem_cons_of_mem _ kw_103)) (fun _ h9 => h9) fg_Reader_0 d_xReader_takeNumeral_70 ?_
    refine va_get (pc := 73) (D := (dC, dI)) (ci := 5) (v := .int v_o_text_length) (C := "PathTexts$Row") (T := F_Row) (N := 2) hx hb hts (fun w h => List.mem_cons_of_mem _ (in_Row w h)) hown hK hP 1 rfl rfl 1 (by decide) (hts _ (List.mem_cons_of_mem _ kw_36)) (fun _ h9 => h9) fg_Row_1 d_xReader_takeNumeral_73 ?_
    refine lv_icmp_ge (pc := 76) (tgt := 165) hx hb d_xReader_takeNumeral_76 (by decide) (fun hc => ?_) (fun hc => ?_)
    · rw [if_pos hc] at hf
      exact hb165 x1 x2 x3 x4 x6 x7 v_o_at c_o_numbers _ _ _ hf hP hD hS (lv_sub hl [0, 1, 2, 3, 4, 5, 6] rfl)
    · rw [if_neg hc] at hf
      refine lv_aload_n (pc := 79) hx hb d_xReader_takeNumeral_79 rfl (lv_at hl 0 rfl) ?_
      refine va_get (pc := 80) (D := (dC, dI)) (ci := 4) (v := .ref q_o_text) (C := "PathTexts$Reader") (T := F_Reader) (N := 6) hx hb hts (fun w h => List.mem_cons_of_mem _ (in_Reader w h)) hown hK hP 0 rfl rfl 0 (by decide) (hts _ (List.mem_cons_of_mem _ kw_103)) (fun _ h9 => h9) fg_Reader_0 d_xReader_takeNumeral_80 ?_
      refine lv_iload_n (pc := 83) hx hb d_xReader_takeNumeral_83 rfl (lv_at hl 3 rfl) ?_
      obtain ⟨r84, hz, hf⟩ := kb1_some hf
      have hPc := hP.sub (ws' := [(q_o_text, .inr (5, f_Row q_o_text_characters v_o_text_length)), (q_o_text_characters, .inl (k_o_text_characters, 1200, .inl c_o_text_characters))]) [1, 2] rfl
      have hDc := hD.sub (ws' := [(q_o_text, .inr (5, f_Row q_o_text_characters v_o_text_length)), (q_o_text_characters, .inl (k_o_text_characters, 1200, .inl c_o_text_characters))]) [1, 2] (by decide) rfl
      have hKc := hK.sub (tys' := [(k_o_text_characters, .char)]) [0] rfl
      have hFc := va_free (wc := [(q_o_text, .inr (5, f_Row q_o_text_characters v_o_text_length)), (q_o_text_characters, .inl (k_o_text_characters, 1200, .inl c_o_text_characters))]) hD hS hA [1, 2] rfl
      refine va_calli (pc := 84) (va_runV (As := [.int x3]) (rest := []) ⟨hx, hb, hml, hown, hts⟩ (ct_xRow_at l dC dI q_o_text q_o_text_characters k_o_text_characters _ 1200 x3 v_o_text_length c_o_text_characters r84 hz) (cwV 1 hts (kw_in4 kw_232 kw_233 kw_234 kw_2 kw_235) rfl rfl rfl (by decide +kernel) ⟨Nat.le_of_ble_eq_true rfl, Nat.le_of_ble_eq_true rfl⟩) (kx_preV hPc hKc hDc 0 rfl rfl) rfl rfl hl.1 rfl (lv_room (Nat.le_of_ble_eq_true rfl)) d_xReader_takeNumeral_84 ⟨Nat.le_of_ble_eq_true rfl, Nat.le_of_ble_eq_true rfl⟩) hS (fun q _ h => hFc q h) hFc (fun r9 u t H1 locs ht hvm hw hB hz1 hk1 hS => ?_)
      obtain ⟨hP1, hK1, hD1⟩ := hB
      rw [ht] at hP1
      have hw := hw.symm
      subst hw
      obtain ⟨hP, hD⟩ := va_join (wr := [(q_o, .inr (4, f_Reader q_o_text q_o_pen q_o_numbers v_o_at v_o_wrong v_o_moveIsDue)), (q_o_numbers, .inl (k_o_numbers, 6, .inr (.inl c_o_numbers)))]) (w1 := [(q_o_text, .inr (5, f_Row q_o_text_characters v_o_text_length)), (q_o_text_characters, .inl (k_o_text_characters, 1200, .inl c_o_text_characters))]) hP hD [1, 2] [0, 3] rfl rfl (by decide) (by decide) hk1 hFc hP1 hD1
      have hP := hP.sub (ws' := [(q_o, .inr (4, f_Reader q_o_text q_o_pen q_o_numbers v_o_at v_o_wrong v_o_moveIsDue)), (q_o_text, .inr (5, f_Row q_o_text_characters v_o_text_length)), (q_o_text_characters, .inl (k_o_text_characters, 1200, .inl c_o_text_characters)), (q_o_numbers, .inl (k_o_numbers, 6, .inr (.inl c_o_numbers)))]) [0, 2, 3, 1] rfl
      have hD := hD.sub (ws' := [(q_o, .inr (4, f_Reader q_o_text q_o_pen q_o_numbers v_o_at v_o_wrong v_o_moveIsDue)), (q_o_text, .inr (5, f_Row q_o_text_characters v_o_text_length)), (q_o_text_characters, .inl (k_o_text_characters, 1200, .inl c_o_text_characters)), (q_o_numbers, .inl (k_o_numbers, 6, .inr (.inl c_o_numbers)))]) [0, 2, 3, 1] (by decide) rfl
      clear hP1 hK1 hD1 hk1 hPc hDc hKc hFc hz1 hvm ht hz
      generalize H1 = H at hP hS ⊢
      refine lv_istore (pc := 87) (lv' := [(9, .int r84), (0, .ref q_o), (1, .int x1), (2, .int x2), (3, .int x3), (4, .long x4), (6, .int x6), (7, .int x7), (8, .int x8)]) hx hb d_xReader_takeNumeral_87 hl (by decide) rfl (fun ls hl => ?_)
      refine lv_iload (pc := 89) hx hb d_xReader_takeNumeral_89 (lv_at hl 0 rfl) ?_
      obtain ⟨r91, hz, hf⟩ := kb1_some hf
      have hPc := hP.sub (ws' := []) [] rfl
      have hDc := hD.sub (ws' := []) [] (by decide) rfl
      have hKc := hK.sub (tys' := []) [] rfl
      have hFc := va_free (wc := []) hD hS hA [] rfl
      refine va_calli (pc := 91) (va_runS (As := [.int r84]) (rest := []) ⟨hx, hb, hml, hown, hts⟩ (ct_xReader_isDigit l dC dI _ r84 r91 hz) (va_cwS 1 hts (kw_in3 kw_256 kw_257 kw_3 kw_258) rfl rfl rfl (by decide +kernel) ⟨Nat.le_of_ble_eq_true rfl, Nat.le_of_ble_eq_true rfl⟩) (kx_pre hPc hKc hDc) rfl rfl hl.1 rfl (lv_room (Nat.le_of_ble_eq_true rfl)) d_xReader_takeNumeral_91 ⟨Nat.le_of_ble_eq_true rfl, Nat.le_of_ble_eq_true rfl⟩) hS (fun q _ h => hFc q h) hFc (fun r9 u t H1 locs ht hvm hw hB hz1 hk1 hS => ?_)
      obtain ⟨hP1, hK1, hD1⟩ := hB
      rw [ht] at hP1
      have hw := hw.symm
      subst hw
      obtain ⟨hP, hD⟩ := va_join (wr := [(q_o, .inr (4, f_Reader q_o_text q_o_pen q_o_numbers v_o_at v_o_wrong v_o_moveIsDue)), (q_o_text, .inr (5, f_Row q_o_text_characters v_o_text_length)), (q_o_text_characters, .inl (k_o_text_characters, 1200, .inl c_o_text_characters)), (q_o_numbers, .inl (k_o_numbers, 6, .inr (.inl c_o_numbers)))]) (w1 := []) hP hD [] [0, 1, 2, 3] rfl rfl (by decide) (by decide) hk1 hFc hP1 hD1
      have hP := hP.sub (ws' := [(q_o, .inr (4, f_Reader q_o_text q_o_pen q_o_numbers v_o_at v_o_wrong v_o_moveIsDue)), (q_o_text, .inr (5, f_Row q_o_text_characters v_o_text_length)), (q_o_text_characters, .inl (k_o_text_characters, 1200, .inl c_o_text_characters)), (q_o_numbers, .inl (k_o_numbers, 6, .inr (.inl c_o_numbers)))]) [0, 1, 2, 3] rfl
      have hD := hD.sub (ws' := [(q_o, .inr (4, f_Reader q_o_text q_o_pen q_o_numbers v_o_at v_o_wrong v_o_moveIsDue)), (q_o_text, .inr (5, f_Row q_o_text_characters v_o_text_length)), (q_o_text_characters, .inl (k_o_text_characters, 1200, .inl c_o_text_characters)), (q_o_numbers, .inl (k_o_numbers, 6, .inr (.inl c_o_numbers)))]) [0, 1, 2, 3] (by decide) rfl
      clear hP1 hK1 hD1 hk1 hPc hDc hKc hFc hz1 hvm ht hz
      generalize H1 = H at hP hS ⊢
      refine lv_if_eq (pc := 94) (tgt := 144) hx hb d_xReader_takeNumeral_94 (by decide) (fun hc => ?_) (fun hc => ?_)
      · rw [if_pos hc] at hf
        refine lv_iload (pc := 144) hx hb d_xReader_takeNumeral_144 (lv_at hl 0 rfl) ?_
        refine lv_bipush (pc := 146) (v := (46 : Int32)) hx hb d_xReader_takeNumeral_146 (by decide) ?_
        refine lv_icmp_ne (pc := 148) (tgt := 165) hx hb d_xReader_takeNumeral_148 (by decide) (fun hc => ?_) (fun hc => ?_)
        · rw [if_neg hc] at hf
          exact hb165 x1 x2 x3 x4 x6 x7 v_o_at c_o_numbers _ _ _ hf hP hD hS (lv_sub hl [1, 2, 3, 4, 5, 6, 7] rfl)
        · rw [if_pos hc] at hf
          refine lv_iload (pc := 151) hx hb d_xReader_takeNumeral_151 (lv_at hl 8 rfl) ?_
          refine lv_if_ne (pc := 153) (tgt := 165) hx hb d_xReader_takeNumeral_153 (by decide) (fun hc => ?_) (fun hc => ?_)
          · rw [if_neg hc] at hf
            exact hb165 x1 x2 x3 x4 x6 x7 v_o_at c_o_numbers _ _ _ hf hP hD hS (lv_sub hl [1, 2, 3, 4, 5, 6, 7] rfl)
          · rw [if_pos hc] at hf
            refine lv_iconst (pc := 156) (v := (1 : Int32)) hx hb d_xReader_takeNumeral_156 (by decide) ?_
            refine lv_istore (pc := 157) (lv' := [(8, .int (1 : Int32)), (9, .int r84), (0, .ref q_o), (1, .int x1), (2, .int x2), (3, .int x3), (4, .long x4), (6, .int x6), (7, .int x7)]) hx hb d_xReader_takeNumeral_157 hl (by decide) rfl (fun ls hl => ?_)
            refine lv_iinc (pc := 159) (v := (x3 + (1 : Int32))) (lv' := [(3, .int (x3 + (1 : Int32))), (8, .int (1 : Int32)), (9, .int r84), (0, .ref q_o), (1, .int x1), (2, .int x2), (4, .long x4), (6, .int x6), (7, .int x7)]) hx hb d_xReader_takeNumeral_159 hl (k := 5) rfl rfl (by decide) rfl (fun ls hl => ?_)
            refine lv_goto (pc := 162) (tgt := 68) hx hb d_xReader_takeNumeral_162 (by decide) ?_
            exact hk68 x1 x2 (x3 + (1 : Int32)) x4 x6 x7 (1 : Int32) v_o_at c_o_numbers _ _ _ hf hP hD hS (lv_sub hl [3, 4, 5, 0, 6, 7, 8, 1] rfl)
      · rw [if_neg hc] at hf
        refine lv_iinc (pc := 97) (v := (x6 + (1 : Int32))) (lv' := [(6, .int (x6 + (1 : Int32))), (9, .int r84), (0, .ref q_o), (1, .int x1), (2, .int x2), (3, .int x3), (4, .long x4), (7, .int x7), (8, .int x8)]) hx hb d_xReader_takeNumeral_97 hl (k := 6) rfl rfl (by decide) rfl (fun ls hl => ?_)
        refine lv_iload (pc := 100) hx hb d_xReader_takeNumeral_100 (lv_at hl 0 rfl) ?_
        refine lv_bipush (pc := 102) (v := (9 : Int32)) hx hb d_xReader_takeNumeral_102 (by decide) ?_
        refine lv_icmp_le (pc := 104) (tgt := 111) hx hb d_xReader_takeNumeral_104 (by decide) (fun hc => ?_) (fun hc => ?_)
        · rw [if_pos hc] at hf
          refine lv_lload (pc := 111) hx hb d_xReader_takeNumeral_111 (lv_at hl 6 rfl) ?_
          refine lv_ldc2 (pc := 113) hx hb hown (hts _ (List.mem_cons_of_mem _ kw_259)) d_xReader_takeNumeral_113 ?_
          refine lv_lmul (pc := 116) hx hb d_xReader_takeNumeral_116 ?_
          refine lv_iload (pc := 117) hx hb d_xReader_takeNumeral_117 (lv_at hl 1 rfl) ?_
          refine lv_bipush (pc := 119) (v := (48 : Int32)) hx hb d_xReader_takeNumeral_119 (by decide) ?_
          refine lv_isub (pc := 121) hx hb d_xReader_takeNumeral_121 ?_
          refine lv_i2l (pc := 122) hx hb d_xReader_takeNumeral_122 rfl ?_
          refine lv_ladd (pc := 123) hx hb d_xReader_takeNumeral_123 ?_
          exact hb124 k68 hk68 x1 x2 x3 (x6 + (1 : Int32)) x7 x8 ((x4 * (10 : Int64)) + (Int32.toInt64 (r84 - (48 : Int32)))) v_o_at c_o_numbers _ _ _ hf hP hD hS (lv_sub hl [2, 3, 4, 5, 0, 7, 8] rfl)
        · rw [if_neg hc] at hf
          refine lv_lconst (pc := 107) (v := (0 : Int64)) hx hb d_xReader_takeNumeral_107 (by decide) ?_
          refine lv_goto (pc := 108) (tgt := 124) hx hb d_xReader_takeNumeral_108 (by decide) ?_
          exact hb124 k68 hk68 x1 x2 x3 (x6 + (1 : Int32)) x7 x8 (0 : Int64) v_o_at c_o_numbers _ _ _ hf hP hD hS (lv_sub hl [2, 3, 4, 5, 0, 7, 8] rfl)
  have hL68 : ∀ n : Nat, ∀ (x1 : Int32) (x2 : Int32) (x3 : Int32) (x4 : Int64) (x6 : Int32) (x7 : Int32) (x8 : Int32) (v_o_at : Int32) (c_o_numbers : (Nat → Int64)) (H : Heap) (locs : List Loc) (ls : Array Slot), (xReader_takeNumeral_L68 N n) x1 x2 x3 x4 x6 x7 x8 v_o_at v_o_text_length c_o_text_characters c_o_numbers = some (rv, v_o_at_z, c_o_numbers_z) → va_P (dC, dI) clz [(q_o, .inr (4, f_Reader q_o_text q_o_pen q_o_numbers v_o_at v_o_wrong v_o_moveIsDue)), (q_o_text, .inr (5, f_Row q_o_text_characters v_o_text_length)), (q_o_text_characters, .inl (k_o_text_characters, 1200, .inl c_o_text_characters)), (q_o_numbers, .inl (k_o_numbers, 6, .inr (.inl c_o_numbers)))] H → va_D A [(q_o, .inr (4, f_Reader q_o_text q_o_pen q_o_numbers v_o_at v_o_wrong v_o_moveIsDue)), (q_o_text, .inr (5, f_Row q_o_text_characters v_o_text_length)), (q_o_text_characters, .inl (k_o_text_characters, 1200, .inl c_o_text_characters)), (q_o_numbers, .inl (k_o_numbers, 6, .inr (.inl c_o_numbers)))] → va_S A s.heap H locs → lv_has ls 11 [(0, .ref q_o), (1, .int x1), (2, .int x2), (3, .int x3), (4, .long x4), (6, .int x6), (7, .int x7), (8, .int x8)] → W p l e (headSpec w_xReader_takeNumeral ({ frames := 2, cells := 0, slots := 0, locals := 48 })).room s m args below meth c H locs 0 0 Q (F0 m 68 ls []) := by
    intro n
    induction n with
    | zero => intro x1 x2 x3 x4 x6 x7 x8 v_o_at c_o_numbers H locs ls hf hP hD hS hl; have hf : none = some (rv, v_o_at_z, c_o_numbers_z) := hf; cases hf
    | succ n ih => exact hB68 (xReader_takeNumeral_L68 N n) ih
  have hb55 : ∀ (x1 : Int32) (x2 : Int32) (s0 : Int32) (v_o_at : Int32) (c_o_numbers : (Nat → Int64)) (H : Heap) (locs : List Loc) (ls : Array Slot), xReader_takeNumeral_b55 N x1 x2 s0 v_o_at v_o_text_length c_o_text_characters c_o_numbers = some (rv, v_o_at_z, c_o_numbers_z) → va_P (dC, dI) clz [(q_o, .inr (4, f_Reader q_o_text q_o_pen q_o_numbers v_o_at v_o_wrong v_o_moveIsDue)), (q_o_text, .inr (5, f_Row q_o_text_characters v_o_text_length)), (q_o_text_characters, .inl (k_o_text_characters, 1200, .inl c_o_text_characters)), (q_o_numbers, .inl (k_o_numbers, 6, .inr (.inl c_o_numbers)))] H → va_D A [(q_o, .inr (4, f_Reader q_o_text q_o_pen q_o_numbers v_o_at v_o_wrong v_o_moveIsDue)), (q_o_text, .inr (5, f_Row q_o_text_characters v_o_text_length)), (q_o_text_characters, .inl (k_o_text_characters, 1200, .inl c_o_text_characters)), (q_o_numbers, .inl (k_o_numbers, 6, .inr (.inl c_o_numbers)))] → va_S A s.heap H locs → lv_has ls 11 [(0, .ref q_o), (1, .int x1), (2, .int x2)] → W p l e (headSpec w_xReader_takeNumeral ({ frames := 2, cells := 0, slots := 0, locals := 48 })).room s m args below meth c H locs 0 0 Q (F0 m 55 ls [.int s0]) := by
    intro x1 x2 s0 v_o_at c_o_numbers H locs ls hf hP hD hS hl
    rw [xReader_takeNumeral_b55] at hf
    refine lv_istore_n (pc := 55) (lv' := [(3, .int s0), (0, .ref q_o), (1, .int x1), (2, .int x2)]) hx hb d_xReader_takeNumeral_55 rfl hl (by decide) rfl (fun ls hl => ?_)
    refine lv_lconst (pc := 56) (v := (0 : Int64)) hx hb d_xReader_takeNumeral_56 (by decide) ?_
    refine lv_lstore (pc := 57) (lv' := [(4, .long (0 : Int64)), (3, .int s0), (0, .ref q_o), (1, .int x1), (2, .int x2)]) hx hb d_xReader_takeNumeral_57 hl (by decide) rfl (fun ls hl => ?_)
    refine lv_iconst (pc := 59) (v := (0 : Int32)) hx hb d_xReader_takeNumeral_59 (by decide) ?_
    refine lv_istore (pc := 60) (lv' := [(6, .int (0 : Int32)), (4, .long (0 : Int64)), (3, .int s0), (0, .ref q_o), (1, .int x1), (2, .int x2)]) hx hb d_xReader_takeNumeral_60 hl (by decide) rfl (fun ls hl => ?_)
    refine lv_iconst (pc := 62) (v := (0 : Int32)) hx hb d_xReader_takeNumeral_62 (by decide) ?_
    refine lv_istore (pc := 63) (lv' := [(7, .int (0 : Int32)), (6, .int (0 : Int32)), (4, .long (0 : Int64)), (3, .int s0), (0, .ref q_o), (1, .int x1), (2, .int x2)]) hx hb d_xReader_takeNumeral_63 hl (by decide) rfl (fun ls hl => ?_)
    refine lv_iconst (pc := 65) (v := (0 : Int32)) hx hb d_xReader_takeNumeral_65 (by decide) ?_
    refine lv_istore (pc := 66) (lv' := [(8, .int (0 : Int32)), (7, .int (0 : Int32)), (6, .int (0 : Int32)), (4, .long (0 : Int64)), (3, .int s0), (0, .ref q_o), (1, .int x1), (2, .int x2)]) hx hb d_xReader_takeNumeral_66 hl (by decide) rfl (fun ls hl => ?_)
    exact hL68 N x1 x2 s0 (0 : Int64) (0 : Int32) (0 : Int32) (0 : Int32) v_o_at c_o_numbers _ _ _ hf hP hD hS (lv_sub hl [5, 6, 7, 4, 3, 2, 1, 0] rfl)
  have hb42 : ∀ (x1 : Int32) (x2 : Int32) (v_o_at : Int32) (c_o_numbers : (Nat → Int64)) (H : Heap) (locs : List Loc) (ls : Array Slot), xReader_takeNumeral_b42 N x1 x2 v_o_at v_o_text_length c_o_text_characters c_o_numbers = some (rv, v_o_at_z, c_o_numbers_z) → va_P (dC, dI) clz [(q_o, .inr (4, f_Reader q_o_text q_o_pen q_o_numbers v_o_at v_o_wrong v_o_moveIsDue)), (q_o_text, .inr (5, f_Row q_o_text_characters v_o_text_length)), (q_o_text_characters, .inl (k_o_text_characters, 1200, .inl c_o_text_characters)), (q_o_numbers, .inl (k_o_numbers, 6, .inr (.inl c_o_numbers)))] H → va_D A [(q_o, .inr (4, f_Reader q_o_text q_o_pen q_o_numbers v_o_at v_o_wrong v_o_moveIsDue)), (q_o_text, .inr (5, f_Row q_o_text_characters v_o_text_length)), (q_o_text_characters, .inl (k_o_text_characters, 1200, .inl c_o_text_characters)), (q_o_numbers, .inl (k_o_numbers, 6, .inr (.inl c_o_numbers)))] → va_S A s.heap H locs → lv_has ls 11 [(0, .ref q_o), (1, .int x1), (2, .int x2)] → W p l e (headSpec w_xReader_takeNumeral ({ frames := 2, cells := 0, slots := 0, locals := 48 })).room s m args below meth c H locs 0 0 Q (F0 m 42 ls []) := by
    intro x1 x2 v_o_at c_o_numbers H locs ls hf hP hD hS hl
    rw [xReader_takeNumeral_b42] at hf
    refine lv_aload_n (pc := 42) hx hb d_xReader_takeNumeral_42 rfl (lv_at hl 0 rfl) ?_
    refine va_get (pc := 43) (D := (dC, dI)) (ci := 4) (v := .int v_o_at) (C := "PathTexts$Reader") (T := F_Reader) (N := 6) hx hb hts (fun w h => List.mem_cons_of_mem _ (in_Reader w h)) hown hK hP 0 rfl rfl 3 (by decide) (hts _ (List.mem_cons_of_mem _ kw_106)) (fun _ h9 => h9) fg_Reader_3 d_xReader_takeNumeral_43 ?_
    refine lv_iconst (pc := 46) (v := (1 : Int32)) hx hb d_xReader_takeNumeral_46 (by decide) ?_
    refine lv_iadd (pc := 47) hx hb d_xReader_takeNumeral_47 ?_
    refine lv_goto (pc := 48) (tgt := 55) hx hb d_xReader_takeNumeral_48 (by decide) ?_
    exact hb55 x1 x2 (v_o_at + (1 : Int32)) v_o_at c_o_numbers _ _ _ hf hP hD hS (lv_sub hl [0, 1, 2] rfl)
  have hb21 : ∀ (x1 : Int32) (s0 : Int32) (v_o_at : Int32) (c_o_numbers : (Nat → Int64)) (H : Heap) (locs : List Loc) (ls : Array Slot), xReader_takeNumeral_b21 N x1 s0 v_o_at v_o_text_length c_o_text_characters c_o_numbers = some (rv, v_o_at_z, c_o_numbers_z) → va_P (dC, dI) clz [(q_o, .inr (4, f_Reader q_o_text q_o_pen q_o_numbers v_o_at v_o_wrong v_o_moveIsDue)), (q_o_text, .inr (5, f_Row q_o_text_characters v_o_text_length)), (q_o_text_characters, .inl (k_o_text_characters, 1200, .inl c_o_text_characters)), (q_o_numbers, .inl (k_o_numbers, 6, .inr (.inl c_o_numbers)))] H → va_D A [(q_o, .inr (4, f_Reader q_o_text q_o_pen q_o_numbers v_o_at v_o_wrong v_o_moveIsDue)), (q_o_text, .inr (5, f_Row q_o_text_characters v_o_text_length)), (q_o_text_characters, .inl (k_o_text_characters, 1200, .inl c_o_text_characters)), (q_o_numbers, .inl (k_o_numbers, 6, .inr (.inl c_o_numbers)))] → va_S A s.heap H locs → lv_has ls 11 [(0, .ref q_o), (1, .int x1)] → W p l e (headSpec w_xReader_takeNumeral ({ frames := 2, cells := 0, slots := 0, locals := 48 })).room s m args below meth c H locs 0 0 Q (F0 m 21 ls [.int s0]) := by
    intro x1 s0 v_o_at c_o_numbers H locs ls hf hP hD hS hl
    rw [xReader_takeNumeral_b21] at hf
    refine lv_istore_n (pc := 21) (lv' := [(2, .int s0), (0, .ref q_o), (1, .int x1)]) hx hb d_xReader_takeNumeral_21 rfl hl (by decide) rfl (fun ls hl => ?_)
    refine lv_iload_n (pc := 22) hx hb d_xReader_takeNumeral_22 rfl (lv_at hl 0 rfl) ?_
    refine lv_if_ne (pc := 23) (tgt := 42) hx hb d_xReader_takeNumeral_23 (by decide) (fun hc => ?_) (fun hc => ?_)
    · rw [if_neg hc] at hf
      exact hb42 x1 s0 v_o_at c_o_numbers _ _ _ hf hP hD hS (lv_sub hl [1, 2, 0] rfl)
    · rw [if_pos hc] at hf
      refine lv_aload_n (pc := 26) hx hb d_xReader_takeNumeral_26 rfl (lv_at hl 1 rfl) ?_
      refine va_get (pc := 27) (D := (dC, dI)) (ci := 4) (v := .ref q_o_text) (C := "PathTexts$Reader") (T := F_Reader) (N := 6) hx hb hts (fun w h => List.mem_cons_of_mem _ (in_Reader w h)) hown hK hP 0 rfl rfl 0 (by decide) (hts _ (List.mem_cons_of_mem _ kw_103)) (fun _ h9 => h9) fg_Reader_0 d_xReader_takeNumeral_27 ?_
      refine lv_aload_n (pc := 30) hx hb d_xReader_takeNumeral_30 rfl (lv_at hl 1 rfl) ?_
      refine va_get (pc := 31) (D := (dC, dI)) (ci := 4) (v := .int v_o_at) (C := "PathTexts$Reader") (T := F_Reader) (N := 6) hx hb hts (fun w h => List.mem_cons_of_mem _ (in_Reader w h)) hown hK hP 0 rfl rfl 3 (by decide) (hts _ (List.mem_cons_of_mem _ kw_106)) (fun _ h9 => h9) fg_Reader_3 d_xReader_takeNumeral_31 ?_
      obtain ⟨r34, hz, hf⟩ := kb1_some hf
      have hPc := hP.sub (ws' := [(q_o_text, .inr (5, f_Row q_o_text_characters v_o_text_length)), (q_o_text_characters, .inl (k_o_text_characters, 1200, .inl c_o_text_characters))]) [1, 2] rfl
      have hDc := hD.sub (ws' := [(q_o_text, .inr (5, f_Row q_o_text_characters v_o_text_length)), (q_o_text_characters, .inl (k_o_text_characters, 1200, .inl c_o_text_characters))]) [1, 2] (by decide) rfl
      have hKc := hK.sub (tys' := [(k_o_text_characters, .char)]) [0] rfl
      have hFc := va_free (wc := [(q_o_text, .inr (5, f_Row q_o_text_characters v_o_text_length)), (q_o_text_characters, .inl (k_o_text_characters, 1200, .inl c_o_text_characters))]) hD hS hA [1, 2] rfl
      refine va_calli (pc := 34) (va_runV (As := [.int v_o_at]) (rest := []) ⟨hx, hb, hml, hown, hts⟩ (ct_xRow_at l dC dI q_o_text q_o_text_characters k_o_text_characters _ 1200 v_o_at v_o_text_length c_o_text_characters r34 hz) (cwV 1 hts (kw_in4 kw_232 kw_233 kw_234 kw_2 kw_235) rfl rfl rfl (by decide +kernel) ⟨Nat.le_of_ble_eq_true rfl, Nat.le_of_ble_eq_true rfl⟩) (kx_preV hPc hKc hDc 0 rfl rfl) rfl rfl hl.1 rfl (lv_room (Nat.le_of_ble_eq_true rfl)) d_xReader_takeNumeral_34 ⟨Nat.le_of_ble_eq_true rfl, Nat.le_of_ble_eq_true rfl⟩) hS (fun q _ h => hFc q h) hFc (fun r9 u t H1 locs ht hvm hw hB hz1 hk1 hS => ?_)
      obtain ⟨hP1, hK1, hD1⟩ := hB
      rw [ht] at hP1
      have hw := hw.symm
      subst hw
      obtain ⟨hP, hD⟩ := va_join (wr := [(q_o, .inr (4, f_Reader q_o_text q_o_pen q_o_numbers v_o_at v_o_wrong v_o_moveIsDue)), (q_o_numbers, .inl (k_o_numbers, 6, .inr (.inl c_o_numbers)))]) (w1 := [(q_o_text, .inr (5, f_Row q_o_text_characters v_o_text_length)), (q_o_text_characters, .inl (k_o_text_characters, 1200, .inl c_o_text_characters))]) hP hD [1, 2] [0, 3] rfl rfl (by decide) (by decide) hk1 hFc hP1 hD1
      have hP := hP.sub (ws' := [(q_o, .inr (4, f_Reader q_o_text q_o_pen q_o_numbers v_o_at v_o_wrong v_o_moveIsDue)), (q_o_text, .inr (5, f_Row q_o_text_characters v_o_text_length)), (q_o_text_characters, .inl (k_o_text_characters, 1200, .inl c_o_text_characters)), (q_o_numbers, .inl (k_o_numbers, 6, .inr (.inl c_o_numbers)))]) [0, 2, 3, 1] rfl
      have hD := hD.sub (ws' := [(q_o, .inr (4, f_Reader q_o_text q_o_pen q_o_numbers v_o_at v_o_wrong v_o_moveIsDue)), (q_o_text, .inr (5, f_Row q_o_text_characters v_o_text_length)), (q_o_text_characters, .inl (k_o_text_characters, 1200, .inl c_o_text_characters)), (q_o_numbers, .inl (k_o_numbers, 6, .inr (.inl c_o_numbers)))]) [0, 2, 3, 1] (by decide) rfl
      clear hP1 hK1 hD1 hk1 hPc hDc hKc hFc hz1 hvm ht hz
      generalize H1 = H at hP hS ⊢
      refine lv_bipush (pc := 37) (v := (43 : Int32)) hx hb d_xReader_takeNumeral_37 (by decide) ?_
      refine lv_icmp_ne (pc := 39) (tgt := 51) hx hb d_xReader_takeNumeral_39 (by decide) (fun hc => ?_) (fun hc => ?_)
      · rw [if_neg hc] at hf
        refine lv_aload_n (pc := 51) hx hb d_xReader_takeNumeral_51 rfl (lv_at hl 1 rfl) ?_
        refine va_get (pc := 52) (D := (dC, dI)) (ci := 4) (v := .int v_o_at) (C := "PathTexts$Reader") (T := F_Reader) (N := 6) hx hb hts (fun w h => List.mem_cons_of_mem _ (in_Reader w h)) hown hK hP 0 rfl rfl 3 (by decide) (hts _ (List.mem_cons_of_mem _ kw_106)) (fun _ h9 => h9) fg_Reader_3 d_xReader_takeNumeral_52 ?_
        exact hb55 x1 s0 v_o_at v_o_at c_o_numbers _ _ _ hf hP hD hS (lv_sub hl [1, 2, 0] rfl)
      · rw [if_pos hc] at hf
        exact hb42 x1 s0 v_o_at c_o_numbers _ _ _ hf hP hD hS (lv_sub hl [1, 2, 0] rfl)
  rw [xReader_takeNumeral] at hf
  refine lv_aload_n (pc := 0) hx hb d_xReader_takeNumeral_0 rfl (lv_at hl 0 rfl) ?_
  refine va_get (pc := 1) (D := (dC, dI)) (ci := 4) (v := .ref q_o_text) (C := "PathTexts$Reader") (T := F_Reader) (N := 6) hx hb hts (fun w h => List.mem_cons_of_mem _ (in_Reader w h)) hown hK hP 0 rfl rfl 0 (by decide) (hts _ (List.mem_cons_of_mem _ kw_103)) (fun _ h9 => h9) fg_Reader_0 d_xReader_takeNumeral_1 ?_
  refine lv_aload_n (pc := 4) hx hb d_xReader_takeNumeral_4 rfl (lv_at hl 0 rfl) ?_
  refine va_get (pc := 5) (D := (dC, dI)) (ci := 4) (v := .int v_o_at) (C := "PathTexts$Reader") (T := F_Reader) (N := 6) hx hb hts (fun w h => List.mem_cons_of_mem _ (in_Reader w h)) hown hK hP 0 rfl rfl 3 (by decide) (hts _ (List.mem_cons_of_mem _ kw_106)) (fun _ h9 => h9) fg_Reader_3 d_xReader_takeNumeral_5 ?_
  obtain ⟨r8, hz, hf⟩ := kb1_some hf
  have hPc := hP.sub (ws' := [(q_o_text, .inr (5, f_Row q_o_text_characters v_o_text_length)), (q_o_text_characters, .inl (k_o_text_characters, 1200, .inl c_o_text_characters))]) [1, 2] rfl
  have hDc := hD.sub (ws' := [(q_o_text, .inr (5, f_Row q_o_text_characters v_o_text_length)), (q_o_text_characters, .inl (k_o_text_characters, 1200, .inl c_o_text_characters))]) [1, 2] (by decide) rfl
  have hKc := hK.sub (tys' := [(k_o_text_characters, .char)]) [0] rfl
  have hFc := va_free (wc := [(q_o_text, .inr (5, f_Row q_o_text_characters v_o_text_length)), (q_o_text_characters, .inl (k_o_text_characters, 1200, .inl c_o_text_characters))]) hD hS hA [1, 2] rfl
  refine va_calli (pc := 8) (va_runV (As := [.int v_o_at]) (rest := []) ⟨hx, hb, hml, hown, hts⟩ (ct_xRow_at l dC dI q_o_text q_o_text_characters k_o_text_characters _ 1200 v_o_at v_o_text_length c_o_text_characters r8 hz) (cwV 1 hts (kw_in4 kw_232 kw_233 kw_234 kw_2 kw_235) rfl rfl rfl (by decide +kernel) ⟨Nat.le_of_ble_eq_true rfl, Nat.le_of_ble_eq_true rfl⟩) (kx_preV hPc hKc hDc 0 rfl rfl) rfl rfl hl.1 rfl (lv_room (Nat.le_of_ble_eq_true rfl)) d_xReader_takeNumeral_8 ⟨Nat.le_of_ble_eq_true rfl, Nat.le_of_ble_eq_true rfl⟩) hS (fun q _ h => hFc q h) hFc (fun r9 u t H1 locs ht hvm hw hB hz1 hk1 hS => ?_)
  obtain ⟨hP1, hK1, hD1⟩ := hB
  rw [ht] at hP1
  have hw := hw.symm
  subst hw
  obtain ⟨hP, hD⟩ := va_join (wr := [(q_o, .inr (4, f_Reader q_o_text q_o_pen q_o_numbers v_o_at v_o_wrong v_o_moveIsDue)), (q_o_numbers, .inl (k_o_numbers, 6, .inr (.inl c_o_numbers)))]) (w1 := [(q_o_text, .inr (5, f_Row q_o_text_characters v_o_text_length)), (q_o_text_characters, .inl (k_o_text_characters, 1200, .inl c_o_text_characters))]) hP hD [1, 2] [0, 3] rfl rfl (by decide) (by decide) hk1 hFc hP1 hD1
  have hP := hP.sub (ws' := [(q_o, .inr (4, f_Reader q_o_text q_o_pen q_o_numbers v_o_at v_o_wrong v_o_moveIsDue)), (q_o_text, .inr (5, f_Row q_o_text_characters v_o_text_length)), (q_o_text_characters, .inl (k_o_text_characters, 1200, .inl c_o_text_characters)), (q_o_numbers, .inl (k_o_numbers, 6, .inr (.inl c_o_numbers)))]) [0, 2, 3, 1] rfl
  have hD := hD.sub (ws' := [(q_o, .inr (4, f_Reader q_o_text q_o_pen q_o_numbers v_o_at v_o_wrong v_o_moveIsDue)), (q_o_text, .inr (5, f_Row q_o_text_characters v_o_text_length)), (q_o_text_characters, .inl (k_o_text_characters, 1200, .inl c_o_text_characters)), (q_o_numbers, .inl (k_o_numbers, 6, .inr (.inl c_o_numbers)))]) [0, 2, 3, 1] (by decide) rfl
  clear hP1 hK1 hD1 hk1 hPc hDc hKc hFc hz1 hvm ht hz
  generalize H1 = H at hP hS ⊢
  refine lv_bipush (pc := 11) (v := (45 : Int32)) hx hb d_xReader_takeNumeral_11 (by decide) ?_
  refine lv_icmp_ne (pc := 13) (tgt := 20) hx hb d_xReader_takeNumeral_13 (by decide) (fun hc => ?_) (fun hc => ?_)
  · rw [if_neg hc] at hf
    refine lv_iconst (pc := 20) (v := (0 : Int32)) hx hb d_xReader_takeNumeral_20 (by decide) ?_
    exact hb21 x1 (0 : Int32) v_o_at c_o_numbers _ _ _ hf hP hD hS (lv_sub hl [0, 1] rfl)
  · rw [if_pos hc] at hf
    refine lv_iconst (pc := 16) (v := (1 : Int32)) hx hb d_xReader_takeNumeral_16 (by decide) ?_
    refine lv_goto (pc := 17) (tgt := 21) hx hb d_xReader_takeNumeral_17 (by decide) ?_
    exact hb21 x1 (1 : Int32) v_o_at c_o_numbers _ _ _ hf hP hD hS (lv_sub hl [0, 1] rfl)
set_option maxHeartbeats 4000000 in
set_option maxRecDepth 100000 in
theorem ct_xReader_numeralFollows (l : Launch) (dC : Nat → ClassId) (dI : Nat → Nat → Nat) (q_o : Nat) (q_o_text : Nat) (q_o_pen : Nat) (q_o_numbers : Nat) (q_o_text_characters : Nat) (k_o_text_characters : ClassId) (sz : Nat) (N : Nat) (v_o_at : Int32) (v_o_wrong : Int32) (v_o_moveIsDue : Int32) (v_o_text_length : Int32) (c_o_text_characters : (Nat → Int32)) (rv : Int32) (v_o_at_z : Int32) (hf : xReader_numeralFollows N v_o_at v_o_text_length c_o_text_characters = some (rv, v_o_at_z)) : Met l y_xReader_numeralFollows w_xReader_numeralFollows ({ frames := 2, cells := 0, slots := 0, locals := 41 }) (va_Pc [.ref q_o] (fun U => U.heap.size = sz ∧ va_P (dC, dI) clz [(q_o, .inr (4, f_Reader q_o_text q_o_pen q_o_numbers v_o_at v_o_wrong v_o_moveIsDue)), (q_o_text, .inr (5, f_Row q_o_text_characters v_o_text_length)), (q_o_text_characters, .inl (k_o_text_characters, 1200, .inl c_o_text_characters))] U.heap ∧ va_K (dC, dI) clz [(k_o_text_characters, .char)] U ∧ va_D (fun _ => True) [(q_o, .inr (4, f_Reader q_o_text q_o_pen q_o_numbers v_o_at v_o_wrong v_o_moveIsDue)), (q_o_text, .inr (5, f_Row q_o_text_characters v_o_text_length)), (q_o_text_characters, .inl (k_o_text_characters, 1200, .inl c_o_text_characters))])) (va_Qi (fun (r9 : Int32) (_ : Unit) => r9 = rv) (fun _ t => va_P (dC, dI) clz [(q_o, .inr (4, f_Reader q_o_text q_o_pen q_o_numbers v_o_at_z v_o_wrong v_o_moveIsDue)), (q_o_text, .inr (5, f_Row q_o_text_characters v_o_text_length)), (q_o_text_characters, .inl (k_o_text_characters, 1200, .inl c_o_text_characters))] t.heap ∧ va_K (dC, dI) clz [(k_o_text_characters, .char)] t ∧ va_D (va_A [(q_o, .inr (4, f_Reader q_o_text q_o_pen q_o_numbers v_o_at v_o_wrong v_o_moveIsDue)), (q_o_text, .inr (5, f_Row q_o_text_characters v_o_text_length)), (q_o_text_characters, .inl (k_o_text_characters, 1200, .inl c_o_text_characters))] sz) [(q_o, .inr (4, f_Reader q_o_text q_o_pen q_o_numbers v_o_at_z v_o_wrong v_o_moveIsDue)), (q_o_text, .inr (5, f_Row q_o_text_characters v_o_text_length)), (q_o_text_characters, .inl (k_o_text_characters, 1200, .inl c_o_text_characters))]) (va_A [(q_o, .inr (4, f_Reader q_o_text q_o_pen q_o_numbers v_o_at v_o_wrong v_o_moveIsDue)), (q_o_text, .inr (5, f_Row q_o_text_characters v_o_text_length)), (q_o_text_characters, .inl (k_o_text_characters, 1200, .inl c_o_text_characters))] sz)) 0 0 (va_A [(q_o, .inr (4, f_Reader q_o_text q_o_pen q_o_numbers v_o_at v_o_wrong v_o_moveIsDue)), (q_o_text, .inr (5, f_Row q_o_text_characters v_o_text_length)), (q_o_text_characters, .inl (k_o_text_characters, 1200, .inl c_o_text_characters))] sz) := by
  refine Met.ofW (cc := prog_6_method_10_code) (maxL := 2) (ret := (some .boolean)) (by decide +kernel) rfl ?_
  intro p e s m args below meth c s₁ B hml hv
  obtain ⟨hargs, hsz, hP, hK, hD0⟩ := hv
  have hx := B.exec
  have hb := B.bytes
  have hr := B.returns
  have hts := atoms_spec (ws := w_xReader_numeralFollows) B.pre
  have hown : s.vm.findClass "PathTexts$Reader" = some m.cls := findClass_of_methodNamed B.named
  have hlocks := B.notSynchronized
  subst hsz
  have hD := hD0.self (sz := s.heap.size)
  generalize hAe : va_A [(q_o, .inr (4, f_Reader q_o_text q_o_pen q_o_numbers v_o_at v_o_wrong v_o_moveIsDue)), (q_o_text, .inr (5, f_Row q_o_text_characters v_o_text_length)), (q_o_text_characters, .inl (k_o_text_characters, 1200, .inl c_o_text_characters))] s.heap.size = A at hD ⊢
  have hA : ∀ q : Nat, s.heap.size ≤ q → A q := fun q h => by rw [← hAe]; exact Or.inr h
  clear hAe hD0
  have hS : va_S A s.heap s.heap [] := va_S.rf
  have hl := lv_entry ([.ref q_o]) (n := 2) (Nat.le_of_ble_eq_true rfl)
  have hent : entryFrame m args 2 = F0 m 0 (lg_sl ([.ref q_o]) ++ List.replicate (2 - (lg_sl ([.ref q_o])).length) Slot.unset).toArray [] := by rw [hargs, lg_entry_eq]
  rw [hent]
  clear hent hargs
  generalize (lg_sl ([.ref q_o]) ++ List.replicate (2 - (lg_sl ([.ref q_o])).length) Slot.unset).toArray = ls at hl ⊢
  have hl : lv_has ls 2 [(0, .ref q_o)] := hl
  suffices key : ∀ Q : State → Prop, (∀ (hn9 : narrow .boolean (.int rv) = .int rv) (pc : Nat) (H : Heap) (locs : List Loc) (ls : Array Slot), decode prog_6_method_10_code pc = .ok (.ireturn, 1) → va_P (dC, dI) clz [(q_o, .inr (4, f_Reader q_o_text q_o_pen q_o_numbers v_o_at_z v_o_wrong v_o_moveIsDue)), (q_o_text, .inr (5, f_Row q_o_text_characters v_o_text_length)), (q_o_text_characters, .inl (k_o_text_characters, 1200, .inl c_o_text_characters))] H → va_D A [(q_o, .inr (4, f_Reader q_o_text q_o_pen q_o_numbers v_o_at_z v_o_wrong v_o_moveIsDue)), (q_o_text, .inr (5, f_Row q_o_text_characters v_o_text_length)), (q_o_text_characters, .inl (k_o_text_characters, 1200, .inl c_o_text_characters))] → va_S A s.heap H locs → W p l e (headSpec w_xReader_numeralFollows ({ frames := 2, cells := 0, slots := 0, locals := 41 })).room s m args below meth c H locs 0 0 Q (F0 m pc ls [.int rv])) → W p l e (headSpec w_xReader_numeralFollows ({ frames := 2, cells := 0, slots := 0, locals := 41 })).room s m args below meth c s.heap [] 0 0 Q (F0 m 0 ls []) from key _ (fun hn9 pc H locs ls hd hP hD hS => W.zret hx hb hr hn9 (fun t ht hW => ⟨⟨rv, (), rfl, rfl, by rw [ht]; exact hP, va_K.moved hW.alike hK, hD⟩, hS.F ht⟩) hS.2.2 hd)
  intro Q hRet
  rw [xReader_numeralFollows] at hf
  refine lv_aload_n (pc := 0) hx hb d_xReader_numeralFollows_0 rfl (lv_at hl 0 rfl) ?_
  obtain ⟨v_o_at_1, hz, hf⟩ := kb1_some hf
  have hPc := hP.sub (ws' := [(q_o, .inr (4, f_Reader q_o_text q_o_pen q_o_numbers v_o_at v_o_wrong v_o_moveIsDue)), (q_o_text, .inr (5, f_Row q_o_text_characters v_o_text_length)), (q_o_text_characters, .inl (k_o_text_characters, 1200, .inl c_o_text_characters))]) [0, 1, 2] rfl
  have hDc := hD.sub (ws' := [(q_o, .inr (4, f_Reader q_o_text q_o_pen q_o_numbers v_o_at v_o_wrong v_o_moveIsDue)), (q_o_text, .inr (5, f_Row q_o_text_characters v_o_text_length)), (q_o_text_characters, .inl (k_o_text_characters, 1200, .inl c_o_text_characters))]) [0, 1, 2] (by decide) rfl
  have hKc := hK.sub (tys' := [(k_o_text_characters, .char)]) [0] rfl
  have hFc := va_free (wc := [(q_o, .inr (4, f_Reader q_o_text q_o_pen q_o_numbers v_o_at v_o_wrong v_o_moveIsDue)), (q_o_text, .inr (5, f_Row q_o_text_characters v_o_text_length)), (q_o_text_characters, .inl (k_o_text_characters, 1200, .inl c_o_text_characters))]) hD hS hA [0, 1, 2] rfl
  refine va_callv (pc := 1) (va_runV (As := []) (rest := []) ⟨hx, hb, hml, hown, hts⟩ (ct_xReader_passBlanks l dC dI q_o q_o_text q_o_pen q_o_numbers q_o_text_characters k_o_text_characters _ N v_o_at v_o_wrong v_o_moveIsDue v_o_text_length c_o_text_characters v_o_at_1 hz) (cwV 0 hts (kw_in4 kw_228 kw_229 kw_230 kw_3 kw_231) rfl rfl rfl (by decide +kernel) ⟨Nat.le_of_ble_eq_true rfl, Nat.le_of_ble_eq_true rfl⟩) (kx_preV hPc hKc hDc 0 rfl rfl) rfl rfl hl.1 rfl (lv_room (Nat.le_of_ble_eq_true rfl)) d_xReader_numeralFollows_1 ⟨Nat.le_of_ble_eq_true rfl, Nat.le_of_ble_eq_true rfl⟩) hS (fun q _ h => hFc q h) hFc (fun u t H1 locs ht hvm hw hB hz1 hk1 hS => ?_)
  obtain ⟨hP1, hK1, hD1⟩ := hB
  rw [ht] at hP1
  obtain ⟨hP, hD⟩ := va_join (wr := []) (w1 := [(q_o, .inr (4, f_Reader q_o_text q_o_pen q_o_numbers v_o_at_1 v_o_wrong v_o_moveIsDue)), (q_o_text, .inr (5, f_Row q_o_text_characters v_o_text_length)), (q_o_text_characters, .inl (k_o_text_characters, 1200, .inl c_o_text_characters))]) hP hD [0, 1, 2] [] rfl rfl (by decide) (by decide) hk1 hFc hP1 hD1
  have hP := hP.sub (ws' := [(q_o, .inr (4, f_Reader q_o_text q_o_pen q_o_numbers v_o_at_1 v_o_wrong v_o_moveIsDue)), (q_o_text, .inr (5, f_Row q_o_text_characters v_o_text_length)), (q_o_text_characters, .inl (k_o_text_characters, 1200, .inl c_o_text_characters))]) [0, 1, 2] rfl
  have hD := hD.sub (ws' := [(q_o, .inr (4, f_Reader q_o_text q_o_pen q_o_numbers v_o_at_1 v_o_wrong v_o_moveIsDue)), (q_o_text, .inr (5, f_Row q_o_text_characters v_o_text_length)), (q_o_text_characters, .inl (k_o_text_characters, 1200, .inl c_o_text_characters))]) [0, 1, 2] (by decide) rfl
  clear hP1 hK1 hD1 hk1 hPc hDc hKc hFc hz1 hvm ht hz
  generalize H1 = H at hP hS ⊢
  refine lv_aload_n (pc := 4) hx hb d_xReader_numeralFollows_4 rfl (lv_at hl 0 rfl) ?_
  refine va_get (pc := 5) (D := (dC, dI)) (ci := 4) (v := .ref q_o_text) (C := "PathTexts$Reader") (T := F_Reader) (N := 6) hx hb hts (fun w h => List.mem_cons_of_mem _ (in_Reader w h)) hown hK hP 0 rfl rfl 0 (by decide) (hts _ (List.mem_cons_of_mem _ kw_103)) (fun _ h9 => h9) fg_Reader_0 d_xReader_numeralFollows_5 ?_
  refine lv_aload_n (pc := 8) hx hb d_xReader_numeralFollows_8 rfl (lv_at hl 0 rfl) ?_
  refine va_get (pc := 9) (D := (dC, dI)) (ci := 4) (v := .int v_o_at_1) (C := "PathTexts$Reader") (T := F_Reader) (N := 6) hx hb hts (fun w h => List.mem_cons_of_mem _ (in_Reader w h)) hown hK hP 0 rfl rfl 3 (by decide) (hts _ (List.mem_cons_of_mem _ kw_106)) (fun _ h9 => h9) fg_Reader_3 d_xReader_numeralFollows_9 ?_
  obtain ⟨r12, hz, hf⟩ := kb1_some hf
  have hPc := hP.sub (ws' := [(q_o_text, .inr (5, f_Row q_o_text_characters v_o_text_length)), (q_o_text_characters, .inl (k_o_text_characters, 1200, .inl c_o_text_characters))]) [1, 2] rfl
  have hDc := hD.sub (ws' := [(q_o_text, .inr (5, f_Row q_o_text_characters v_o_text_length)), (q_o_text_characters, .inl (k_o_text_characters, 1200, .inl c_o_text_characters))]) [1, 2] (by decide) rfl
  have hKc := hK.sub (tys' := [(k_o_text_characters, .char)]) [0] rfl
  have hFc := va_free (wc := [(q_o_text, .inr (5, f_Row q_o_text_characters v_o_text_length)), (q_o_text_characters, .inl (k_o_text_characters, 1200, .inl c_o_text_characters))]) hD hS hA [1, 2] rfl
  refine va_calli (pc := 12) (va_runV (As := [.int v_o_at_1]) (rest := []) ⟨hx, hb, hml, hown, hts⟩ (ct_xRow_at l dC dI q_o_text q_o_text_characters k_o_text_characters _ 1200 v_o_at_1 v_o_text_length c_o_text_characters r12 hz) (cwV 1 hts (kw_in4 kw_232 kw_233 kw_234 kw_2 kw_235) rfl rfl rfl (by decide +kernel) ⟨Nat.le_of_ble_eq_true rfl, Nat.le_of_ble_eq_true rfl⟩) (kx_preV hPc hKc hDc 0 rfl rfl) rfl rfl hl.1 rfl (lv_room (Nat.le_of_ble_eq_true rfl)) d_xReader_numeralFollows_12 ⟨Nat.le_of_ble_eq_true rfl, Nat.le_of_ble_eq_true rfl⟩) hS (fun q _ h => hFc q h) hFc (fun r9 u t H1 locs ht hvm hw hB hz1 hk1 hS => ?_)
  obtain ⟨hP1, hK1, hD1⟩ := hB
  rw [ht] at hP1
  have hw := hw.symm
  subst hw
  obtain ⟨hP, hD⟩ := va_join (wr := [(q_o, .inr (4, f_Reader q_o_text q_o_pen q_o_numbers v_o_at_1 v_o_wrong v_o_moveIsDue))]) (w1 := [(q_o_text, .inr (5, f_Row q_o_text_characters v_o_text_length)), (q_o_text_characters, .inl (k_o_text_characters, 1200, .inl c_o_text_characters))]) hP hD [1, 2] [0] rfl rfl (by decide) (by decide) hk1 hFc hP1 hD1
  have hP := hP.sub (ws' := [(q_o, .inr (4, f_Reader q_o_text q_o_pen q_o_numbers v_o_at_1 v_o_wrong v_o_moveIsDue)), (q_o_text, .inr (5, f_Row q_o_text_characters v_o_text_length)), (q_o_text_characters, .inl (k_o_text_characters, 1200, .inl c_o_text_characters))]) [0, 1, 2] rfl
  have hD := hD.sub (ws' := [(q_o, .inr (4, f_Reader q_o_text q_o_pen q_o_numbers v_o_at_1 v_o_wrong v_o_moveIsDue)), (q_o_text, .inr (5, f_Row q_o_text_characters v_o_text_length)), (q_o_text_characters, .inl (k_o_text_characters, 1200, .inl c_o_text_characters))]) [0, 1, 2] (by decide) rfl
  clear hP1 hK1 hD1 hk1 hPc hDc hKc hFc hz1 hvm ht hz
  generalize H1 = H at hP hS ⊢
  refine lv_istore_n (pc := 15) (lv' := [(1, .int r12), (0, .ref q_o)]) hx hb d_xReader_numeralFollows_15 rfl hl (by decide) rfl (fun ls hl => ?_)
  refine lv_iload_n (pc := 16) hx hb d_xReader_numeralFollows_16 rfl (lv_at hl 0 rfl) ?_
  obtain ⟨r17, hz, hf⟩ := kb1_some hf
  have hPc := hP.sub (ws' := []) [] rfl
  have hDc := hD.sub (ws' := []) [] (by decide) rfl
  have hKc := hK.sub (tys' := []) [] rfl
  have hFc := va_free (wc := []) hD hS hA [] rfl
  refine va_calli (pc := 17) (va_runS (As := [.int r12]) (rest := []) ⟨hx, hb, hml, hown, hts⟩ (ct_xReader_isDigit l dC dI _ r12 r17 hz) (va_cwS 1 hts (kw_in3 kw_256 kw_257 kw_3 kw_258) rfl rfl rfl (by decide +kernel) ⟨Nat.le_of_ble_eq_true rfl, Nat.le_of_ble_eq_true rfl⟩) (kx_pre hPc hKc hDc) rfl rfl hl.1 rfl (lv_room (Nat.le_of_ble_eq_true rfl)) d_xReader_numeralFollows_17 ⟨Nat.le_of_ble_eq_true rfl, Nat.le_of_ble_eq_true rfl⟩) hS (fun q _ h => hFc q h) hFc (fun r9 u t H1 locs ht hvm hw hB hz1 hk1 hS => ?_)
  obtain ⟨hP1, hK1, hD1⟩ := hB
  rw [ht] at hP1
  have hw := hw.symm
  subst hw
  obtain ⟨hP, hD⟩ := va_join (wr := [(q_o, .inr (4, f_Reader q_o_text q_o_pen q_o_numbers v_o_at_1 v_o_wrong v_o_moveIsDue)), (q_o_text, .inr (5, f_Row q_o_text_characters v_o_text_length)), (q_o_text_characters, .inl (k_o_text_characters, 1200, .inl c_o_text_characters))]) (w1 := []) hP hD [] [0, 1, 2] rfl rfl (by decide) (by decide) hk1 hFc hP1 hD1
  have hP := hP.sub (ws' := [(q_o, .inr (4, f_Reader q_o_text q_o_pen q_o_numbers v_o_at_1 v_o_wrong v_o_moveIsDue)), (q_o_text, .inr (5, f_Row q_o_text_characters v_o_text_length)), (q_o_text_characters, .inl (k_o_text_characters, 1200, .inl c_o_text_characters))]) [0, 1, 2] rfl
  have hD := hD.sub (ws' := [(q_o, .inr (4, f_Reader q_o_text q_o_pen q_o_numbers v_o_at_1 v_o_wrong v_o_moveIsDue)), (q_o_text, .inr (5, f_Row q_o_text_characters v_o_text_length)), (q_o_text_characters, .inl (k_o_text_characters, 1200, .inl c_o_text_characters))]) [0, 1, 2] (by decide) rfl
  clear hP1 hK1 hD1 hk1 hPc hDc hKc hFc hz1 hvm ht hz
  generalize H1 = H at hP hS ⊢
  refine lv_if_ne (pc := 20) (tgt := 41) hx hb d_xReader_numeralFollows_20 (by decide) (fun hc => ?_) (fun hc => ?_)
  · rw [if_neg hc] at hf
    refine lv_iconst (pc := 41) (v := (1 : Int32)) hx hb d_xReader_numeralFollows_41 (by decide) ?_
    refine lv_goto (pc := 42) (tgt := 46) hx hb d_xReader_numeralFollows_42 (by decide) ?_
    obtain ⟨e_0, e_1⟩ := kr2 hf
    rw [e_0]
    exact hRet (by rw [← e_0]; exact (by decide)) 46 _ _ _ d_xReader_numeralFollows_46 (by rw [← e_1]; exact hP) (by rw [← e_1]; exact hD) hS
  · rw [if_pos hc] at hf
    refine lv_iload_n (pc := 23) hx hb d_xReader_numeralFollows_23 rfl (lv_at hl 0 rfl) ?_
    refine lv_bipush (pc := 24) (v := (43 : Int32)) hx hb d_xReader_numeralFollows_24 (by decide) ?_
    refine lv_icmp_eq (pc := 26) (tgt := 41) hx hb d_xReader_numeralFollows_26 (by decide) (fun hc => ?_) (fun hc => ?_)
    · rw [if_pos hc] at hf
      refine lv_iconst (pc := 41) (v := (1 : Int32)) hx hb d_xReader_numeralFollows_41 (by decide) ?_
      refine lv_goto (pc := 42) (tgt := 46) hx hb d_xReader_numeralFollows_42 (by decide) ?_
      obtain ⟨e_0, e_1⟩ := kr2 hf
      rw [e_0]
      exact hRet (by rw [← e_0]; exact (by decide)) 46 _ _ _ d_xReader_numeralFollows_46 (by rw [← e_1]; exact hP) (by rw [← e_1]; exact hD) hS
    · rw [if_neg hc] at hf
      refine lv_iload_n (pc := 29) hx hb d_xReader_numeralFollows_29 rfl (lv_at hl 0 rfl) ?_
      refine lv_bipush (pc := 30) (v := (45 : Int32)) hx hb d_xReader_numeralFollows_30 (by decide) ?_
      refine lv_icmp_eq (pc := 32) (tgt := 41) hx hb d_xReader_numeralFollows_32 (by decide) (fun hc => ?_) (fun hc => ?_)
      · rw [if_pos hc] at hf
        refine lv_iconst (pc := 41) (v := (1 : Int32)) hx hb d_xReader_numeralFollows_41 (by decide) ?_
        refine lv_goto (pc := 42) (tgt := 46) hx hb d_xReader_numeralFollows_42 (by decide) ?_
        obtain ⟨e_0, e_1⟩ := kr2 hf
        rw [e_0]
        exact hRet (by rw [← e_0]; exact (by decide)) 46 _ _ _ d_xReader_numeralFollows_46 (by rw [← e_1]; exact hP) (by rw [← e_1]; exact hD) hS
      · rw [if_neg hc] at hf
        refine lv_iload_n (pc := 35) hx hb d_xReader_numeralFollows_35 rfl (lv_at hl 0 rfl) ?_
        refine lv_bipush (pc := 36) (v := (46 : Int32)) hx hb d_xReader_numeralFollows_36 (by decide) ?_
        refine lv_icmp_ne (pc := 38) (tgt := 45) hx hb d_xReader_numeralFollows_38 (by decide) (fun hc => ?_) (fun hc => ?_)
        · rw [if_neg hc] at hf
          refine lv_iconst (pc := 45) (v := (0 : Int32)) hx hb d_xReader_numeralFollows_45 (by decide) ?_
          obtain ⟨e_0, e_1⟩ := kr2 hf
          rw [e_0]
          exact hRet (by rw [← e_0]; exact (by decide)) 46 _ _ _ d_xReader_numeralFollows_46 (by rw [← e_1]; exact hP) (by rw [← e_1]; exact hD) hS
        · rw [if_pos hc] at hf
          refine lv_iconst (pc := 41) (v := (1 : Int32)) hx hb d_xReader_numeralFollows_41 (by decide) ?_
          refine lv_goto (pc := 42) (tgt := 46) hx hb d_xReader_numeralFollows_42 (by decide) ?_
          obtain ⟨e_0, e_1⟩ := kr2 hf
          rw [e_0]
          exact hRet (by rw [← e_0]; exact (by decide)) 46 _ _ _ d_xReader_numeralFollows_46 (by rw [← e_1]; exact hP) (by rw [← e_1]; exact hD) hS
set_option maxHeartbeats 4000000 in
set_option maxRecDepth 100000 in
theorem ct_xWriter_decimalNextTo (l : Launch) (dC : Nat → ClassId) (dI : Nat → Nat → Nat) (sz : Nat) (tt : Nat) (x0 : Int64) (x2 : Int32) (rv : Int64) (hf : xWriter_decimalNextTo x0 x2 = some rv) : Met l y_xWriter_decimalNextTo w_xWriter_decimalNextTo ({ frames := 1, cells := 0, slots := 0, locals := 25 }) (va_Pc [.long x0, .int x2] (fun U => U.heap.size = sz ∧ va_P (dC, dI) clz [] U.heap ∧ va_K (dC, dI) clz [] U ∧ va_D (fun _ => True) [] ∧ ke tt (va_A [] sz) U)) (va_Ql (fun (r9 : Int64) (_ : Unit) => r9 = rv) (fun _ t => va_P (dC, dI) clz [] t.heap ∧ va_K (dC, dI) clz [] t ∧ va_D (va_A [] sz) []) (va_A [] sz)) 0 0 (va_A [] sz) := by
  refine Met.ofW (cc := prog_8_method_6_code) (maxL := 3) (ret := (some .long)) (by decide +kernel) rfl ?_
  intro p e s m args below meth c s₁ B hml hv
  obtain ⟨hargs, hsz, hP, hK, hD0, hE⟩ := hv
  have hx := B.exec
  have hb := B.bytes
  have hr := B.returns
  have hts := atoms_spec (ws := w_xWriter_decimalNextTo) B.pre
  have hown : s.vm.findClass "PathTexts$Writer" = some m.cls := findClass_of_methodNamed B.named
  have hlocks := B.notSynchronized
  subst hsz
  have hD := hD0.self (sz := s.heap.size)
  generalize hAe : va_A [] s.heap.size = A at hD hE ⊢
  have hA : ∀ q : Nat, s.heap.size ≤ q → A q := fun q h => by rw [← hAe]; exact Or.inr h
  clear hAe hD0
  have hS : va_S A s.heap s.heap [] := va_S.rf
  have hl := lv_entry ([.long x0, .int x2]) (n := 3) (Nat.le_of_ble_eq_true rfl)
  have hent : entryFrame m args 3 = F0 m 0 (lg_sl ([.long x0, .int x2]) ++ List.replicate (3 - (lg_sl ([.long x0, .int x2])).length) Slot.unset).toArray [] := by rw [hargs, lg_entry_eq]
  rw [hent]
  clear hent hargs
  generalize (lg_sl ([.long x0, .int x2]) ++ List.replicate (3 - (lg_sl ([.long x0, .int x2])).length) Slot.unset).toArray = ls at hl ⊢
  have hl : lv_has ls 3 [(0, .long x0), (2, .int x2)] := hl
  suffices key : ∀ Q : State → Prop, (∀ (pc : Nat) (H : Heap) (locs : List Loc) (ls : Array Slot), decode prog_8_method_6_code pc = .ok (.lreturn, 1) → va_P (dC, dI) clz [] H → va_D A [] → va_S A s.heap H locs → W p l e (headSpec w_xWriter_decimalNextTo ({ frames := 1, cells := 0, slots := 0, locals := 25 })).room s m args below meth c H locs 0 0 Q (F0 m pc ls [.long rv])) → W p l e (headSpec w_xWriter_decimalNextTo ({ frames := 1, cells := 0, slots := 0, locals := 25 })).room s m args below meth c s.heap [] 0 0 Q (F0 m 0 ls []) from key _ (fun pc H locs ls hd hP hD hS => W.lret hx hb hr (fun t ht hW => ⟨⟨rv, (), rfl, rfl, by rw [ht]; exact hP, va_K.moved hW.alike hK, hD⟩, hS.F ht⟩) hS.2.2 hd)
  intro Q hRet
  rw [xWriter_decimalNextTo] at hf
  refine lv_ldc2 (pc := 0) hx hb hown (hts _ (List.mem_cons_of_mem _ kw_373)) d_xWriter_decimalNextTo_0 ?_
  refine lv_lload_n (pc := 3) hx hb d_xWriter_decimalNextTo_3 rfl (lv_at hl 0 rfl) ?_
  refine lv_lmul (pc := 4) hx hb d_xWriter_decimalNextTo_4 ?_
  refine lv_iload_n (pc := 5) hx hb d_xWriter_decimalNextTo_5 rfl (lv_at hl 1 rfl) ?_
  obtain ⟨r6, hz, hf⟩ := kb1_some hf
  have hPc := hP.sub (ws' := []) [] rfl
  have hDc := hD.sub (ws' := []) [] (by decide) rfl
  have hKc := hK.sub (tys' := []) [] rfl
  have hFc := va_free (wc := []) hD hS hA [] rfl
  refine va_calll (pc := 6) (va_runS (As := [.int x2]) (rest := [.long ((2 : Int64) * x0)]) ⟨hx, hb, hml, hown, hts⟩ (ct_xWriter_tens l dC dI _ tt x2 r6 hz) (va_cwS 1 hts (kw_in3 kw_374 kw_375 kw_18 kw_376) rfl rfl rfl (by decide +kernel) ⟨Nat.le_of_ble_eq_true rfl, Nat.le_of_ble_eq_true rfl⟩) (ke_pre hPc hKc hDc hE hS hFc) rfl rfl hl.1 rfl (lv_room (Nat.le_of_ble_eq_true rfl)) d_xWriter_decimalNextTo_6 ⟨Nat.le_of_ble_eq_true rfl, Nat.le_of_ble_eq_true rfl⟩) hS (fun q _ h => hFc q h) hFc (fun r9 u t H1 locs ht hvm hw hB hz1 hk1 hS => ?_)
  obtain ⟨hP1, hK1, hD1⟩ := hB
  rw [ht] at hP1
  have hw := hw.symm
  subst hw
  obtain ⟨hP, hD⟩ := va_join (wr := []) (w1 := []) hP hD [] [] rfl rfl (by decide) (by decide) hk1 hFc hP1 hD1
  have hP := hP.sub (ws' := []) [] rfl
  have hD := hD.sub (ws' := []) [] (by decide) rfl
  clear hP1 hK1 hD1 hk1 hPc hDc hKc hFc hz1 hvm ht hz
  generalize H1 = H at hP hS ⊢
  refine lv_lmul (pc := 9) hx hb d_xWriter_decimalNextTo_9 ?_
  refine lv_ldc2 (pc := 10) hx hb hown (hts _ (List.mem_cons_of_mem _ kw_378)) d_xWriter_decimalNextTo_10 ?_
  refine lv_ladd (pc := 13) hx hb d_xWriter_decimalNextTo_13 ?_
  refine lv_lconst (pc := 14) (v := (1 : Int64)) hx hb d_xWriter_decimalNextTo_14 (by decide) ?_
  refine lv_lsub (pc := 15) hx hb d_xWriter_decimalNextTo_15 ?_
  refine lv_ldc2 (pc := 16) hx hb hown (hts _ (List.mem_cons_of_mem _ kw_379)) d_xWriter_decimalNextTo_16 ?_
  obtain ⟨r19, hz, hf⟩ := kb1_some hf
  have hPc := hP.sub (ws' := []) [] rfl
  have hDc := hD.sub (ws' := []) [] (by decide) rfl
  have hKc := hK.sub (tys' := []) [] rfl
  have hFc := va_free (wc := []) hD hS hA [] rfl
  refine va_calll (pc := 19) (va_runS (As := [.long (((((2 : Int64) * x0) * r6) + (256 : Int64)) - (1 : Int64)), .long (512 : Int64)]) (rest := []) ⟨hx, hb, hml, hown, hts⟩ (ct_jMath_floorDiv l dC dI _ (((((2 : Int64) * x0) * r6) + (256 : Int64)) - (1 : Int64)) (512 : Int64) r19 hz) (va_cwS 2 hts (kw_in3 kw_380 kw_268 kw_15 kw_269) rfl rfl rfl (by decide +kernel) ⟨Nat.le_of_ble_eq_true rfl, Nat.le_of_ble_eq_true rfl⟩) (kx_pre hPc hKc hDc) rfl rfl hl.1 rfl (lv_room (Nat.le_of_ble_eq_true rfl)) d_xWriter_decimalNextTo_19 ⟨Nat.le_of_ble_eq_true rfl, Nat.le_of_ble_eq_true rfl⟩) hS (fun q _ h => hFc q h) hFc (fun r9 u t H1 locs ht hvm hw hB hz1 hk1 hS => ?_)
  obtain ⟨hP1, hK1, hD1⟩ := hB
  rw [ht] at hP1
  have hw := hw.symm
  subst hw
  obtain ⟨hP, hD⟩ := va_join (wr := []) (w1 := []) hP hD [] [] rfl rfl (by decide) (by decide) hk1 hFc hP1 hD1
  have hP := hP.sub (ws' := []) [] rfl
  have hD := hD.sub (ws' := []) [] (by decide) rfl
  clear hP1 hK1 hD1 hk1 hPc hDc hKc hFc hz1 hvm ht hz
  generalize H1 = H at hP hS ⊢
  have e_0 := kr1 hf
  rw [e_0]
  exact hRet 22 _ _ _ d_xWriter_decimalNextTo_22 hP hD hS
set_option maxHeartbeats 4000000 in
set_option maxRecDepth 100000 in
theorem ct_xWriter_putWhole (l : Launch) (dC : Nat → ClassId) (dI : Nat → Nat → Nat) (q_p2 : Nat) (q_p2_characters : Nat) (k_p2_characters : ClassId) (sz : Nat) (tt : Nat) (N : Nat) (n_p2_characters : Nat) (x0 : Int64) (v_p2_length : Int32) (c_p2_characters : (Nat → Int32)) (v_p2_length_z : Int32) (c_p2_characters_z : (Nat → Int32)) (hf : xWriter_putWhole N n_p2_characters x0 v_p2_length c_p2_characters = some (v_p2_length_z, c_p2_characters_z)) : Met l y_xWriter_putWhole w_xWriter_putWhole ({ frames := 2, cells := 0, slots := 0, locals := 45 }) (va_Pc [.long x0, .ref q_p2] (fun U => U.heap.size = sz ∧ va_P (dC, dI) clz [(q_p2, .inr (5, f_Row q_p2_characters v_p2_length)), (q_p2_characters, .inl (k_p2_characters, n_p2_characters, .inl c_p2_characters))] U.heap ∧ va_K (dC, dI) clz [(k_p2_characters, .char)] U ∧ va_D (fun _ => True) [(q_p2, .inr (5, f_Row q_p2_characters v_p2_length)), (q_p2_characters, .inl (k_p2_characters, n_p2_characters, .inl c_p2_characters))] ∧ ke tt (va_A [(q_p2, .inr (5, f_Row q_p2_characters v_p2_length)), (q_p2_characters, .inl (k_p2_characters, n_p2_characters, .inl c_p2_characters))] sz) U)) (va_Qv (fun _ : Unit => True) (fun _ t => va_P (dC, dI) clz [(q_p2, .inr (5, f_Row q_p2_characters v_p2_length_z)), (q_p2_characters, .inl (k_p2_characters, n_p2_characters, .inl c_p2_characters_z))] t.heap ∧ va_K (dC, dI) clz [(k_p2_characters, .char)] t ∧ va_D (va_A [(q_p2, .inr (5, f_Row q_p2_characters v_p2_length)), (q_p2_characters, .inl (k_p2_characters, n_p2_characters, .inl c_p2_characters))] sz) [(q_p2, .inr (5, f_Row q_p2_characters v_p2_length_z)), (q_p2_characters, .inl (k_p2_characters, n_p2_characters, .inl c_p2_characters_z))]) (va_A [(q_p2, .inr (5, f_Row q_p2_characters v_p2_length)), (q_p2_characters, .inl (k_p2_characters, n_p2_characters, .inl c_p2_characters))] sz)) 0 0 (va_A [(q_p2, .inr (5, f_Row q_p2_characters v_p2_length)), (q_p2_characters, .inl (k_p2_characters, n_p2_characters, .inl c_p2_characters))] sz) := by
  refine Met.ofW (cc := prog_8_method_8_code) (maxL := 4) (ret := none) (by decide +kernel) rfl ?_
  intro p e s m args below meth c s₁ B hml hv
  obtain ⟨hargs, hsz, hP, hK, hD0, hE⟩ := hv
  have hx := B.exec
  have hb := B.bytes
  have hr := B.returns
  have hts := atoms_spec (ws := w_xWriter_putWhole) B.pre
  have hown : s.vm.findClass "PathTexts$Writer" = some m.cls := findClass_of_methodNamed B.named
  have hlocks := B.notSynchronized
  subst hsz
  have hD := hD0.self (sz := s.heap.size)
  generalize hAe : va_A [(q_p2, .inr (5, f_Row q_p2_characters v_p2_length)), (q_p2_characters, .inl (k_p2_characters, n_p2_characters, .inl c_p2_characters))] s.heap.size = A at hD hE ⊢
  have hA : ∀ q : Nat, s.heap.size ≤ q → A q := fun q h => by rw [← hAe]; exact Or.inr h
  clear hAe hD0
  have hS : va_S A s.heap s.heap [] := va_S.rf
  have hl := lv_entry ([.long x0, .ref q_p2]) (n := 4) (Nat.le_of_ble_eq_true rfl)
  have hent : entryFrame m args 4 = F0 m 0 (lg_sl ([.long x0, .ref q_p2]) ++ List.replicate (4 - (lg_sl ([.long x0, .ref q_p2])).length) Slot.unset).toArray [] := by rw [hargs, lg_entry_eq]
  rw [hent]
  clear hent hargs
  generalize (lg_sl ([.long x0, .ref q_p2]) ++ List.replicate (4 - (lg_sl ([.long x0, .ref q_p2])).length) Slot.unset).toArray = ls at hl ⊢
  have hl : lv_has ls 4 [(0, .long x0), (2, .ref q_p2)] := hl
  suffices key : ∀ Q : State → Prop, (∀ (pc : Nat) (H : Heap) (locs : List Loc) (ls : Array Slot), decode prog_8_method_8_code pc = .ok (.return_, 1) → va_P (dC, dI) clz [(q_p2, .inr (5, f_Row q_p2_characters v_p2_length_z)), (q_p2_characters, .inl (k_p2_characters, n_p2_characters, .inl c_p2_characters_z))] H → va_D A [(q_p2, .inr (5, f_Row q_p2_characters v_p2_length_z)), (q_p2_characters, .inl (k_p2_characters, n_p2_characters, .inl c_p2_characters_z))] → va_S A s.heap H locs → W p l e (headSpec w_xWriter_putWhole ({ frames := 2, cells := 0, slots := 0, locals := 45 })).room s m args below meth c H locs 0 0 Q (F0 m pc ls [])) → W p l e (headSpec w_xWriter_putWhole ({ frames := 2, cells := 0, slots := 0, locals := 45 })).room s m args below meth c s.heap [] 0 0 Q (F0 m 0 ls []) from key _ (fun pc H locs ls hd hP hD hS => W.vret hx hb hr (fun t ht hW => ⟨⟨(), rfl, trivial, by rw [ht]; exact hP, va_K.moved hW.alike hK, hD⟩, hS.F ht⟩) hS.2.2 hd)
  intro Q hRet
  have hb23 : ∀ (x0 : Int64) (x3 : Int32) (v_p2_length : Int32) (c_p2_characters : (Nat → Int32)) (H : Heap) (locs : List Loc) (ls : Array Slot), xWriter_putWhole_b23 N n_p2_characters x0 x3 v_p2_length c_p2_characters = some (v_p2_length_z, c_p2_characters_z) → va_P (dC, dI) clz [(q_p2, .inr (5, f_Row q_p2_characters v_p2_length)), (q_p2_characters, .inl (k_p2_characters, n_p2_characters, .inl c_p2_characters))] H → va_D A [(q_p2, .inr (5, f_Row q_p2_characters v_p2_length)), (q_p2_characters, .inl (k_p2_characters, n_p2_characters, .inl c_p2_characters))] → va_S A s.heap H locs → lv_has ls 4 [(0, .long x0), (2, .ref q_p2), (3, .int x3)] → W p l e (headSpec w_xWriter_putWhole ({ frames := 2, cells := 0, slots := 0, locals := 45 })).room s m args below meth c H locs 0 0 Q (F0 m 23 ls []) := by
    intro x0 x3 v_p2_length c_p2_characters H locs ls hf hP hD hS hl
    rw [xWriter_putWhole_b23] at hf
    refine lv_lload_n (pc := 23) hx hb d_xWriter_putWhole_23 rfl (lv_at hl 0 rfl) ?_
    refine lv_iload_n (pc := 24) hx hb d_xWriter_putWhole_24 rfl (lv_at hl 2 rfl) ?_
    refine lv_aload_n (pc := 25) hx hb d_xWriter_putWhole_25 rfl (lv_at hl 1 rfl) ?_
    obtain ⟨v_p2_length_26, c_p2_characters_26, hz, hf⟩ := kb2_some hf
    have hPc := hP.sub (ws' := [(q_p2, .inr (5, f_Row q_p2_characters v_p2_length)), (q_p2_characters, .inl (k_p2_characters, n_p2_characters, .inl c_p2_characters))]) [0, 1] rfl
    have hDc := hD.sub (ws' := [(q_p2, .inr (5, f_Row q_p2_characters v_p2_length)), (q_p2_characters, .inl (k_p2_characters, n_p2_characters, .inl c_p2_characters))]) [0, 1] (by decide) rfl
    have hKc := hK.sub (tys' := [(k_p2_characters, .char)]) [0] rfl
    have hFc := va_free (wc := [(q_p2, .inr (5, f_Row q_p2_characters v_p2_length)), (q_p2_characters, .inl (k_p2_characters, n_p2_characters, .inl c_p2_characters))]) hD hS hA [0, 1] rfl
    refine va_callv (pc := 26) (va_runS (As := [.long x0, .int x3, .ref q_p2]) (rest := []) ⟨hx, hb, hml, hown, hts⟩ (ct_xWriter_putDigits l dC dI q_p2 q_p2_characters k_p2_characters _ tt N n_p2_characters x0 x3 v_p2_length c_p2_characters v_p2_length_26 c_p2_characters_26 hz) (va_cwS 3 hts (kw_in3 kw_385 kw_386 kw_18 kw_387) rfl rfl rfl (by decide +kernel) ⟨Nat.le_of_ble_eq_true rfl, Nat.le_of_ble_eq_true rfl⟩) (ke_pre hPc hKc hDc hE hS hFc) rfl rfl hl.1 rfl (lv_room (Nat.le_of_ble_eq_true rfl)) d_xWriter_putWhole_26 ⟨Nat.le_of_ble_eq_true rfl, Nat.le_of_ble_eq_true rfl⟩) hS (fun q _ h => hFc q h) hFc (fun u t H1 locs ht hvm hw hB hz1 hk1 hS => ?_)
    obtain ⟨hP1, hK1, hD1⟩ := hB
    rw [ht] at hP1
    obtain ⟨hP, hD⟩ := va_join (wr := []) (w1 := [(q_p2, .inr (5, f_Row q_p2_characters v_p2_length_26)), (q_p2_characters, .inl (k_p2_characters, n_p2_characters, .inl c_p2_characters_26))]) hP hD [0, 1] [] rfl rfl (by decide) (by decide) hk1 hFc hP1 hD1
    have hP := hP.sub (ws' := [(q_p2, .inr (5, f_Row q_p2_characters v_p2_length_26)), (q_p2_characters, .inl (k_p2_characters, n_p2_characters, .inl c_p2_characters_26))]) [0, 1] rfl
    have hD := hD.sub (ws' := [(q_p2, .inr (5, f_Row q_p2_characters v_p2_length_26)), (q_p2_characters, .inl (k_p2_characters, n_p2_characters, .inl c_p2_characters_26))]) [0, 1] (by decide) rfl
    clear hP1 hK1 hD1 hk1 hPc hDc hKc hFc hz1 hvm ht hz
    generalize H1 = H at hP hS ⊢
    obtain ⟨e_0, e_1⟩ := kr2 hf
    exact hRet 29 _ _ _ d_xWriter_putWhole_29 (by rw [← e_0, ← e_1]; exact hP) (by rw [← e_0, ← e_1]; exact hD) hS
  have hB2 : ∀ (k2 : Int64 → Int32 → Int32 → (Nat → Int32) → Option (Int32 × (Nat → Int32))), (∀ (x0 : Int64) (x3 : Int32) (v_p2_length : Int32) (c_p2_characters : (Nat → Int32)) (H : Heap) (locs : List Loc) (ls : Array Slot), k2 x0 x3 v_p2_length c_p2_characters = some (v_p2_length_z, c_p2_characters_z) → va_P (dC, dI) clz [(q_p2, .inr (5, f_Row q_p2_characters v_p2_length)), (q_p2_characters, .inl (k_p2_characters, n_p2_characters, .inl c_p2_characters))] H → va_D A [(q_p2, .inr (5, f_Row q_p2_characters v_p2_length)), (q_p2_characters, .inl (k_p2_characters, n_p2_characters, .inl c_p2_characters))] → va_S A s.heap H locs → lv_has ls 4 [(0, .long x0), (2, .ref q_p2), (3, .int x3)] → W p l e (headSpec w_xWriter_putWhole ({ frames := 2, cells := 0, slots := 0, locals := 45 })).room s m args below meth c H locs 0 0 Q (F0 m 2 ls [])) → ∀ (x0 : Int64) (x3 : Int32) (v_p2_length : Int32) (c_p2_characters : (Nat → Int32)) (H : Heap) (locs : List Loc) (ls : Array Slot), xWriter_putWhole_B2 N n_p2_characters k2 x0 x3 v_p2_length c_p2_characters = some (v_p2_length_z, c_p2_characters_z) → va_P (dC, dI) clz [(q_p2, .inr (5, f_Row q_p2_characters v_p2_length)), (q_p2_characters, .inl (k_p2_characters, n_p2_characters, .inl c_p2_characters))] H → va_D A [(q_p2, .inr (5, f_Row q_p2_characters v_p2_length)), (q_p2_characters, .inl (k_p2_characters, n_p2_characters, .inl c_p2_characters))] → va_S A s.heap H locs → lv_has ls 4 [(0, .long x0), (2, .ref q_p2), (3, .int x3)] → W p l e (headSpec w_xWriter_putWhole ({ frames := 2, cells := 0, slots := 0, locals := 45 })).room s m args below meth c H locs 0 0 Q (F0 m 2 ls []) := by
    intro k2 hk2
    intro x0 x3 v_p2_length c_p2_characters H locs ls hf hP hD hS hl
    rw [xWriter_putWhole_B2] at hf
    refine lv_iload_n (pc := 2) hx hb d_xWriter_putWhole_2 rfl (lv_at hl 2 rfl) ?_
    refine lv_bipush (pc := 3) (v := (9 : Int32)) hx hb d_xWriter_putWhole_3 (by decide) ?_
    refine lv_icmp_ge (pc := 5) (tgt := 23) hx hb d_xWriter_putWhole_5 (by decide) (fun hc => ?_) (fun hc => ?_)
    · rw [if_pos hc] at hf
      exact hb23 x0 x3 v_p2_length c_p2_characters _ _ _ hf hP hD hS (lv_sub hl [0, 1, 2] rfl)
    · rw [if_neg hc] at hf
      refine lv_lload_n (pc := 8) hx hb d_xWriter_putWhole_8 rfl (lv_at hl 0 rfl) ?_
      refine lv_iload_n (pc := 9) hx hb d_xWriter_putWhole_9 rfl (lv_at hl 2 rfl) ?_
      obtain ⟨r10, hz, hf⟩ := kb1_some hf
      have hPc := hP.sub (ws' := []) [] rfl
      have hDc := hD.sub (ws' := []) [] (by decide) rfl
      have hKc := hK.sub (tys' := []) [] rfl
      have hFc := va_free (wc := []) hD hS hA [] rfl
      refine va_calll (pc := 10) (va_runS (As := [.int x3]) (rest := [.long x0]) ⟨hx, hb, hml, hown, hts⟩ (ct_xWriter_tens l dC dI _ tt x3 r10 hz) (va_cwS 1 hts (kw_in3 kw_374 kw_375 kw_18 kw_376) rfl rfl rfl (by decide +kernel) ⟨Nat.le_of_ble_eq_true rfl, Nat.le_of_ble_eq_true rfl⟩) (ke_pre hPc hKc hDc hE hS hFc) rfl rfl hl.1 rfl (lv_room (Nat.le_of_ble_eq_true rfl)) d_xWriter_putWhole_10 ⟨Nat.le_of_ble_eq_true rfl, Nat.le_of_ble_eq_true rfl⟩) hS (fun q _ h => hFc q h) hFc (fun r9 u t H1 locs ht hvm hw hB hz1 hk1 hS => ?_)
      obtain ⟨hP1, hK1, hD1⟩ := hB
      rw [ht] at hP1
      have hw := hw.symm
      subst hw
      obtain ⟨hP, hD⟩ := va_join (wr := [(q_p2, .inr (5, f_Row q_p2_characters v_p2_length)), (q_p2_characters, .inl (k_p2_characters, n_p2_characters, .inl c_p2_characters))]) (w1 := []) hP hD [] [0, 1] rfl rfl (by decide) (by decide) hk1 hFc hP1 hD1
      have hP := hP.sub (ws' := [(q_p2, .inr (5, f_Row q_p2_characters v_p2_length)), (q_p2_characters, .inl (k_p2_characters, n_p2_characters, .inl c_p2_characters))]) [0, 1] rfl
      have hD := hD.sub (ws' := [(q_p2, .inr (5, f_Row q_p2_characters v_p2_length)), (q_p2_characters, .inl (k_p2_characters, n_p2_characters, .inl c_p2_characters))]) [0, 1] (by decide) rfl
      clear hP1 hK1 hD1 hk1 hPc hDc hKc hFc hz1 hvm ht hz
      generalize H1 = H at hP hS ⊢
      refine kx_lclt (pc := 13) (tgt := 23) hx hb d_xWriter_putWhole_13 d_xWriter_putWhole_14 (by decide) (fun hc => ?_) (fun hc => ?_)
      · rw [if_pos hc] at hf
        exact hb23 x0 x3 v_p2_length c_p2_characters _ _ _ hf hP hD hS (lv_sub hl [0, 1, 2] rfl)
      · rw [if_neg hc] at hf
        refine lv_iinc (pc := 17) (v := (x3 + (1 : Int32))) (lv' := [(3, .int (x3 + (1 : Int32))), (0, .long x0), (2, .ref q_p2)]) hx hb d_xWriter_putWhole_17 hl (k := 2) rfl rfl (by decide) rfl (fun ls hl => ?_)
        refine lv_goto (pc := 20) (tgt := 2) hx hb d_xWriter_putWhole_20 (by decide) ?_
        exact hk2 x0 (x3 + (1 : Int32)) v_p2_length c_p2_characters _ _ _ hf hP hD hS (lv_sub hl [1, 2, 0] rfl)
  have hL2 : ∀ n : Nat, ∀ (x0 : Int64) (x3 : Int32) (v_p2_length : Int32) (c_p2_characters : (Nat → Int32)) (H : Heap) (locs : List Loc) (ls : Array Slot), (xWriter_putWhole_L2 N n_p2_characters n) x0 x3 v_p2_length c_p2_characters = some (v_p2_length_z, c_p2_characters_z) → va_P (dC, dI) clz [(q_p2, .inr (5, f_Row q_p2_characters v_p2_length)), (q_p2_characters, .inl (k_p2_characters, n_p2_characters, .inl c_p2_characters))] H → va_D A [(q_p2, .inr (5, f_Row q_p2_characters v_p2_length)), (q_p2_characters, .inl (k_p2_characters, n_p2_characters, .inl c_p2_characters))] → va_S A s.heap H locs → lv_has ls 4 [(0, .long x0), (2, .ref q_p2), (3, .int x3)] → W p l e (headSpec w_xWriter_putWhole ({ frames := 2, cells := 0, slots := 0, locals := 45 })).room s m args below meth c H locs 0 0 Q (F0 m 2 ls []) := by
    intro n
    induction n with
    | zero => intro x0 x3 v_p2_length c_p2_characters H locs ls hf hP hD hS hl; have hf : none = some (v_p2_length_z, c_p2_characters_z) := hf; cases hf
    | succ n ih => exact hB2 (xWriter_putWhole_L2 N n_p2_characters n) ih
  rw [xWriter_putWhole] at hf
  refine lv_iconst (pc := 0) (v := (1 : Int32)) hx hb d_xWriter_putWhole_0 (by decide) ?_
  refine lv_istore_n (pc := 1) (lv' := [(3, .int (1 : Int32)), (0, .long x0), (2, .ref q_p2)]) hx hb d_xWriter_putWhole_1 rfl hl (by decide) rfl (fun ls hl => ?_)
  exact hL2 N x0 (1 : Int32) v_p2_length c_p2_characters _ _ _ hf hP hD hS (lv_sub hl [1, 2, 0] rfl)
set_option maxHeartbeats 4000000 in
set_option maxRecDepth 100000 in
theorem ct_xCover_addCrossings (l : Launch) (dC : Nat → ClassId) (dI : Nat → Nat → Nat) (q_o : Nat) (q_o_squares : Nat) (q_o_changes : Nat) (k_o_changes : ClassId) (sz : Nat) (N : Nat) (x1 : Int64) (x3 : Int64) (x5 : Int64) (x7 : Int64) (x9 : Int32) (v_o_width : Int32) (v_o_height : Int32) (v_o_top : Int64) (v_o_x : Int64) (v_o_y : Int64) (v_o_startX : Int64) (v_o_startY : Int64) (c_o_changes : (Nat → Int32)) (c_o_changes_z : (Nat → Int32)) (hf : xCover_addCrossings N x1 x3 x5 x7 x9 v_o_top c_o_changes = some c_o_changes_z) : Met l y_xCover_addCrossings w_xCover_addCrossings ({ frames := 1, cells := 0, slots := 0, locals := 25 }) (va_Pc [.ref q_o, .long x1, .long x3, .long x5, .long x7, .int x9] (fun U => U.heap.size = sz ∧ va_P (dC, dI) clz [(q_o, .inr (0, f_Cover q_o_squares q_o_changes v_o_width v_o_height v_o_top v_o_x v_o_y v_o_startX v_o_startY)), (q_o_changes, .inl (k_o_changes, 2048, .inl c_o_changes))] U.heap ∧ va_K (dC, dI) clz [(k_o_changes, .int)] U ∧ va_D (fun _ => True) [(q_o, .inr (0, f_Cover q_o_squares q_o_changes v_o_width v_o_height v_o_top v_o_x v_o_y v_o_startX v_o_startY)), (q_o_changes, .inl (k_o_changes, 2048, .inl c_o_changes))])) (va_Qv (fun _ : Unit => True) (fun _ t => va_P (dC, dI) clz [(q_o, .inr (0, f_Cover q_o_squares q_o_changes v_o_width v_o_height v_o_top v_o_x v_o_y v_o_startX v_o_startY)), (q_o_changes, .inl (k_o_changes, 2048, .inl c_o_changes_z))] t.heap ∧ va_K (dC, dI) clz [(k_o_changes, .int)] t ∧ va_D (va_A [(q_o, .inr (0, f_Cover q_o_squares q_o_changes v_o_width v_o_height v_o_top v_o_x v_o_y v_o_startX v_o_startY)), (q_o_changes, .inl (k_o_changes, 2048, .inl c_o_changes))] sz) [(q_o, .inr (0, f_Cover q_o_squares q_o_changes v_o_width v_o_height v_o_top v_o_x v_o_y v_o_startX v_o_startY)), (q_o_changes, .inl (k_o_changes, 2048, .inl c_o_changes_z))]) (va_A [(q_o, .inr (0, f_Cover q_o_squares q_o_changes v_o_width v_o_height v_o_top v_o_x v_o_y v_o_startX v_o_startY)), (q_o_changes, .inl (k_o_changes, 2048, .inl c_o_changes))] sz)) 0 0 (va_A [(q_o, .inr (0, f_Cover q_o_squares q_o_changes v_o_width v_o_height v_o_top v_o_x v_o_y v_o_startX v_o_startY)), (q_o_changes, .inl (k_o_changes, 2048, .inl c_o_changes))] sz) := by
  refine Met.ofW (cc := prog_2_method_7_code) (maxL := 20) (ret := none) (by decide +kernel) rfl ?_
  intro p e s m args below meth c s₁ B hml hv
  obtain ⟨hargs, hsz, hP, hK, hD0⟩ := hv
  have hx := B.exec
  have hb := B.bytes
  have hr := B.returns
  have hts := atoms_spec (ws := w_xCover_addCrossings) B.pre
  have hown : s.vm.findClass "PathTexts$Cover" = some m.cls := findClass_of_methodNamed B.named
  have hlocks := B.notSynchronized
  subst hsz
  have hD := hD0.self (sz := s.heap.size)
  generalize hAe : va_A [(q_o, .inr (0, f_Cover q_o_squares q_o_changes v_o_width v_o_height v_o_top v_o_x v_o_y v_o_startX v_o_startY)), (q_o_changes, .inl (k_o_changes, 2048, .inl c_o_changes))] s.heap.size = A at hD ⊢
  have hA : ∀ q : Nat, s.heap.size ≤ q → A q := fun q h => by rw [← hAe]; exact Or.inr h
  clear hAe hD0
  have hS : va_S A s.heap s.heap [] := va_S.rf
  have hl := lv_entry ([.ref q_o, .long x1, .long x3, .long x5, .long x7, .int x9]) (n := 20) (Nat.le_of_ble_eq_true rfl)
  have hent : entryFrame m args 20 = F0 m 0 (lg_sl ([.ref q_o, .long x1, .long x3, .long x5, .long x7, .int x9]) ++ List.replicate (20 - (lg_sl ([.ref q_o, .long x1, .long x3, .long x5, .long x7, .int x9])).length) Slot.unset).toArray [] := by rw [hargs, lg_entry_eq]
  rw [hent]
  clear hent hargs
  generalize (lg_sl ([.ref q_o, .long x1, .long x3, .long x5, .long x7, .int x9]) ++ List.replicate (20 - (lg_sl ([.ref q_o, .long x1, .long x3, .long x5, .long x7, .int x9])).length) Slot.unset).toArray = ls at hl ⊢
  have hl : lv_has ls 20 [(0, .ref q_o), (1, .long x1), (3, .long x3), (5, .long x5), (7, .long x7), (9, .int x9)] := hl
  suffices key : ∀ Q : State → Prop, (∀ (pc : Nat) (H : Heap) (locs : List Loc) (ls : Array Slot), decode prog_2_method_7_code pc = .ok (.return_, 1) → va_P (dC, dI) clz [(q_o, .inr (0, f_Cover q_o_squares q_o_changes v_o_width v_o_height v_o_top v_o_x v_o_y v_o_startX v_o_startY)), (q_o_changes, .inl (k_o_changes, 2048, .inl c_o_changes_z))] H → va_D A [(q_o, .inr (0, f_Cover q_o_squares q_o_changes v_o_width v_o_height v_o_top v_o_x v_o_y v_o_startX v_o_startY)), (q_o_changes, .inl (k_o_changes, 2048, .inl c_o_changes_z))] → va_S A s.heap H locs → W p l e (headSpec w_xCover_addCrossings ({ frames := 1, cells := 0, slots := 0, locals := 25 })).room s m args below meth c H locs 0 0 Q (F0 m pc ls [])) → W p l e (headSpec w_xCover_addCrossings ({ frames := 1, cells := 0, slots := 0, locals := 25 })).room s m args below meth c s.heap [] 0 0 Q (F0 m 0 ls []) from key _ (fun pc H locs ls hd hP hD hS => W.vret hx hb hr (fun t ht hW => ⟨⟨(), rfl, trivial, by rw [ht]; exact hP, va_K.moved hW.alike hK, hD⟩, hS.F ht⟩) hS.2.2 hd)
  intro Q hRet
  have hB45 : ∀ (k45 : Int64 → Int64 → Int64 → Int32 → Int64 → Int32 → Int32 → Int64 → (Nat → Int32) → Option ((Nat → Int32))), (∀ (x1 : Int64) (x3 : Int64) (x5 : Int64) (x9 : Int32) (x10 : Int64) (x13 : Int32) (x14 : Int32) (c_o_changes : (Nat → Int32)) (H : Heap) (locs : List Loc) (ls : Array Slot), k45 x1 x3 x5 x9 x10 x13 x14 v_o_top c_o_changes = some c_o_changes_z → va_P (dC, dI) clz [(q_o, .inr (0, f_Cover q_o_squares q_o_changes v_o_width v_o_height v_o_top v_o_x v_o_y v_o_startX v_o_startY)), (q_o_changes, .inl (k_o_changes, 2048, .inl c_o_changes))] H → va_D A [(q_o, .inr (0, f_Cover q_o_squares q_o_changes v_o_width v_o_height v_o_top v_o_x v_o_y v_o_startX v_o_startY)), (q_o_changes, .inl (k_o_changes, 2048, .inl c_o_changes))] → va_S A s.heap H locs → lv_has ls 20 [(0, .ref q_o), (1, .long x1), (3, .long x3), (5, .long x5), (9, .int x9), (10, .long x10), (13, .int x13), (14, .int x14)] → W p l e (headSpec w_xCover_addCrossings ({ frames := 1, cells := 0, slots := 0, locals := 25 })).room s m args below meth c H locs 0 0 Q (F0 m 45 ls [])) → ∀ (x1 : Int64) (x3 : Int64) (x5 : Int64) (x9 : Int32) (x10 : Int64) (x13 : Int32) (x14 : Int32) (c_o_changes : (Nat → Int32)) (H : Heap) (locs : List Loc) (ls : Array Slot), xCover_addCrossings_B45 N k45 x1 x3 x5 x9 x10 x13 x14 v_o_top c_o_changes = some c_o_changes_z → va_P (dC, dI) clz [(q_o, .inr (0, f_Cover q_o_squares q_o_changes v_o_width v_o_height v_o_top v_o_x v_o_y v_o_startX v_o_startY)), (q_o_changes, .inl (k_o_changes, 2048, .inl c_o_changes))] H → va_D A [(q_o, .inr (0, f_Cover q_o_squares q_o_changes v_o_width v_o_height v_o_top v_o_x v_o_y v_o_startX v_o_startY)), (q_o_changes, .inl (k_o_changes, 2048, .inl c_o_changes))] → va_S A s.heap H locs → lv_has ls 20 [(0, .ref q_o), (1, .long x1), (3, .long x3), (5, .long x5), (9, .int x9), (10, .long x10), (13, .int x13), (14, .int x14)] → W p l e (headSpec w_xCover_addCrossings ({ frames := 1, cells := 0, slots := 0, locals := 25 })).room s m args below meth c H locs 0 0 Q (F0 m 45 ls []) := by
    intro k45 hk45
    intro x1 x3 x5 x9 x10 x13 x14 c_o_changes H locs ls hf hP hD hS hl
    rw [xCover_addCrossings_B45] at hf
    refine lv_iload (pc := 45) hx hb d_xCover_addCrossings_45 (lv_at hl 7 rfl) ?_
    refine lv_iload (pc := 47) hx hb d_xCover_addCrossings_47 (lv_at hl 6 rfl) ?_
    refine lv_icmp_ge (pc := 49) (tgt := 132) hx hb d_xCover_addCrossings_49 (by decide) (fun hc => ?_) (fun hc => ?_)
    · rw [if_pos hc] at hf
      have e_0 := kr1 hf
      exact hRet 132 _ _ _ d_xCover_addCrossings_132 (by rw [← e_0]; exact hP) (by rw [← e_0]; exact hD) hS
    · rw [if_neg hc] at hf
      refine lv_aload_n (pc := 52) hx hb d_xCover_addCrossings_52 rfl (lv_at hl 0 rfl) ?_
      refine va_get (pc := 53) (D := (dC, dI)) (ci := 0) (v := .long v_o_top) (C := "PathTexts$Cover") (T := F_Cover) (N := 9) hx hb hts (fun w h => List.mem_cons_of_mem _ (in_Cover w h)) hown hK hP 0 rfl rfl 4 (by decide) (hts _ (List.mem_cons_of_mem _ kw_135)) (fun _ h9 => h9) fg_Cover_4 d_xCover_addCrossings_53 ?_
      refine lv_ldc2 (pc := 56) hx hb hown (hts _ (List.mem_cons_of_mem _ kw_640)) d_xCover_addCrossings_56 ?_
      refine lv_ladd (pc := 59) hx hb d_xCover_addCrossings_59 ?_
      refine lv_ldc2 (pc := 60) hx hb hown (hts _ (List.mem_cons_of_mem _ kw_641)) d_xCover_addCrossings_60 ?_
      refine lv_iload (pc := 63) hx hb d_xCover_addCrossings_63 (lv_at hl 7 rfl) ?_
      refine lv_i2l (pc := 65) hx hb d_xCover_addCrossings_65 rfl ?_
      refine lv_lmul (pc := 66) hx hb d_xCover_addCrossings_66 ?_
      refine lv_ladd (pc := 67) hx hb d_xCover_addCrossings_67 ?_
      refine lv_lload_n (pc := 68) hx hb d_xCover_addCrossings_68 rfl (lv_at hl 2 rfl) ?_
      refine lv_lsub (pc := 69) hx hb d_xCover_addCrossings_69 ?_
      refine lv_lstore (pc := 70) (lv' := [(15, .long (((v_o_top + (8 : Int64)) + ((16 : Int64) * (Int32.toInt64 x14))) - x3)), (0, .ref q_o), (1, .long x1), (3, .long x3), (5, .long x5), (9, .int x9), (10, .long x10), (13, .int x13), (14, .int x14)]) hx hb d_xCover_addCrossings_70 hl (by decide) rfl (fun ls hl => ?_)
      refine lv_lload_n (pc := 72) hx hb d_xCover_addCrossings_72 rfl (lv_at hl 2 rfl) ?_
      refine lv_lload (pc := 73) hx hb d_xCover_addCrossings_73 (lv_at hl 0 rfl) ?_
      refine lv_lneg (pc := 75) hx hb d_xCover_addCrossings_75 ?_
      refine lv_lload (pc := 76) hx hb d_xCover_addCrossings_76 (lv_at hl 4 rfl) ?_
      refine lv_lload_n (pc := 78) hx hb d_xCover_addCrossings_78 rfl (lv_at hl 2 rfl) ?_
      refine lv_lsub (pc := 79) hx hb d_xCover_addCrossings_79 ?_
      refine lv_lmul (pc := 80) hx hb d_xCover_addCrossings_80 ?_
      refine lv_lload (pc := 81) hx hb d_xCover_addCrossings_81 (lv_at hl 6 rfl) ?_
      obtain ⟨r83, hz, hf⟩ := kb1_some hf
      have hPc := hP.sub (ws' := []) [] rfl
      have hDc := hD.sub (ws' := []) [] (by decide) rfl
      have hKc := hK.sub (tys' := []) [] rfl
      have hFc := va_free (wc := []) hD hS hA [] rfl
      refine va_calll (pc := 83) (va_runS (As := [.long ((-(((v_o_top + (8 : Int64)) + ((16 : Int64) * (Int32.toInt64 x14))) - x3)) * (x5 - x1)), .long x10]) (rest := [.long x1]) ⟨hx, hb, hml, hown, hts⟩ (ct_jMath_floorDiv l dC dI _ ((-(((v_o_top + (8 : Int64)) + ((16 : Int64) * (Int32.toInt64 x14))) - x3)) * (x5 - x1)) x10 r83 hz) (va_cwS 2 hts (kw_in3 kw_642 kw_268 kw_15 kw_269) rfl rfl rfl (by decide +kernel) ⟨Nat.le_of_ble_eq_true rfl, Nat.le_of_ble_eq_true rfl⟩) (kx_pre hPc hKc hDc) rfl rfl hl.1 rfl (lv_room (Nat.le_of_ble_eq_true rfl)) d_xCover_addCrossings_83 ⟨Nat.le_of_ble_eq_true rfl, Nat.le_of_ble_eq_true rfl⟩) hS (fun q _ h => hFc q h) hFc (fun r9 u t H1 locs ht hvm hw hB hz1 hk1 hS => ?_)
      obtain ⟨hP1, hK1, hD1⟩ := hB
      rw [ht] at hP1
      have hw := hw.symm
      subst hw
      obtain ⟨hP, hD⟩ := va_join (wr := [(q_o, .inr (0, f_Cover q_o_squares q_o_changes v_o_width v_o_height v_o_top v_o_x v_o_y v_o_startX v_o_startY)), (q_o_changes, .inl (k_o_changes, 2048, .inl c_o_changes))]) (w1 := []) hP hD [] [0, 1] rfl rfl (by decide) (by decide) hk1 hFc hP1 hD1
      have hP := hP.sub (ws' := [(q_o, .inr (0, f_Cover q_o_squares q_o_changes v_o_width v_o_height v_o_top v_o_x v_o_y v_o_startX v_o_startY)), (q_o_changes, .inl (k_o_changes, 2048, .inl c_o_changes))]) [0, 1] rfl
      have hD := hD.sub (ws' := [(q_o, .inr (0, f_Cover q_o_squares q_o_changes v_o_width v_o_height v_o_top v_o_x v_o_y v_o_startX v_o_startY)), (q_o_changes, .inl (k_o_changes, 2048, .inl c_o_changes))]) [0, 1] (by decide) rfl
      clear hP1 hK1 hD1 hk1 hPc hDc hKc hFc hz1 hvm ht hz
      generalize H1 = H at hP hS ⊢
      refine lv_lsub (pc := 86) hx hb d_xCover_addCrossings_86 ?_
      refine lv_lstore (pc := 87) (lv' := [(17, .long (x1 - r83)), (15, .long (((v_o_top + (8 : Int64)) + ((16 : Int64) * (Int32.toInt64 x14))) - x3)), (0, .ref q_o), (1, .long x1), (3, .long x3), (5, .long x5), (9, .int x9), (10, .long x10), (13, .int x13), (14, .int x14)]) hx hb d_xCover_addCrossings_87 hl (by decide) rfl (fun ls hl => ?_)
      refine lv_lload (pc := 89) hx hb d_xCover_addCrossings_89 (lv_at hl 0 rfl) ?_
      refine lv_sipush (pc := 91) (v := (128 : Int32)) hx hb d_xCover_addCrossings_91 (by decide) ?_
      obtain ⟨r94, hz, hf⟩ := kb1_some hf
      have hPc := hP.sub (ws' := []) [] rfl
      have hDc := hD.sub (ws' := []) [] (by decide) rfl
      have hKc := hK.sub (tys' := []) [] rfl
      have hFc := va_free (wc := []) hD hS hA [] rfl
      refine va_calli (pc := 94) (va_runS (As := [.long (x1 - r83), .int (128 : Int32)]) (rest := []) ⟨hx, hb, hml, hown, hts⟩ (ct_xCover_firstPointFrom l dC dI _ (x1 - r83) (128 : Int32) r94 hz) (va_cwS 2 hts (kw_in3 kw_636 kw_637 kw_6 kw_638) rfl rfl rfl (by decide +kernel) ⟨Nat.le_of_ble_eq_true rfl, Nat.le_of_ble_eq_true rfl⟩) (kx_pre hPc hKc hDc) rfl rfl hl.1 rfl (lv_room (Nat.le_of_ble_eq_true rfl)) d_xCover_addCrossings_94 ⟨Nat.le_of_ble_eq_true rfl, Nat.le_of_ble_eq_true rfl⟩) hS (fun q _ h => hFc q h) hFc (fun r9 u t H1 locs ht hvm hw hB hz1 hk1 hS => ?_)
      obtain ⟨hP1, hK1, hD1⟩ := hB
      rw [ht] at hP1
      have hw := hw.symm
      subst hw
      obtain ⟨hP, hD⟩ := va_join (wr := [(q_o, .inr (0, f_Cover q_o_squares q_o_changes v_o_width v_o_height v_o_top v_o_x v_o_y v_o_startX v_o_startY)), (q_o_changes, .inl (k_o_changes, 2048, .inl c_o_changes))]) (w1 := []) hP hD [] [0, 1] rfl rfl (by decide) (by decide) hk1 hFc hP1 hD1
      have hP := hP.sub (ws' := [(q_o, .inr (0, f_Cover q_o_squares q_o_changes v_o_width v_o_height v_o_top v_o_x v_o_y v_o_startX v_o_startY)), (q_o_changes, .inl (k_o_changes, 2048, .inl c_o_changes))]) [0, 1] rfl
      have hD := hD.sub (ws' := [(q_o, .inr (0, f_Cover q_o_squares q_o_changes v_o_width v_o_height v_o_top v_o_x v_o_y v_o_startX v_o_startY)), (q_o_changes, .inl (k_o_changes, 2048, .inl c_o_changes))]) [0, 1] (by decide) rfl
      clear hP1 hK1 hD1 hk1 hPc hDc hKc hFc hz1 hvm ht hz
      generalize H1 = H at hP hS ⊢
      refine lv_istore (pc := 97) (lv' := [(19, .int r94), (17, .long (x1 - r83)), (15, .long (((v_o_top + (8 : Int64)) + ((16 : Int64) * (Int32.toInt64 x14))) - x3)), (0, .ref q_o), (1, .long x1), (3, .long x3), (5, .long x5), (9, .int x9), (10, .long x10), (13, .int x13), (14, .int x14)]) hx hb d_xCover_addCrossings_97 hl (by decide) rfl (fun ls hl => ?_)
      refine lv_iload (pc := 99) hx hb d_xCover_addCrossings_99 (lv_at hl 0 rfl) ?_
      refine lv_sipush (pc := 101) (v := (128 : Int32)) hx hb d_xCover_addCrossings_101 (by decide) ?_
      refine lv_icmp_ge (pc := 104) (tgt := 126) hx hb d_xCover_addCrossings_104 (by decide) (fun hc => ?_) (fun hc => ?_)
      · rw [if_pos hc] at hf
        refine lv_iinc (pc := 126) (v := (x14 + (1 : Int32))) (lv' := [(14, .int (x14 + (1 : Int32))), (19, .int r94), (17, .long (x1 - r83)), (15, .long (((v_o_top + (8 : Int64)) + ((16 : Int64) * (Int32.toInt64 x14))) - x3)), (0, .ref q_o), (1, .long x1), (3, .long x3), (5, .long x5), (9, .int x9), (10, .long x10), (13, .int x13)]) hx hb d_xCover_addCrossings_126 hl (k := 10) rfl rfl (by decide) rfl (fun ls hl => ?_)
        refine lv_goto (pc := 129) (tgt := 45) hx hb d_xCover_addCrossings_129 (by decide) ?_
        exact hk45 x1 x3 x5 x9 x10 x13 (x14 + (1 : Int32)) c_o_changes _ _ _ hf hP hD hS (lv_sub hl [4, 5, 6, 7, 8, 9, 10, 0] rfl)
      · rw [if_neg hc] at hf
        refine lv_aload_n (pc := 107) hx hb d_xCover_addCrossings_107 rfl (lv_at hl 3 rfl) ?_
        refine va_get (pc := 108) (D := (dC, dI)) (ci := 0) (v := .ref q_o_changes) (C := "PathTexts$Cover") (T := F_Cover) (N := 9) hx hb hts (fun w h => List.mem_cons_of_mem _ (in_Cover w h)) hown hK hP 0 rfl rfl 1 (by decide) (hts _ (List.mem_cons_of_mem _ kw_130)) (fun _ h9 => h9) fg_Cover_1 d_xCover_addCrossings_108 ?_
        refine lv_iload (pc := 111) hx hb d_xCover_addCrossings_111 (lv_at hl 10 rfl) ?_
        refine lv_sipush (pc := 113) (v := (128 : Int32)) hx hb d_xCover_addCrossings_113 (by decide) ?_
        refine lv_imul (pc := 116) hx hb d_xCover_addCrossings_116 ?_
        refine lv_iload (pc := 117) hx hb d_xCover_addCrossings_117 (lv_at hl 0 rfl) ?_
        refine lv_iadd (pc := 119) hx hb d_xCover_addCrossings_119 ?_
        refine lv_dup2_11 (pc := 120) hx hb d_xCover_addCrossings_120 rfl rfl ?_
        obtain ⟨hg1, hf⟩ := kg_some hf
        refine va_iald (pc := 121) hx hb hK hP 1 0 rfl rfl (ki_in hg1) d_xCover_addCrossings_121 ?_
        refine lv_iload (pc := 122) hx hb d_xCover_addCrossings_122 (lv_at hl 7 rfl) ?_
        refine lv_iadd (pc := 124) hx hb d_xCover_addCrossings_124 ?_
        obtain ⟨hg2, hf⟩ := kg_some hf
        refine kx_iast (pc := 125) (ws' := [(q_o, .inr (0, f_Cover q_o_squares q_o_changes v_o_width v_o_height v_o_top v_o_x v_o_y v_o_startX v_o_startY)), (q_o_changes, .inl (k_o_changes, 2048, .inl (upd c_o_changes (((x14 * (128 : Int32)) + r94)).toNatClampNeg ((c_o_changes (((x14 * (128 : Int32)) + r94)).toNatClampNeg) + x9))))]) hx hb hK hP hD hS 1 0 rfl rfl (ki_in hg2) rfl d_xCover_addCrossings_125 (fun H locs hP hD hS => ?_)
        refine lv_iinc (pc := 126) (v := (x14 + (1 : Int32))) (lv' := [(14, .int (x14 + (1 : Int32))), (19, .int r94), (17, .long (x1 - r83)), (15, .long (((v_o_top + (8 : Int64)) + ((16 : Int64) * (Int32.toInt64 x14))) - x3)), (0, .ref q_o), (1, .long x1), (3, .long x3), (5, .long x5), (9, .int x9), (10, .long x10), (13, .int x13)]) hx hb d_xCover_addCrossings_126 hl (k := 10) rfl rfl (by decide) rfl (fun ls hl => ?_)
        refine lv_goto (pc := 129) (tgt := 45) hx hb d_xCover_addCrossings_129 (by decide) ?_
        exact hk45 x1 x3 x5 x9 x10 x13 (x14 + (1 : Int32)) (upd c_o_changes (((x14 * (128 : Int32)) + r94)).toNatClampNeg ((c_o_changes (((x14 * (128 : Int32)) + r94)).toNatClampNeg) + x9)) _ _ _ hf hP hD hS (lv_sub hl [4, 5, 6, 7, 8, 9, 10, 0] rfl)
  have hL45 : ∀ n : Nat, ∀ (x1 : Int64) (x3 : Int64) (x5 : Int64) (x9 : Int32) (x10 : Int64) (x13 : Int32) (x14 : Int32) (c_o_changes : (Nat → Int32)) (H : Heap) (locs : List Loc) (ls : Array Slot), (xCover_addCrossings_L45 N n) x1 x3 x5 x9 x10 x13 x14 v_o_top c_o_changes = some c_o_changes_z → va_P (dC, dI) clz [(q_o, .inr (0, f_Cover q_o_squares q_o_changes v_o_width v_o_height v_o_top v_o_x v_o_y v_o_startX v_o_startY)), (q_o_changes, .inl (k_o_changes, 2048, .inl c_o_changes))] H → va_D A [(q_o, .inr (0, f_Cover q_o_squares q_o_changes v_o_width v_o_height v_o_top v_o_x v_o_y v_o_startX v_o_startY)), (q_o_changes, .inl (k_o_changes, 2048, .inl c_o_changes))] → va_S A s.heap H locs → lv_has ls 20 [(0, .ref q_o), (1, .long x1), (3, .long x3), (5, .long x5), (9, .int x9), (10, .long x10), (13, .int x13), (14, .int x14)] → W p l e (headSpec w_xCover_addCrossings ({ frames := 1, cells := 0, slots := 0, locals := 25 })).room s m args below meth c H locs 0 0 Q (F0 m 45 ls []) := by
    intro n
    induction n with
    | zero => intro x1 x3 x5 x9 x10 x13 x14 c_o_changes H locs ls hf hP hD hS hl; have hf : none = some c_o_changes_z := hf; cases hf
    | succ n ih => exact hB45 (xCover_addCrossings_L45 N n) ih
  rw [xCover_addCrossings] at hf
  refine lv_lload (pc := 0) hx hb d_xCover_addCrossings_0 (lv_at hl 4 rfl) ?_
  refine lv_lload_n (pc := 2) hx hb d_xCover_addCrossings_2 rfl (lv_at hl 2 rfl) ?_
  refine lv_lsub (pc := 3) hx hb d_xCover_addCrossings_3 ?_
  refine lv_lstore (pc := 4) (lv' := [(10, .long (x7 - x3)), (0, .ref q_o), (1, .long x1), (3, .long x3), (5, .long x5), (7, .long x7), (9, .int x9)]) hx hb d_xCover_addCrossings_4 hl (by decide) rfl (fun ls hl => ?_)
  refine lv_lload (pc := 6) hx hb d_xCover_addCrossings_6 (lv_at hl 0 rfl) ?_
  refine lv_lconst (pc := 8) (v := (0 : Int64)) hx hb d_xCover_addCrossings_8 (by decide) ?_
  refine kx_lcgt (pc := 9) (tgt := 14) hx hb d_xCover_addCrossings_9 d_xCover_addCrossings_10 (by decide) (fun hc => ?_) (fun hc => ?_)
  · rw [if_pos hc] at hf
    refine lv_lload_n (pc := 14) hx hb d_xCover_addCrossings_14 rfl (lv_at hl 3 rfl) ?_
    refine lv_aload_n (pc := 15) hx hb d_xCover_addCrossings_15 rfl (lv_at hl 1 rfl) ?_
    refine va_get (pc := 16) (D := (dC, dI)) (ci := 0) (v := .long v_o_top) (C := "PathTexts$Cover") (T := F_Cover) (N := 9) hx hb hts (fun w h => List.mem_cons_of_mem _ (in_Cover w h)) hown hK hP 0 rfl rfl 4 (by decide) (hts _ (List.mem_cons_of_mem _ kw_135)) (fun _ h9 => h9) fg_Cover_4 d_xCover_addCrossings_16 ?_
    refine lv_lsub (pc := 19) hx hb d_xCover_addCrossings_19 ?_
    refine lv_bipush (pc := 20) (v := (16 : Int32)) hx hb d_xCover_addCrossings_20 (by decide) ?_
    obtain ⟨r22, hz, hf⟩ := kb1_some hf
    have hPc := hP.sub (ws' := []) [] rfl
    have hDc := hD.sub (ws' := []) [] (by decide) rfl
    have hKc := hK.sub (tys' := []) [] rfl
    have hFc := va_free (wc := []) hD hS hA [] rfl
    refine va_calli (pc := 22) (va_runS (As := [.long (x3 - v_o_top), .int (16 : Int32)]) (rest := []) ⟨hx, hb, hml, hown, hts⟩ (ct_xCover_firstPointFrom l dC dI _ (x3 - v_o_top) (16 : Int32) r22 hz) (va_cwS 2 hts (kw_in3 kw_636 kw_637 kw_6 kw_638) rfl rfl rfl (by decide +kernel) ⟨Nat.le_of_ble_eq_true rfl, Nat.le_of_ble_eq_true rfl⟩) (kx_pre hPc hKc hDc) rfl rfl hl.1 rfl (lv_room (Nat.le_of_ble_eq_true rfl)) d_xCover_addCrossings_22 ⟨Nat.le_of_ble_eq_true rfl, Nat.le_of_ble_eq_true rfl⟩) hS (fun q _ h => hFc q h) hFc (fun r9 u t H1 locs ht hvm hw hB hz1 hk1 hS => ?_)
    obtain ⟨hP1, hK1, hD1⟩ := hB
    rw [ht] at hP1
    have hw := hw.symm
    subst hw
    obtain ⟨hP, hD⟩ := va_join (wr := [(q_o, .inr (0, f_Cover q_o_squares q_o_changes v_o_width v_o_height v_o_top v_o_x v_o_y v_o_startX v_o_startY)), (q_o_changes, .inl (k_o_changes, 2048, .inl c_o_changes))]) (w1 := []) hP hD [] [0, 1] rfl rfl (by decide) (by decide) hk1 hFc hP1 hD1
    have hP := hP.sub (ws' := [(q_o, .inr (0, f_Cover q_o_squares q_o_changes v_o_width v_o_height v_o_top v_o_x v_o_y v_o_startX v_o_startY)), (q_o_changes, .inl (k_o_changes, 2048, .inl c_o_changes))]) [0, 1] rfl
    have hD := hD.sub (ws' := [(q_o, .inr (0, f_Cover q_o_squares q_o_changes v_o_width v_o_height v_o_top v_o_x v_o_y v_o_startX v_o_startY)), (q_o_changes, .inl (k_o_changes, 2048, .inl c_o_changes))]) [0, 1] (by decide) rfl
    clear hP1 hK1 hD1 hk1 hPc hDc hKc hFc hz1 hvm ht hz
    generalize H1 = H at hP hS ⊢
    refine lv_istore (pc := 25) (lv' := [(12, .int r22), (10, .long (x7 - x3)), (0, .ref q_o), (1, .long x1), (3, .long x3), (5, .long x5), (7, .long x7), (9, .int x9)]) hx hb d_xCover_addCrossings_25 hl (by decide) rfl (fun ls hl => ?_)
    refine lv_lload (pc := 27) hx hb d_xCover_addCrossings_27 (lv_at hl 6 rfl) ?_
    refine lv_aload_n (pc := 29) hx hb d_xCover_addCrossings_29 rfl (lv_at hl 2 rfl) ?_
    refine va_get (pc := 30) (D := (dC, dI)) (ci := 0) (v := .long v_o_top) (C := "PathTexts$Cover") (T := F_Cover) (N := 9) hx hb hts (fun w h => List.mem_cons_of_mem _ (in_Cover w h)) hown hK hP 0 rfl rfl 4 (by decide) (hts _ (List.mem_cons_of_mem _ kw_135)) (fun _ h9 => h9) fg_Cover_4 d_xCover_addCrossings_30 ?_
    refine lv_lsub (pc := 33) hx hb d_xCover_addCrossings_33 ?_
    refine lv_bipush (pc := 34) (v := (16 : Int32)) hx hb d_xCover_addCrossings_34 (by decide) ?_
    obtain ⟨r36, hz, hf⟩ := kb1_some hf
    have hPc := hP.sub (ws' := []) [] rfl
    have hDc := hD.sub (ws' := []) [] (by decide) rfl
    have hKc := hK.sub (tys' := []) [] rfl
    have hFc := va_free (wc := []) hD hS hA [] rfl
    refine va_calli (pc := 36) (va_runS (As := [.long (x7 - v_o_top), .int (16 : Int32)]) (rest := []) ⟨hx, hb, hml, hown, hts⟩ (ct_xCover_firstPointFrom l dC dI _ (x7 - v_o_top) (16 : Int32) r36 hz) (va_cwS 2 hts (kw_in3 kw_636 kw_637 kw_6 kw_638) rfl rfl rfl (by decide +kernel) ⟨Nat.le_of_ble_eq_true rfl, Nat.le_of_ble_eq_true rfl⟩) (kx_pre hPc hKc hDc) rfl rfl hl.1 rfl (lv_room (Nat.le_of_ble_eq_true rfl)) d_xCover_addCrossings_36 ⟨Nat.le_of_ble_eq_true rfl, Nat.le_of_ble_eq_true rfl⟩) hS (fun q _ h => hFc q h) hFc (fun r9 u t H1 locs ht hvm hw hB hz1 hk1 hS => ?_)
    obtain ⟨hP1, hK1, hD1⟩ := hB
    rw [ht] at hP1
    have hw := hw.symm
    subst hw
    obtain ⟨hP, hD⟩ := va_join (wr := [(q_o, .inr (0, f_Cover q_o_squares q_o_changes v_o_width v_o_height v_o_top v_o_x v_o_y v_o_startX v_o_startY)), (q_o_changes, .inl (k_o_changes, 2048, .inl c_o_changes))]) (w1 := []) hP hD [] [0, 1] rfl rfl (by decide) (by decide) hk1 hFc hP1 hD1
    have hP := hP.sub (ws' := [(q_o, .inr (0, f_Cover q_o_squares q_o_changes v_o_width v_o_height v_o_top v_o_x v_o_y v_o_startX v_o_startY)), (q_o_changes, .inl (k_o_changes, 2048, .inl c_o_changes))]) [0, 1] rfl
    have hD := hD.sub (ws' := [(q_o, .inr (0, f_Cover q_o_squares q_o_changes v_o_width v_o_height v_o_top v_o_x v_o_y v_o_startX v_o_startY)), (q_o_changes, .inl (k_o_changes, 2048, .inl c_o_changes))]) [0, 1] (by decide) rfl
    clear hP1 hK1 hD1 hk1 hPc hDc hKc hFc hz1 hvm ht hz
    generalize H1 = H at hP hS ⊢
    refine lv_istore (pc := 39) (lv' := [(13, .int r36), (12, .int r22), (10, .long (x7 - x3)), (0, .ref q_o), (1, .long x1), (3, .long x3), (5, .long x5), (7, .long x7), (9, .int x9)]) hx hb d_xCover_addCrossings_39 hl (by decide) rfl (fun ls hl => ?_)
    refine lv_iload (pc := 41) hx hb d_xCover_addCrossings_41 (lv_at hl 1 rfl) ?_
    refine lv_istore (pc := 43) (lv' := [(14, .int r22), (13, .int r36), (12, .int r22), (10, .long (x7 - x3)), (0, .ref q_o), (1, .long x1), (3, .long x3), (5, .long x5), (7, .long x7), (9, .int x9)]) hx hb d_xCover_addCrossings_43 hl (by decide) rfl (fun ls hl => ?_)
    exact hL45 N x1 x3 x5 x9 (x7 - x3) r36 r22 c_o_changes _ _ _ hf hP hD hS (lv_sub hl [4, 5, 6, 7, 9, 3, 1, 0] rfl)
  · rw [if_neg hc] at hf
    have e_0 := kr1 hf
    exact hRet 13 _ _ _ d_xCover_addCrossings_13 (by rw [← e_0]; exact hP) (by rw [← e_0]; exact hD) hS
set_option maxHeartbeats 4000000 in
set_option maxRecDepth 100000 in
theorem ct_xReader_takeNumbers (l : Launch) (dC : Nat → ClassId) (dI : Nat → Nat → Nat) (q_o : Nat) (q_o_text : Nat) (q_o_pen : Nat) (q_o_numbers : Nat) (q_o_text_characters : Nat) (k_o_text_characters : ClassId) (k_o_numbers : ClassId) (sz : Nat) (tt : Nat) (N : Nat) (x1 : Int32) (v_o_at : Int32) (v_o_wrong : Int32) (v_o_moveIsDue : Int32) (v_o_text_length : Int32) (c_o_text_characters : (Nat → Int32)) (c_o_numbers : (Nat → Int64)) (rv : Int32) (v_o_at_z : Int32) (v_o_wrong_z : Int32) (c_o_numbers_z : (Nat → Int64)) (hf : xReader_takeNumbers N x1 v_o_at v_o_wrong v_o_text_length c_o_text_characters c_o_numbers = some (rv, v_o_at_z, v_o_wrong_z, c_o_numbers_z)) : Met l y_xReader_takeNumbers w_xReader_takeNumbers ({ frames := 3, cells := 0, slots := 0, locals := 78 }) (va_Pc [.ref q_o, .int x1] (fun U => U.heap.size = sz ∧ va_P (dC, dI) clz [(q_o, .inr (4, f_Reader q_o_text q_o_pen q_o_numbers v_o_at v_o_wrong v_o_moveIsDue)), (q_o_text, .inr (5, f_Row q_o_text_characters v_o_text_length)), (q_o_text_characters, .inl (k_o_text_characters, 1200, .inl c_o_text_characters)), (q_o_numbers, .inl (k_o_numbers, 6, .inr (.inl c_o_numbers)))] U.heap ∧ va_K (dC, dI) clz [(k_o_text_characters, .char), (k_o_numbers, .long)] U ∧ va_D (fun _ => True) [(q_o, .inr (4, f_Reader q_o_text q_o_pen q_o_numbers v_o_at v_o_wrong v_o_moveIsDue)), (q_o_text, .inr (5, f_Row q_o_text_characters v_o_text_length)), (q_o_text_characters, .inl (k_o_text_characters, 1200, .inl c_o_text_characters)), (q_o_numbers, .inl (k_o_numbers, 6, .inr (.inl c_o_numbers)))] ∧ ke tt (va_A [(q_o, .inr (4, f_Reader q_o_text q_o_pen q_o_numbers v_o_at v_o_wrong v_o_moveIsDue)), (q_o_text, .inr (5, f_Row q_o_text_characters v_o_text_length)), (q_o_text_characters, .inl (k_o_text_characters, 1200, .inl c_o_text_characters)), (q_o_numbers, .inl (k_o_numbers, 6, .inr (.inl c_o_numbers)))] sz) U)) (va_Qi (fun (r9 : Int32) (_ : Unit) => r9 = rv) (fun _ t => va_P (dC, dI) clz [(q_o, .inr (4, f_Reader q_o_text q_o_pen q_o_numbers v_o_at_z v_o_wrong_z v_o_moveIsDue)), (q_o_text, .inr (5, f_Row q_o_text_characters v_o_text_length)), (q_o_text_characters, .inl (k_o_text_characters, 1200, .inl c_o_text_characters)), (q_o_numbers, .inl (k_o_numbers, 6, .inr (.inl c_o_numbers_z)))] t.heap ∧ va_K (dC, dI) clz [(k_o_text_characters, .char), (k_o_numbers, .long)] t ∧ va_D (va_A [(q_o, .inr (4, f_Reader q_o_text q_o_pen q_o_numbers v_o_at v_o_wrong v_o_moveIsDue)), (q_o_text, .inr (5, f_Row q_o_text_characters v_o_text_length)), (q_o_text_characters, .inl (k_o_text_characters, 1200, .inl c_o_text_characters)), (q_o_numbers, .inl (k_o_numbers, 6, .inr (.inl c_o_numbers)))] sz) [(q_o, .inr (4, f_Reader q_o_text q_o_pen q_o_numbers v_o_at_z v_o_wrong_z v_o_moveIsDue)), (q_o_text, .inr (5, f_Row q_o_text_characters v_o_text_length)), (q_o_text_characters, .inl (k_o_text_characters, 1200, .inl c_o_text_characters)), (q_o_numbers, .inl (k_o_numbers, 6, .inr (.inl c_o_numbers_z)))]) (va_A [(q_o, .inr (4, f_Reader q_o_text q_o_pen q_o_numbers v_o_at v_o_wrong v_o_moveIsDue)), (q_o_text, .inr (5, f_Row q_o_text_characters v_o_text_length)), (q_o_text_characters, .inl (k_o_text_characters, 1200, .inl c_o_text_characters)), (q_o_numbers, .inl (k_o_numbers, 6, .inr (.inl c_o_numbers)))] sz)) 0 0 (va_A [(q_o, .inr (4, f_Reader q_o_text q_o_pen q_o_numbers v_o_at v_o_wrong v_o_moveIsDue)), (q_o_text, .inr (5, f_Row q_o_text_characters v_o_text_length)), (q_o_text_characters, .inl (k_o_text_characters, 1200, .inl c_o_text_characters)), (q_o_numbers, .inl (k_o_numbers, 6, .inr (.inl c_o_numbers)))] sz) := by
  refine Met.ofW (cc := prog_6_method_8_code) (maxL := 3) (ret := (some .boolean)) (by decide +kernel) rfl ?_
  intro p e s m args below meth c s₁ B hml hv
  obtain ⟨hargs, hsz, hP, hK, hD0, hE⟩ := hv
  have hx := B.exec
  have hb := B.bytes
  have hr := B.returns
  have hts := atoms_spec (ws := w_xReader_takeNumbers) B.pre
  have hown : s.vm.findClass "PathTexts$Reader" = some m.cls := findClass_of_methodNamed B.named
  have hlocks := B.notSynchronized
  subst hsz
  have hD := hD0.self (sz := s.heap.size)
  generalize hAe : va_A [(q_o, .inr (4, f_Reader q_o_text q_o_pen q_o_numbers v_o_at v_o_wrong v_o_moveIsDue)), (q_o_text, .inr (5, f_Row q_o_text_characters v_o_text_length)), (q_o_text_characters, .inl (k_o_text_characters, 1200, .inl c_o_text_characters)), (q_o_numbers, .inl (k_o_numbers, 6, .inr (.inl c_o_numbers)))] s.heap.size = A at hD hE ⊢
  have hA : ∀ q : Nat, s.heap.size ≤ q → A q := fun q h => by rw [← hAe]; exact Or.inr h
  clear hAe hD0
  have hS : va_S A s.heap s.heap [] := va_S.rf
  have hl := lv_entry ([.ref q_o, .int x1]) (n := 3) (Nat.le_of_ble_eq_true rfl)
  have hent : entryFrame m args 3 = F0 m 0 (lg_sl ([.ref q_o, .int x1]) ++ List.replicate (3 - (lg_sl ([.ref q_o, .int x1])).length) Slot.unset).toArray [] := by rw [hargs, lg_entry_eq]
  rw [hent]
  clear hent hargs
  generalize (lg_sl ([.ref q_o, .int x1]) ++ List.replicate (3 - (lg_sl ([.ref q_o, .int x1])).length) Slot.unset).toArray = ls at hl ⊢
  have hl : lv_has ls 3 [(0, .ref q_o), (1, .int x1)] := hl
  suffices key : ∀ Q : State → Prop, (∀ (hn9 : narrow .boolean (.int rv) = .int rv) (pc : Nat) (H : Heap) (locs : List Loc) (ls : Array Slot), decode prog_6_method_8_code pc = .ok (.ireturn, 1) → va_P (dC, dI) clz [(q_o, .inr (4, f_Reader q_o_text q_o_pen q_o_numbers v_o_at_z v_o_wrong_z v_o_moveIsDue)), (q_o_text, .inr (5, f_Row q_o_text_characters v_o_text_length)), (q_o_text_characters, .inl (k_o_text_characters, 1200, .inl c_o_text_characters)), (q_o_numbers, .inl (k_o_numbers, 6, .inr (.inl c_o_numbers_z)))] H → va_D A [(q_o, .inr (4, f_Reader q_o_text q_o_pen q_o_numbers v_o_at_z v_o_wrong_z v_o_moveIsDue)), (q_o_text, .inr (5, f_Row q_o_text_characters v_o_text_length)), (q_o_text_characters, .inl (k_o_text_characters, 1200, .inl c_o_text_characters)), (q_o_numbers, .inl (k_o_numbers, 6, .inr (.inl c_o_numbers_z)))] → va_S A s.heap H locs → W p l e (headSpec w_xReader_takeNumbers ({ frames := 3, cells := 0, slots := 0, locals := 78 })).room s m args below meth c H locs 0 0 Q (F0 m pc ls [.int rv])) → W p l e (headSpec w_xReader_takeNumbers ({ frames := 3, cells := 0, slots := 0, locals := 78 })).room s m args below meth c s.heap [] 0 0 Q (F0 m 0 ls []) from key _ (fun hn9 pc H locs ls hd hP hD hS => W.zret hx hb hr hn9 (fun t ht hW => ⟨⟨rv, (), rfl, rfl, by rw [ht]; exact hP, va_K.moved hW.alike hK, hD⟩, hS.F ht⟩) hS.2.2 hd)
  intro Q hRet
  have hB2 : ∀ (k2 : Int32 → Int32 → Int32 → Int32 → Int32 → (Nat → Int32) → (Nat → Int64) → Option (Int32 × Int32 × Int32 × (Nat → Int64))), (∀ (x1 : Int32) (x2 : Int32) (v_o_at : Int32) (v_o_wrong : Int32) (c_o_numbers : (Nat → Int64)) (H : Heap) (locs : List Loc) (ls : Array Slot), k2 x1 x2 v_o_at v_o_wrong v_o_text_length c_o_text_characters c_o_numbers = some (rv, v_o_at_z, v_o_wrong_z, c_o_numbers_z) → va_P (dC, dI) clz [(q_o, .inr (4, f_Reader q_o_text q_o_pen q_o_numbers v_o_at v_o_wrong v_o_moveIsDue)), (q_o_text, .inr (5, f_Row q_o_text_characters v_o_text_length)), (q_o_text_characters, .inl (k_o_text_characters, 1200, .inl c_o_text_characters)), (q_o_numbers, .inl (k_o_numbers, 6, .inr (.inl c_o_numbers)))] H → va_D A [(q_o, .inr (4, f_Reader q_o_text q_o_pen q_o_numbers v_o_at v_o_wrong v_o_moveIsDue)), (q_o_text, .inr (5, f_Row q_o_text_characters v_o_text_length)), (q_o_text_characters, .inl (k_o_text_characters, 1200, .inl c_o_text_characters)), (q_o_numbers, .inl (k_o_numbers, 6, .inr (.inl c_o_numbers)))] → va_S A s.heap H locs → lv_has ls 3 [(0, .ref q_o), (1, .int x1), (2, .int x2)] → W p l e (headSpec w_xReader_takeNumbers ({ frames := 3, cells := 0, slots := 0, locals := 78 })).room s m args below meth c H locs 0 0 Q (F0 m 2 ls [])) → ∀ (x1 : Int32) (x2 : Int32) (v_o_at : Int32) (v_o_wrong : Int32) (c_o_numbers : (Nat → Int64)) (H : Heap) (locs : List Loc) (ls : Array Slot), xReader_takeNumbers_B2 N k2 x1 x2 v_o_at v_o_wrong v_o_text_length c_o_text_characters c_o_numbers = some (rv, v_o_at_z, v_o_wrong_z, c_o_numbers_z) → va_P (dC, dI) clz [(q_o, .inr (4, f_Reader q_o_text q_o_pen q_o_numbers v_o_at v_o_wrong v_o_moveIsDue)), (q_o_text, .inr (5, f_Row q_o_text_characters v_o_text_length)), (q_o_text_characters, .inl (k_o_text_characters, 1200, .inl c_o_text_characters)), (q_o_numbers, .inl (k_o_numbers, 6, .inr (.inl c_o_numbers)))] H → va_D A [(q_o, .inr (4, f_Reader q_o_text q_o_pen q_o_numbers v_o_at v_o_wrong v_o_moveIsDue)), (q_o_text, .inr (5, f_Row q_o_text_characters v_o_text_length)), (q_o_text_characters, .inl (k_o_text_characters, 1200, .inl c_o_text_characters)), (q_o_numbers, .inl (k_o_numbers, 6, .inr (.inl c_o_numbers)))] → va_S A s.heap H locs → lv_has ls 3 [(0, .ref q_o), (1, .int x1), (2, .int x2)] → W p l e (headSpec w_xReader_takeNumbers ({ frames := 3, cells := 0, slots := 0, locals := 78 })).room s m args below meth c H locs 0 0 Q (F0 m 2 ls []) := by
    intro k2 hk2
    intro x1 x2 v_o_at v_o_wrong c_o_numbers H locs ls hf hP hD hS hl
    rw [xReader_takeNumbers_B2] at hf
    refine lv_iload_n (pc := 2) hx hb d_xReader_takeNumbers_2 rfl (lv_at hl 2 rfl) ?_
    refine lv_iload_n (pc := 3) hx hb d_xReader_takeNumbers_3 rfl (lv_at hl 1 rfl) ?_
    refine lv_icmp_ge (pc := 4) (tgt := 40) hx hb d_xReader_takeNumbers_4 (by decide) (fun hc => ?_) (fun hc => ?_)
    · rw [if_pos hc] at hf
      refine lv_iconst (pc := 40) (v := (1 : Int32)) hx hb d_xReader_takeNumbers_40 (by decide) ?_
      obtain ⟨e_0, e_1, e_2, e_3⟩ := kr4 hf
      rw [e_0]
      exact hRet (by rw [← e_0]; exact (by decide)) 41 _ _ _ d_xReader_takeNumbers_41 (by rw [← e_1, ← e_2, ← e_3]; exact hP) (by rw [← e_1, ← e_2, ← e_3]; exact hD) hS
    · rw [if_neg hc] at hf
      refine lv_iload_n (pc := 7) hx hb d_xReader_takeNumbers_7 rfl (lv_at hl 2 rfl) ?_
      refine lv_bipush (pc := 8) (v := (6 : Int32)) hx hb d_xReader_takeNumbers_8 (by decide) ?_
      refine lv_icmp_ge (pc := 10) (tgt := 40) hx hb d_xReader_takeNumbers_10 (by decide) (fun hc => ?_) (fun hc => ?_)
      · rw [if_pos hc] at hf
        refine lv_iconst (pc := 40) (v := (1 : Int32)) hx hb d_xReader_takeNumbers_40 (by decide) ?_
        obtain ⟨e_0, e_1, e_2, e_3⟩ := kr4 hf
        rw [e_0]
        exact hRet (by rw [← e_0]; exact (by decide)) 41 _ _ _ d_xReader_takeNumbers_41 (by rw [← e_1, ← e_2, ← e_3]; exact hP) (by rw [← e_1, ← e_2, ← e_3]; exact hD) hS
      · rw [if_neg hc] at hf
        refine lv_aload_n (pc := 13) hx hb d_xReader_takeNumbers_13 rfl (lv_at hl 0 rfl) ?_
        obtain ⟨v_o_at_14, hz, hf⟩ := kb1_some hf
        have hPc := hP.sub (ws' := [(q_o, .inr (4, f_Reader q_o_text q_o_pen q_o_numbers v_o_at v_o_wrong v_o_moveIsDue)), (q_o_text, .inr (5, f_Row q_o_text_characters v_o_text_length)), (q_o_text_characters, .inl (k_o_text_characters, 1200, .inl c_o_text_characters))]) [0, 1, 2] rfl
        have hDc := hD.sub (ws' := [(q_o, .inr (4, f_Reader q_o_text q_o_pen q_o_numbers v_o_at v_o_wrong v_o_moveIsDue)), (q_o_text, .inr (5, f_Row q_o_text_characters v_o_text_length)), (q_o_text_characters, .inl (k_o_text_characters, 1200, .inl c_o_text_characters))]) [0, 1, 2] (by decide) rfl
        have hKc := hK.sub (tys' := [(k_o_text_characters, .char)]) [0] rfl
        have hFc := va_free (wc := [(q_o, .inr (4, f_Reader q_o_text q_o_pen q_o_numbers v_o_at v_o_wrong v_o_moveIsDue)), (q_o_text, .inr (5, f_Row q_o_text_characters v_o_text_length)), (q_o_text_characters, .inl (k_o_text_characters, 1200, .inl c_o_text_characters))]) hD hS hA [0, 1, 2] rfl
        refine va_callv (pc := 14) (va_runV (As := []) (rest := []) ⟨hx, hb, hml, hown, hts⟩ (ct_xReader_passBlanks l dC dI q_o q_o_text q_o_pen q_o_numbers q_o_text_characters k_o_text_characters _ N v_o_at v_o_wrong v_o_moveIsDue v_o_text_length c_o_text_characters v_o_at_14 hz) (cwV 0 hts (kw_in4 kw_228 kw_229 kw_230 kw_3 kw_231) rfl rfl rfl (by decide +kernel) ⟨Nat.le_of_ble_eq_true rfl, Nat.le_of_ble_eq_true rfl⟩) (kx_preV hPc hKc hDc 0 rfl rfl) rfl rfl hl.1 rfl (lv_room (Nat.le_of_ble_eq_true rfl)) d_xReader_takeNumbers_14 ⟨Nat.le_of_ble_eq_true rfl, Nat.le_of_ble_eq_true rfl⟩) hS (fun q _ h => hFc q h) hFc (fun u t H1 locs ht hvm hw hB hz1 hk1 hS => ?_)
        obtain ⟨hP1, hK1, hD1⟩ := hB
        rw [ht] at hP1
        obtain ⟨hP, hD⟩ := va_join (wr := [(q_o_numbers, .inl (k_o_numbers, 6, .inr (.inl c_o_numbers)))]) (w1 := [(q_o, .inr (4, f_Reader q_o_text q_o_pen q_o_numbers v_o_at_14 v_o_wrong v_o_moveIsDue)), (q_o_text, .inr (5, f_Row q_o_text_characters v_o_text_length)), (q_o_text_characters, .inl (k_o_text_characters, 1200, .inl c_o_text_characters))]) hP hD [0, 1, 2] [3] rfl rfl (by decide) (by decide) hk1 hFc hP1 hD1
        have hP := hP.sub (ws' := [(q_o, .inr (4, f_Reader q_o_text q_o_pen q_o_numbers v_o_at_14 v_o_wrong v_o_moveIsDue)), (q_o_text, .inr (5, f_Row q_o_text_characters v_o_text_length)), (q_o_text_characters, .inl (k_o_text_characters, 1200, .inl c_o_text_characters)), (q_o_numbers, .inl (k_o_numbers, 6, .inr (.inl c_o_numbers)))]) [1, 2, 3, 0] rfl
        have hD := hD.sub (ws' := [(q_o, .inr (4, f_Reader q_o_text q_o_pen q_o_numbers v_o_at_14 v_o_wrong v_o_moveIsDue)), (q_o_text, .inr (5, f_Row q_o_text_characters v_o_text_length)), (q_o_text_characters, .inl (k_o_text_characters, 1200, .inl c_o_text_characters)), (q_o_numbers, .inl (k_o_numbers, 6, .inr (.inl c_o_numbers)))]) [1, 2, 3, 0] (by decide) rfl
        clear hP1 hK1 hD1 hk1 hPc hDc hKc hFc hz1 hvm ht hz
        generalize H1 = H at hP hS ⊢
        refine lv_aload_n (pc := 17) hx hb d_xReader_takeNumbers_17 rfl (lv_at hl 0 rfl) ?_
        refine lv_iload_n (pc := 18) hx hb d_xReader_takeNumbers_18 rfl (lv_at hl 2 rfl) ?_
        obtain ⟨r19, v_o_at_19, c_o_numbers_19, hz, hf⟩ := kb3_some hf
        have hPc := hP.sub (ws' := [(q_o, .inr (4, f_Reader q_o_text q_o_pen q_o_numbers v_o_at_14 v_o_wrong v_o_moveIsDue)), (q_o_text, .inr (5, f_Row q_o_text_characters v_o_text_length)), (q_o_text_characters, .inl (k_o_text_characters, 1200, .inl c_o_text_characters)), (q_o_numbers, .inl (k_o_numbers, 6, .inr (.inl c_o_numbers)))]) [0, 1, 2, 3] rfl
        have hDc := hD.sub (ws' := [(q_o, .inr (4, f_Reader q_o_text q_o_pen q_o_numbers v_o_at_14 v_o_wrong v_o_moveIsDue)), (q_o_text, .inr (5, f_Row q_o_text_characters v_o_text_length)), (q_o_text_characters, .inl (k_o_text_characters, 1200, .inl c_o_text_characters)), (q_o_numbers, .inl (k_o_numbers, 6, .inr (.inl c_o_numbers)))]) [0, 1, 2, 3] (by decide) rfl
        have hKc := hK.sub (tys' := [(k_o_text_characters, .char), (k_o_numbers, .long)]) [0, 1] rfl
        have hFc := va_free (wc := [(q_o, .inr (4, f_Reader q_o_text q_o_pen q_o_numbers v_o_at_14 v_o_wrong v_o_moveIsDue)), (q_o_text, .inr (5, f_Row q_o_text_characters v_o_text_length)), (q_o_text_characters, .inl (k_o_text_characters, 1200, .inl c_o_text_characters)), (q_o_numbers, .inl (k_o_numbers, 6, .inr (.inl c_o_numbers)))]) hD hS hA [0, 1, 2, 3] rfl
        refine va_calli (pc := 19) (va_runV (As := [.int x2]) (rest := []) ⟨hx, hb, hml, hown, hts⟩ (ct_xReader_takeNumeral l dC dI q_o q_o_text q_o_pen q_o_numbers q_o_text_characters k_o_text_characters k_o_numbers _ tt N x2 v_o_at_14 v_o_wrong v_o_moveIsDue v_o_text_length c_o_text_characters c_o_numbers r19 v_o_at_19 c_o_numbers_19 hz) (cwV 1 hts (kw_in4 kw_252 kw_253 kw_254 kw_3 kw_255) rfl rfl rfl (by decide +kernel) ⟨Nat.le_of_ble_eq_true rfl, Nat.le_of_ble_eq_true rfl⟩) (ke_preV hPc hKc hDc hE hS hFc 0 rfl rfl) rfl rfl hl.1 rfl (lv_room (Nat.le_of_ble_eq_true rfl)) d_xReader_takeNumbers_19 ⟨Nat.le_of_ble_eq_true rfl, Nat.le_of_ble_eq_true rfl⟩) hS (fun q _ h => hFc q h) hFc (fun r9 u t H1 locs ht hvm hw hB hz1 hk1 hS => ?_)
        obtain ⟨hP1, hK1, hD1⟩ := hB
        rw [ht] at hP1
        have hw := hw.symm
        subst hw
        obtain ⟨hP, hD⟩ := va_join (wr := []) (w1 := [(q_o, .inr (4, f_Reader q_o_text q_o_pen q_o_numbers v_o_at_19 v_o_wrong v_o_moveIsDue)), (q_o_text, .inr (5, f_Row q_o_text_characters v_o_text_length)), (q_o_text_characters, .inl (k_o_text_characters, 1200, .inl c_o_text_characters)), (q_o_numbers, .inl (k_o_numbers, 6, .inr (.inl c_o_numbers_19)))]) hP hD [0, 1, 2, 3] [] rfl rfl (by decide) (by decide) hk1 hFc hP1 hD1
        have hP := hP.sub (ws' := [(q_o, .inr (4, f_Reader q_o_text q_o_pen q_o_numbers v_o_at_19 v_o_wrong v_o_moveIsDue)), (q_o_text, .inr (5, f_Row q_o_text_characters v_o_text_length)), (q_o_text_characters, .inl (k_o_text_characters, 1200, .inl c_o_text_characters)), (q_o_numbers, .inl (k_o_numbers, 6, .inr (.inl c_o_numbers_19)))]) [0, 1, 2, 3] rfl
        have hD := hD.sub (ws' := [(q_o, .inr (4, f_Reader q_o_text q_o_pen q_o_numbers v_o_at_19 v_o_wrong v_o_moveIsDue)), (q_o_text, .inr (5, f_Row q_o_text_characters v_o_text_length)), (q_o_text_characters, .inl (k_o_text_characters, 1200, .inl c_o_text_characters)), (q_o_numbers, .inl (k_o_numbers, 6, .inr (.inl c_o_numbers_19)))]) [0, 1, 2, 3] (by decide) rfl
        clear hP1 hK1 hD1 hk1 hPc hDc hKc hFc hz1 hvm ht hz
        generalize H1 = H at hP hS ⊢
        refine lv_if_ne (pc := 22) (tgt := 34) hx hb d_xReader_takeNumbers_22 (by decide) (fun hc => ?_) (fun hc => ?_)
        · rw [if_neg hc] at hf
          refine lv_iinc (pc := 34) (v := (x2 + (1 : Int32))) (lv' := [(2, .int (x2 + (1 : Int32))), (0, .ref q_o), (1, .int x1)]) hx hb d_xReader_takeNumbers_34 hl (k := 2) rfl rfl (by decide) rfl (fun ls hl => ?_)
          refine lv_goto (pc := 37) (tgt := 2) hx hb d_xReader_takeNumbers_37 (by decide) ?_
          exact hk2 x1 (x2 + (1 : Int32)) v_o_at_19 v_o_wrong c_o_numbers_19 _ _ _ hf hP hD hS (lv_sub hl [1, 2, 0] rfl)
        · rw [if_pos hc] at hf
          refine lv_aload_n (pc := 25) hx hb d_xReader_takeNumbers_25 rfl (lv_at hl 0 rfl) ?_
          refine lv_aload_n (pc := 26) hx hb d_xReader_takeNumbers_26 rfl (lv_at hl 0 rfl) ?_
          refine va_get (pc := 27) (D := (dC, dI)) (ci := 4) (v := .int v_o_at_19) (C := "PathTexts$Reader") (T := F_Reader) (N := 6) hx hb hts (fun w h => List.mem_cons_of_mem _ (in_Reader w h)) hown hK hP 0 rfl rfl 3 (by decide) (hts _ (List.mem_cons_of_mem _ kw_106)) (fun _ h9 => h9) fg_Reader_3 d_xReader_takeNumbers_27 ?_
          obtain ⟨r30, v_o_wrong_30, hz, hf⟩ := kb2_some hf
          have hPc := hP.sub (ws' := [(q_o, .inr (4, f_Reader q_o_text q_o_pen q_o_numbers v_o_at_19 v_o_wrong v_o_moveIsDue))]) [0] rfl
          have hDc := hD.sub (ws' := [(q_o, .inr (4, f_Reader q_o_text q_o_pen q_o_numbers v_o_at_19 v_o_wrong v_o_moveIsDue))]) [0] (by decide) rfl
          have hKc := hK.sub (tys' := []) [] rfl
          have hFc := va_free (wc := [(q_o, .inr (4, f_Reader q_o_text q_o_pen q_o_numbers v_o_at_19 v_o_wrong v_o_moveIsDue))]) hD hS hA [0] rfl
          refine va_calli (pc := 30) (va_runV (As := [.int v_o_at_19]) (rest := []) ⟨hx, hb, hml, hown, hts⟩ (ct_xReader_seeWrong l dC dI q_o q_o_text q_o_pen q_o_numbers _ v_o_at_19 v_o_at_19 v_o_wrong v_o_moveIsDue r30 v_o_wrong_30 hz) (cwV 1 hts (kw_in4 kw_244 kw_245 kw_246 kw_3 kw_247) rfl rfl rfl (by decide +kernel) ⟨Nat.le_of_ble_eq_true rfl, Nat.le_of_ble_eq_true rfl⟩) (kx_preV hPc hKc hDc 0 rfl rfl) rfl rfl hl.1 rfl (lv_room (Nat.le_of_ble_eq_true rfl)) d_xReader_takeNumbers_30 ⟨Nat.le_of_ble_eq_true rfl, Nat.le_of_ble_eq_true rfl⟩) hS (fun q _ h => hFc q h) hFc (fun r9 u t H1 locs ht hvm hw hB hz1 hk1 hS => ?_)
          obtain ⟨hP1, hK1, hD1⟩ := hB
          rw [ht] at hP1
          have hw := hw.symm
          subst hw
          obtain ⟨hP, hD⟩ := va_join (wr := [(q_o_text, .inr (5, f_Row q_o_text_characters v_o_text_length)), (q_o_text_characters, .inl (k_o_text_characters, 1200, .inl c_o_text_characters)), (q_o_numbers, .inl (k_o_numbers, 6, .inr (.inl c_o_numbers_19)))]) (w1 := [(q_o, .inr (4, f_Reader q_o_text q_o_pen q_o_numbers v_o_at_19 v_o_wrong_30 v_o_moveIsDue))]) hP hD [0] [1, 2, 3] rfl rfl (by decide) (by decide) hk1 hFc hP1 hD1
          have hP := hP.sub (ws' := [(q_o, .inr (4, f_Reader q_o_text q_o_pen q_o_numbers v_o_at_19 v_o_wrong_30 v_o_moveIsDue)), (q_o_text, .inr (5, f_Row q_o_text_characters v_o_text_length)), (q_o_text_characters, .inl (k_o_text_characters, 1200, .inl c_o_text_characters)), (q_o_numbers, .inl (k_o_numbers, 6, .inr (.inl c_o_numbers_19)))]) [3, 0, 1, 2] rfl
          have hD := hD.sub (ws' := [(q_o, .inr (4, f_Reader q_o_text q_o_pen q_o_numbers v_o_at_19 v_o_wrong_30 v_o_moveIsDue)), (q_o_text, .inr (5, f_Row q_o_text_characters v_o_text_length)), (q_o_text_characters, .inl (k_o_text_characters, 1200, .inl c_o_text_characters)), (q_o_numbers, .inl (k_o_numbers, 6, .inr (.inl c_o_numbers_19)))]) [3, 0, 1, 2] (by decide) rfl
          clear hP1 hK1 hD1 hk1 hPc hDc hKc hFc hz1 hvm ht hz
          generalize H1 = H at hP hS ⊢
          obtain ⟨hg1, hf⟩ := kg_some hf
          obtain ⟨e_0, e_1, e_2, e_3⟩ := kr4 hf
          rw [e_0]
          exact hRet (by rw [← e_0]; exact kz_n hg1) 33 _ _ _ d_xReader_takeNumbers_33 (by rw [← e_1, ← e_2, ← e_3]; exact hP) (by rw [← e_1, ← e_2, ← e_3]; exact hD) hS
  have hL2 : ∀ n : Nat, ∀ (x1 : Int32) (x2 : Int32) (v_o_at : Int32) (v_o_wrong : Int32) (c_o_numbers : (Nat → Int64)) (H : Heap) (locs : List Loc) (ls : Array Slot), (xReader_takeNumbers_L2 N n) x1 x2 v_o_at v_o_wrong v_o_text_length c_o_text_characters c_o_numbers = some (rv, v_o_at_z, v_o_wrong_z, c_o_numbers_z) → va_P (dC, dI) clz [(q_o, .inr (4, f_Reader q_o_text q_o_pen q_o_numbers v_o_at v_o_wrong v_o_moveIsDue)), (q_o_text, .inr (5, f_Row q_o_text_characters v_o_text_length)), (q_o_text_characters, .inl (k_o_text_characters, 1200, .inl c_o_text_characters)), (q_o_numbers, .inl (k_o_numbers, 6, .inr (.inl c_o_numbers)))] H → va_D A [(q_o, .inr (4, f_Reader q_o_text q_o_pen q_o_numbers v_o_at v_o_wrong v_o_moveIsDue)), (q_o_text, .inr (5, f_Row q_o_text_characters v_o_text_length)), (q_o_text_characters, .inl (k_o_text_characters, 1200, .inl c_o_text_characters)), (q_o_numbers, .inl (k_o_numbers, 6, .inr (.inl c_o_numbers)))] → va_S A s.heap H locs → lv_has ls 3 [(0, .ref q_o), (1, .int x1), (2, .int x2)] → W p l e (headSpec w_xReader_takeNumbers ({ frames := 3, cells := 0, slots := 0, locals := 78 })).room s m args below meth c H locs 0 0 Q (F0 m 2 ls []) := by
    intro n
    induction n with
    | zero => intro x1 x2 v_o_at v_o_wrong c_o_numbers H locs ls hf hP hD hS hl; have hf : none = some (rv, v_o_at_z, v_o_wrong_z, c_o_numbers_z) := hf; cases hf
    | succ n ih => exact hB2 (xReader_takeNumbers_L2 N n) ih
  rw [xReader_takeNumbers] at hf
  refine lv_iconst (pc := 0) (v := (0 : Int32)) hx hb d_xReader_takeNumbers_0 (by decide) ?_
  refine lv_istore_n (pc := 1) (lv' := [(2, .int (0 : Int32)), (0, .ref q_o), (1, .int x1)]) hx hb d_xReader_takeNumbers_1 rfl hl (by decide) rfl (fun ls hl => ?_)
  exact hL2 N x1 (0 : Int32) v_o_at v_o_wrong c_o_numbers _ _ _ hf hP hD hS (lv_sub hl [1, 2, 0] rfl)
set_option maxHeartbeats 4000000 in
set_option maxRecDepth 100000 in
theorem ct_xWriter_leastDigitsBehind (l : Launch) (dC : Nat → ClassId) (dI : Nat → Nat → Nat) (sz : Nat) (tt : Nat) (N : Nat) (x0 : Int32) (x1 : Int64) (rv : Int32) (hf : xWriter_leastDigitsBehind N x0 x1 = some rv) : Met l y_xWriter_leastDigitsBehind w_xWriter_leastDigitsBehind ({ frames := 2, cells := 0, slots := 0, locals := 48 }) (va_Pc [.int x0, .long x1] (fun U => U.heap.size = sz ∧ va_P (dC, dI) clz [] U.heap ∧ va_K (dC, dI) clz [] U ∧ va_D (fun _ => True) [] ∧ ke tt (va_A [] sz) U)) (va_Qi (fun (r9 : Int32) (_ : Unit) => r9 = rv) (fun _ t => va_P (dC, dI) clz [] t.heap ∧ va_K (dC, dI) clz [] t ∧ va_D (va_A [] sz) []) (va_A [] sz)) 0 0 (va_A [] sz) := by
  refine Met.ofW (cc := prog_8_method_5_code) (maxL := 8) (ret := (some .int)) (by decide +kernel) rfl ?_
  intro p e s m args below meth c s₁ B hml hv
  obtain ⟨hargs, hsz, hP, hK, hD0, hE⟩ := hv
  have hx := B.exec
  have hb := B.bytes
  have hr := B.returns
  have hts := atoms_spec (ws := w_xWriter_leastDigitsBehind) B.pre
  have hown : s.vm.findClass "PathTexts$Writer" = some m.cls := findClass_of_methodNamed B.named
  have hlocks := B.notSynchronized
  subst hsz
  have hD := hD0.self (sz := s.heap.size)
  generalize hAe : va_A [] s.heap.size = A at hD hE ⊢
  have hA : ∀ q : Nat, s.heap.size ≤ q → A q := fun q h => by rw [← hAe]; exact Or.inr h
  clear hAe hD0
  have hS : va_S A s.heap s.heap [] := va_S.rf
  have hl := lv_entry ([.int x0, .long x1]) (n := 8) (Nat.le_of_ble_eq_true rfl)
  have hent : entryFrame m args 8 = F0 m 0 (lg_sl ([.int x0, .long x1]) ++ List.replicate (8 - (lg_sl ([.int x0, .long x1])).length) Slot.unset).toArray [] := by rw [hargs, lg_entry_eq]
  rw [hent]
  clear hent hargs
  generalize (lg_sl ([.int x0, .long x1]) ++ List.replicate (8 - (lg_sl ([.int x0, .long x1])).length) Slot.unset).toArray = ls at hl ⊢
  have hl : lv_has ls 8 [(0, .int x0), (1, .long x1)] := hl
  suffices key : ∀ Q : State → Prop, (∀ (pc : Nat) (H : Heap) (locs : List Loc) (ls : Array Slot), decode prog_8_method_5_code pc = .ok (.ireturn, 1) → va_P (dC, dI) clz [] H → va_D A [] → va_S A s.heap H locs → W p l e (headSpec w_xWriter_leastDigitsBehind ({ frames := 2, cells := 0, slots := 0, locals := 48 })).room s m args below meth c H locs 0 0 Q (F0 m pc ls [.int rv])) → W p l e (headSpec w_xWriter_leastDigitsBehind ({ frames := 2, cells := 0, slots := 0, locals := 48 })).room s m args below meth c s.heap [] 0 0 Q (F0 m 0 ls []) from key _ (fun pc H locs ls hd hP hD hS => W.iret hx hb hr (fun t ht hW => ⟨⟨rv, (), rfl, rfl, by rw [ht]; exact hP, va_K.moved hW.alike hK, hD⟩, hS.F ht⟩) hS.2.2 hd)
  intro Q hRet
  have hb26 : ∀ (k2 : Int32 → Int64 → Int32 → Option (Int32)), (∀ (x0 : Int32) (x1 : Int64) (x3 : Int32) (H : Heap) (locs : List Loc) (ls : Array Slot), k2 x0 x1 x3 = some rv → va_P (dC, dI) clz [] H → va_D A [] → va_S A s.heap H locs → lv_has ls 8 [(0, .int x0), (1, .long x1), (3, .int x3)] → W p l e (headSpec w_xWriter_leastDigitsBehind ({ frames := 2, cells := 0, slots := 0, locals := 48 })).room s m args below meth c H locs 0 0 Q (F0 m 2 ls [])) → ∀ (x0 : Int32) (x1 : Int64) (x3 : Int32) (s0 : Int64) (H : Heap) (locs : List Loc) (ls : Array Slot), xWriter_leastDigitsBehind_b26 N k2 x0 x1 x3 s0 = some rv → va_P (dC, dI) clz [] H → va_D A [] → va_S A s.heap H locs → lv_has ls 8 [(0, .int x0), (1, .long x1), (3, .int x3)] → W p l e (headSpec w_xWriter_leastDigitsBehind ({ frames := 2, cells := 0, slots := 0, locals := 48 })).room s m args below meth c H locs 0 0 Q (F0 m 26 ls [.long s0]) := by
    intro k2 hk2
    intro x0 x1 x3 s0 H locs ls hf hP hD hS hl
    rw [xWriter_leastDigitsBehind_b26] at hf
    refine lv_ldc2 (pc := 26) hx hb hown (hts _ (List.mem_cons_of_mem _ kw_378)) d_xWriter_leastDigitsBehind_26 ?_
    refine lv_lmul (pc := 29) hx hb d_xWriter_leastDigitsBehind_29 ?_
    refine lv_iload_n (pc := 30) hx hb d_xWriter_leastDigitsBehind_30 rfl (lv_at hl 2 rfl) ?_
    obtain ⟨r31, hz, hf⟩ := kb1_some hf
    have hPc := hP.sub (ws' := []) [] rfl
    have hDc := hD.sub (ws' := []) [] (by decide) rfl
    have hKc := hK.sub (tys' := []) [] rfl
    have hFc := va_free (wc := []) hD hS hA [] rfl
    refine va_calll (pc := 31) (va_runS (As := [.int x3]) (rest := [.long (s0 * (256 : Int64))]) ⟨hx, hb, hml, hown, hts⟩ (ct_xWriter_tens l dC dI _ tt x3 r31 hz) (va_cwS 1 hts (kw_in3 kw_374 kw_375 kw_18 kw_376) rfl rfl rfl (by decide +kernel) ⟨Nat.le_of_ble_eq_true rfl, Nat.le_of_ble_eq_true rfl⟩) (ke_pre hPc hKc hDc hE hS hFc) rfl rfl hl.1 rfl (lv_room (Nat.le_of_ble_eq_true rfl)) d_xWriter_leastDigitsBehind_31 ⟨Nat.le_of_ble_eq_true rfl, Nat.le_of_ble_eq_true rfl⟩) hS (fun q _ h => hFc q h) hFc (fun r9 u t H1 locs ht hvm hw hB hz1 hk1 hS => ?_)
    obtain ⟨hP1, hK1, hD1⟩ := hB
    rw [ht] at hP1
    have hw := hw.symm
    subst hw
    obtain ⟨hP, hD⟩ := va_join (wr := []) (w1 := []) hP hD [] [] rfl rfl (by decide) (by decide) hk1 hFc hP1 hD1
    have hP := hP.sub (ws' := []) [] rfl
    have hD := hD.sub (ws' := []) [] (by decide) rfl
    clear hP1 hK1 hD1 hk1 hPc hDc hKc hFc hz1 hvm ht hz
    generalize H1 = H at hP hS ⊢
    obtain ⟨r34, hz, hf⟩ := kb1_some hf
    have hPc := hP.sub (ws' := []) [] rfl
    have hDc := hD.sub (ws' := []) [] (by decide) rfl
    have hKc := hK.sub (tys' := []) [] rfl
    have hFc := va_free (wc := []) hD hS hA [] rfl
    refine va_calll (pc := 34) (va_runSN (As := [.long (s0 * (256 : Int64)), .long r31]) (rest := []) ⟨hx, hb, hml, hown, hts⟩ (ct_xP_nearest l dC dI _ (s0 * (256 : Int64)) r31 r34 hz) ⟨va_cnB 2 hts (kw_in kw_265) rfl rfl rfl (hE.1 _ kn_15) (hts _ (List.mem_cons_of_mem _ kw_1)) (by decide +kernel) ⟨Nat.le_of_ble_eq_true rfl, Nat.le_of_ble_eq_true rfl⟩, hts _ (List.mem_cons_of_mem _ kw_264), trivial⟩ (kx_pre hPc hKc hDc) rfl rfl hl.1 rfl (lv_room (Nat.le_of_ble_eq_true rfl)) d_xWriter_leastDigitsBehind_34 ⟨Nat.le_of_ble_eq_true rfl, Nat.le_of_ble_eq_true rfl⟩) hS (fun q _ h => hFc q h) hFc (fun r9 u t H1 locs ht hvm hw hB hz1 hk1 hS => ?_)
    obtain ⟨hP1, hK1, hD1⟩ := hB
    rw [ht] at hP1
    have hw := hw.symm
    subst hw
    obtain ⟨hP, hD⟩ := va_join (wr := []) (w1 := []) hP hD [] [] rfl rfl (by decide) (by decide) hk1 hFc hP1 hD1
    have hP := hP.sub (ws' := []) [] rfl
    have hD := hD.sub (ws' := []) [] (by decide) rfl
    clear hP1 hK1 hD1 hk1 hPc hDc hKc hFc hz1 hvm ht hz
    generalize H1 = H at hP hS ⊢
    refine lv_lstore (pc := 37) (lv' := [(6, .long r34), (0, .int x0), (1, .long x1), (3, .int x3)]) hx hb d_xWriter_leastDigitsBehind_37 hl (by decide) rfl (fun ls hl => ?_)
    refine lv_lload (pc := 39) hx hb d_xWriter_leastDigitsBehind_39 (lv_at hl 0 rfl) ?_
    refine lv_iload_n (pc := 41) hx hb d_xWriter_leastDigitsBehind_41 rfl (lv_at hl 1 rfl) ?_
    refine lv_i2l (pc := 42) hx hb d_xWriter_leastDigitsBehind_42 rfl ?_
    refine kx_lcne (pc := 43) (tgt := 49) hx hb d_xWriter_leastDigitsBehind_43 d_xWriter_leastDigitsBehind_44 (by decide) (fun hc => ?_) (fun hc => ?_)
    · rw [if_neg hc] at hf
      refine lv_iinc (pc := 49) (v := (x3 + (1 : Int32))) (lv' := [(3, .int (x3 + (1 : Int32))), (6, .long r34), (0, .int x0), (1, .long x1)]) hx hb d_xWriter_leastDigitsBehind_49 hl (k := 3) rfl rfl (by decide) rfl (fun ls hl => ?_)
      refine lv_goto (pc := 52) (tgt := 2) hx hb d_xWriter_leastDigitsBehind_52 (by decide) ?_
      exact hk2 x0 x1 (x3 + (1 : Int32)) _ _ _ hf hP hD hS (lv_sub hl [2, 3, 0] rfl)
    · rw [if_pos hc] at hf
      refine lv_iload_n (pc := 47) hx hb d_xWriter_leastDigitsBehind_47 rfl (lv_at hl 3 rfl) ?_
      have e_0 := kr1 hf
      rw [e_0]
      exact hRet 48 _ _ _ d_xWriter_leastDigitsBehind_48 hP hD hS
  have hB2 : ∀ (k2 : Int32 → Int64 → Int32 → Option (Int32)), (∀ (x0 : Int32) (x1 : Int64) (x3 : Int32) (H : Heap) (locs : List Loc) (ls : Array Slot), k2 x0 x1 x3 = some rv → va_P (dC, dI) clz [] H → va_D A [] → va_S A s.heap H locs → lv_has ls 8 [(0, .int x0), (1, .long x1), (3, .int x3)] → W p l e (headSpec w_xWriter_leastDigitsBehind ({ frames := 2, cells := 0, slots := 0, locals := 48 })).room s m args below meth c H locs 0 0 Q (F0 m 2 ls [])) → ∀ (x0 : Int32) (x1 : Int64) (x3 : Int32) (H : Heap) (locs : List Loc) (ls : Array Slot), xWriter_leastDigitsBehind_B2 N k2 x0 x1 x3 = some rv → va_P (dC, dI) clz [] H → va_D A [] → va_S A s.heap H locs → lv_has ls 8 [(0, .int x0), (1, .long x1), (3, .int x3)] → W p l e (headSpec w_xWriter_leastDigitsBehind ({ frames := 2, cells := 0, slots := 0, locals := 48 })).room s m args below meth c H locs 0 0 Q (F0 m 2 ls []) := by
    intro k2 hk2
    intro x0 x1 x3 H locs ls hf hP hD hS hl
    rw [xWriter_leastDigitsBehind_B2] at hf
    refine lv_iload_n (pc := 2) hx hb d_xWriter_leastDigitsBehind_2 rfl (lv_at hl 2 rfl) ?_
    refine lv_iconst (pc := 3) (v := (3 : Int32)) hx hb d_xWriter_leastDigitsBehind_3 (by decide) ?_
    refine lv_icmp_ge (pc := 4) (tgt := 55) hx hb d_xWriter_leastDigitsBehind_4 (by decide) (fun hc => ?_) (fun hc => ?_)
    · rw [if_pos hc] at hf
      refine lv_iconst (pc := 55) (v := (3 : Int32)) hx hb d_xWriter_leastDigitsBehind_55 (by decide) ?_
      have e_0 := kr1 hf
      rw [e_0]
      exact hRet 56 _ _ _ d_xWriter_leastDigitsBehind_56 hP hD hS
    · rw [if_neg hc] at hf
      refine lv_lload_n (pc := 7) hx hb d_xWriter_leastDigitsBehind_7 rfl (lv_at hl 1 rfl) ?_
      refine lv_iload_n (pc := 8) hx hb d_xWriter_leastDigitsBehind_8 rfl (lv_at hl 2 rfl) ?_
      obtain ⟨r9, hz, hf⟩ := kb1_some hf
      have hPc := hP.sub (ws' := []) [] rfl
      have hDc := hD.sub (ws' := []) [] (by decide) rfl
      have hKc := hK.sub (tys' := []) [] rfl
      have hFc := va_free (wc := []) hD hS hA [] rfl
      refine va_calll (pc := 9) (va_runS (As := [.long x1, .int x3]) (rest := []) ⟨hx, hb, hml, hown, hts⟩ (ct_xWriter_decimalNextTo l dC dI _ tt x1 x3 r9 hz) (va_cwS 2 hts (kw_in3 kw_370 kw_371 kw_18 kw_372) rfl rfl rfl (by decide +kernel) ⟨Nat.le_of_ble_eq_true rfl, Nat.le_of_ble_eq_true rfl⟩) (ke_pre hPc hKc hDc hE hS hFc) rfl rfl hl.1 rfl (lv_room (Nat.le_of_ble_eq_true rfl)) d_xWriter_leastDigitsBehind_9 ⟨Nat.le_of_ble_eq_true rfl, Nat.le_of_ble_eq_true rfl⟩) hS (fun q _ h => hFc q h) hFc (fun r9 u t H1 locs ht hvm hw hB hz1 hk1 hS => ?_)
      obtain ⟨hP1, hK1, hD1⟩ := hB
      rw [ht] at hP1
      have hw := hw.symm
      subst hw
      obtain ⟨hP, hD⟩ := va_join (wr := []) (w1 := []) hP hD [] [] rfl rfl (by decide) (by decide) hk1 hFc hP1 hD1
      have hP := hP.sub (ws' := []) [] rfl
      have hD := hD.sub (ws' := []) [] (by decide) rfl
      clear hP1 hK1 hD1 hk1 hPc hDc hKc hFc hz1 hvm ht hz
      generalize H1 = H at hP hS ⊢
      refine lv_lstore (pc := 12) (lv' := [(4, .long r9), (0, .int x0), (1, .long x1), (3, .int x3)]) hx hb d_xWriter_leastDigitsBehind_12 hl (by decide) rfl (fun ls hl => ?_)
      refine lv_iload_n (pc := 14) hx hb d_xWriter_leastDigitsBehind_14 rfl (lv_at hl 1 rfl) ?_
      refine lv_if_ge (pc := 15) (tgt := 24) hx hb d_xWriter_leastDigitsBehind_15 (by decide) (fun hc => ?_) (fun hc => ?_)
      · rw [if_pos hc] at hf
        refine lv_lload (pc := 24) hx hb d_xWriter_leastDigitsBehind_24 (lv_at hl 0 rfl) ?_
        exact hb26 k2 hk2 x0 x1 x3 r9 _ _ _ hf hP hD hS (lv_sub hl [1, 2, 3] rfl)
      · rw [if_neg hc] at hf
        refine lv_lload (pc := 18) hx hb d_xWriter_leastDigitsBehind_18 (lv_at hl 0 rfl) ?_
        refine lv_lneg (pc := 20) hx hb d_xWriter_leastDigitsBehind_20 ?_
        refine lv_goto (pc := 21) (tgt := 26) hx hb d_xWriter_leastDigitsBehind_21 (by decide) ?_
        exact hb26 k2 hk2 x0 x1 x3 (-r9) _ _ _ hf hP hD hS (lv_sub hl [1, 2, 3] rfl)
  have hL2 : ∀ n : Nat, ∀ (x0 : Int32) (x1 : Int64) (x3 : Int32) (H : Heap) (locs : List Loc) (ls : Array Slot), (xWriter_leastDigitsBehind_L2 N n) x0 x1 x3 = some rv → va_P (dC, dI) clz [] H → va_D A [] → va_S A s.heap H locs → lv_has ls 8 [(0, .int x0), (1, .long x1), (3, .int x3)] → W p l e (headSpec w_xWriter_leastDigitsBehind ({ frames := 2, cells := 0, slots := 0, locals := 48 })).room s m args below meth c H locs 0 0 Q (F0 m 2 ls []) := by
    intro n
    induction n with
    | zero => intro x0 x1 x3 H locs ls hf hP hD hS hl; have hf : none = some rv := hf; cases hf
    | succ n ih => exact hB2 (xWriter_leastDigitsBehind_L2 N n) ih
  rw [xWriter_leastDigitsBehind] at hf
  refine lv_iconst (pc := 0) (v := (0 : Int32)) hx hb d_xWriter_leastDigitsBehind_0 (by decide) ?_
  refine lv_istore_n (pc := 1) (lv' := [(3, .int (0 : Int32)), (0, .int x0), (1, .long x1)]) hx hb d_xWriter_leastDigitsBehind_1 rfl hl (by decide) rfl (fun ls hl => ?_)
  exact hL2 N x0 x1 (0 : Int32) _ _ _ hf hP hD hS (lv_sub hl [1, 2, 0] rfl)
