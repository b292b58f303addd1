set_option maxHeartbeats 4000000 in
set_option maxRecDepth 100000 in
theorem ct_jMath_floorDiv (l : Launch) (dC : Nat → ClassId) (dI : Nat → Nat → Nat) (sz : Nat) (x0 : Int64) (x2 : Int64) (rv : Int64) (hf : jMath_floorDiv x0 x2 = some rv) : Met l y_jMath_floorDiv w_jMath_floorDiv ({ frames := 0, cells := 0, slots := 0, locals := 0 }) (va_Pc [.long x0, .long x2] (fun U => U.heap.size = sz ∧ va_P (dC, dI) clz [] U.heap ∧ va_K (dC, dI) clz [] U ∧ va_D (fun _ => True) [])) (va_Ql (fun (r9 : Int64) (_ : Unit) => r9 = rv) (fun _ t => va_P (dC, dI) clz [] t.heap ∧ va_K (dC, dI) clz [] t ∧ va_D (va_A [] sz) []) (va_A [] sz)) 0 0 (va_A [] sz) := by
  refine va_MetF (cc := prog_15_method_49_code) (maxL := 6) (ret := (some .long)) (by decide +kernel) rfl ?_
  intro p e s m args below meth c s₁ B hml hv
  obtain ⟨hargs, hsz, hP, hK, hD0⟩ := hv
  have hx := B.exec
  have hb := B.bytes
  have hr := B.returns
  have hts := atoms_spec (ws := w_jMath_floorDiv) B.pre
  have hown : s.vm.findClass "java/lang/Math" = some m.cls := findClass_of_methodNamed B.named
  have hlocks := B.notSynchronized
  subst hsz
  have hD := hD0.self (sz := s.heap.size)
  generalize hAe : va_A [] s.heap.size = A at hD ⊢
  have hA : ∀ q : Nat, s.heap.size ≤ q → A q := fun q h => by rw [← hAe]; exact Or.inr h
  clear hAe hD0
  have hS : va_S A s.heap s.heap [] := va_S.rf
  have hl := lv_entry ([.long x0, .long x2]) (n := 6) (Nat.le_of_ble_eq_true rfl)
  have hent : entryFrame m args 6 = F0 m 0 (lg_sl ([.long x0, .long x2]) ++ List.replicate (6 - (lg_sl ([.long x0, .long x2])).length) Slot.unset).toArray [] := by rw [hargs, lg_entry_eq]
  rw [hent]
  clear hent hargs
  generalize (lg_sl ([.long x0, .long x2]) ++ List.replicate (6 - (lg_sl ([.long x0, .long x2])).length) Slot.unset).toArray = ls at hl ⊢
  have hl : lv_has ls 6 [(0, .long x0), (2, .long x2)] := hl
  suffices key : ∀ Q : State → Prop, (∀ (pc : Nat) (H : Heap) (locs : List Loc) (ls : Array Slot), decode prog_15_method_49_code pc = .ok (.lreturn, 1) → va_P (dC, dI) clz [] H → va_D A [] → va_S A s.heap H locs → W p l e (headSpec w_jMath_floorDiv ({ frames := 0, cells := 0, slots := 0, locals := 0 })).room s m args below meth c H locs 0 0 Q (F0 m pc ls [.long rv])) → W p l e (headSpec w_jMath_floorDiv ({ frames := 0, cells := 0, slots := 0, locals := 0 })).room s m args below meth c s.heap [] 0 0 Q (F0 m 0 ls []) from key _ (fun pc H locs ls hd hP hD hS => W.lret hx hb hr (fun t ht hW => ⟨⟨rv, (), rfl, rfl, by rw [ht]; exact hP, va_K.moved hW.alike hK, hD⟩, hS.F ht⟩) hS.2.2 hd)
  intro Q hRet
  rw [jMath_floorDiv] at hf
  refine lv_lload_n (pc := 0) hx hb d_jMath_floorDiv_0 rfl (lv_at hl 0 rfl) ?_
  refine lv_lload_n (pc := 1) hx hb d_jMath_floorDiv_1 rfl (lv_at hl 1 rfl) ?_
  obtain ⟨hg1, hf⟩ := kg_some hf
  refine lv_ldiv (pc := 2) hx hb d_jMath_floorDiv_2 (kl_ne hg1) ?_
  refine lv_lstore (pc := 3) (lv' := [(4, .long (x0 / x2)), (0, .long x0), (2, .long x2)]) hx hb d_jMath_floorDiv_3 hl (by decide) rfl (fun ls hl => ?_)
  refine lv_lload_n (pc := 5) hx hb d_jMath_floorDiv_5 rfl (lv_at hl 1 rfl) ?_
  refine lv_lload_n (pc := 6) hx hb d_jMath_floorDiv_6 rfl (lv_at hl 2 rfl) ?_
  refine lv_lxor (pc := 7) hx hb d_jMath_floorDiv_7 ?_
  refine lv_lconst (pc := 8) (v := (0 : Int64)) hx hb d_jMath_floorDiv_8 (by decide) ?_
  refine kx_lcge (pc := 9) (tgt := 27) hx hb d_jMath_floorDiv_9 d_jMath_floorDiv_10 (by decide) (fun hc => ?_) (fun hc => ?_)
  · rw [if_pos hc] at hf
    refine lv_lload (pc := 27) hx hb d_jMath_floorDiv_27 (lv_at hl 0 rfl) ?_
    have e_0 := kr1 hf
    rw [e_0]
    exact hRet 29 _ _ _ d_jMath_floorDiv_29 hP hD hS
  · rw [if_neg hc] at hf
    refine lv_lload (pc := 13) hx hb d_jMath_floorDiv_13 (lv_at hl 0 rfl) ?_
    refine lv_lload_n (pc := 15) hx hb d_jMath_floorDiv_15 rfl (lv_at hl 2 rfl) ?_
    refine lv_lmul (pc := 16) hx hb d_jMath_floorDiv_16 ?_
    refine lv_lload_n (pc := 17) hx hb d_jMath_floorDiv_17 rfl (lv_at hl 1 rfl) ?_
    refine kx_lceq (pc := 18) (tgt := 27) hx hb d_jMath_floorDiv_18 d_jMath_floorDiv_19 (by decide) (fun hc => ?_) (fun hc => ?_)
    · rw [if_pos hc] at hf
      refine lv_lload (pc := 27) hx hb d_jMath_floorDiv_27 (lv_at hl 0 rfl) ?_
      have e_0 := kr1 hf
      rw [e_0]
      exact hRet 29 _ _ _ d_jMath_floorDiv_29 hP hD hS
    · rw [if_neg hc] at hf
      refine lv_lload (pc := 22) hx hb d_jMath_floorDiv_22 (lv_at hl 0 rfl) ?_
      refine lv_lconst (pc := 24) (v := (1 : Int64)) hx hb d_jMath_floorDiv_24 (by decide) ?_
      refine lv_lsub (pc := 25) hx hb d_jMath_floorDiv_25 ?_
      have e_0 := kr1 hf
      rw [e_0]
      exact hRet 26 _ _ _ d_jMath_floorDiv_26 hP hD hS
set_option maxHeartbeats 4000000 in
set_option maxRecDepth 100000 in
theorem ct_jArrays_fillJ (l : Launch) (dC : Nat → ClassId) (dI : Nat → Nat → Nat) (q_p1 : Nat) (k_p1 : ClassId) (sz : Nat) (N : Nat) (n_p1 : Nat) (x1 : Int64) (c_p1 : (Nat → Int64)) (c_p1_z : (Nat → Int64)) (hf : jArrays_fillJ N n_p1 x1 c_p1 = some c_p1_z) : Met l y_jArrays_fillJ w_jArrays_fillJ ({ frames := 0, cells := 0, slots := 0, locals := 0 }) (va_Pc [.ref q_p1, .long x1] (fun U => U.heap.size = sz ∧ va_P (dC, dI) clz [(q_p1, .inl (k_p1, n_p1, .inr (.inl c_p1)))] U.heap ∧ va_K (dC, dI) clz [(k_p1, .long)] U ∧ va_D (fun _ => True) [(q_p1, .inl (k_p1, n_p1, .inr (.inl c_p1)))])) (va_Qv (fun _ : Unit => True) (fun _ t => va_P (dC, dI) clz [(q_p1, .inl (k_p1, n_p1, .inr (.inl c_p1_z)))] t.heap ∧ va_K (dC, dI) clz [(k_p1, .long)] t ∧ va_D (va_A [(q_p1, .inl (k_p1, n_p1, .inr (.inl c_p1)))] sz) [(q_p1, .inl (k_p1, n_p1, .inr (.inl c_p1_z)))]) (va_A [(q_p1, .inl (k_p1, n_p1, .inr (.inl c_p1)))] sz)) 0 0 (va_A [(q_p1, .inl (k_p1, n_p1, .inr (.inl c_p1)))] sz) := by
  refine Met.ofW (cc := prog_20_method_101_code) (maxL := 5) (ret := none) (by decide +kernel) rfl ?_
  intro p e s m args below meth c s₁ B hml hv
  obtain ⟨hargs, hsz, hP, hK, hD0⟩ := hv
  have hx := B.exec
  have hb := B.bytes
  have hr := B.returns
  have hts := atoms_spec (ws := w_jArrays_fillJ) B.pre
  have hown : s.vm.findClass "java/util/Arrays" = some m.cls := findClass_of_methodNamed B.named
  have hlocks := B.notSynchronized
  subst hsz
  have hD := hD0.self (sz := s.heap.size)
  generalize hAe : va_A [(q_p1, .inl (k_p1, n_p1, .inr (.inl c_p1)))] s.heap.size = A at hD ⊢
  have hA : ∀ q : Nat, s.heap.size ≤ q → A q := fun q h => by rw [← hAe]; exact Or.inr h
  clear hAe hD0
  have hS : va_S A s.heap s.heap [] := va_S.rf
  have hl := lv_entry ([.ref q_p1, .long x1]) (n := 5) (Nat.le_of_ble_eq_true rfl)
  have hent : entryFrame m args 5 = F0 m 0 (lg_sl ([.ref q_p1, .long x1]) ++ List.replicate (5 - (lg_sl ([.ref q_p1, .long x1])).length) Slot.unset).toArray [] := by rw [hargs, lg_entry_eq]
  rw [hent]
  clear hent hargs
  generalize (lg_sl ([.ref q_p1, .long x1]) ++ List.replicate (5 - (lg_sl ([.ref q_p1, .long x1])).length) Slot.unset).toArray = ls at hl ⊢
  have hl : lv_has ls 5 [(0, .ref q_p1), (1, .long x1)] := hl
  suffices key : ∀ Q : State → Prop, (∀ (pc : Nat) (H : Heap) (locs : List Loc) (ls : Array Slot), decode prog_20_method_101_code pc = .ok (.return_, 1) → va_P (dC, dI) clz [(q_p1, .inl (k_p1, n_p1, .inr (.inl c_p1_z)))] H → va_D A [(q_p1, .inl (k_p1, n_p1, .inr (.inl c_p1_z)))] → va_S A s.heap H locs → W p l e (headSpec w_jArrays_fillJ ({ frames := 0, cells := 0, slots := 0, locals := 0 })).room s m args below meth c H locs 0 0 Q (F0 m pc ls [])) → W p l e (headSpec w_jArrays_fillJ ({ frames := 0, cells := 0, slots := 0, locals := 0 })).room s m args below meth c s.heap [] 0 0 Q (F0 m 0 ls []) from key _ (fun pc H locs ls hd hP hD hS => W.vret hx hb hr (fun t ht hW => ⟨⟨(), rfl, trivial, by rw [ht]; exact hP, va_K.moved hW.alike hK, hD⟩, hS.F ht⟩) hS.2.2 hd)
  intro Q hRet
  have hB6 : ∀ (k6 : Int64 → Int32 → Int32 → (Nat → Int64) → Option ((Nat → Int64))), (∀ (x1 : Int64) (x3 : Int32) (x4 : Int32) (c_p1 : (Nat → Int64)) (H : Heap) (locs : List Loc) (ls : Array Slot), k6 x1 x3 x4 c_p1 = some c_p1_z → va_P (dC, dI) clz [(q_p1, .inl (k_p1, n_p1, .inr (.inl c_p1)))] H → va_D A [(q_p1, .inl (k_p1, n_p1, .inr (.inl c_p1)))] → va_S A s.heap H locs → lv_has ls 5 [(0, .ref q_p1), (1, .long x1), (3, .int x3), (4, .int x4)] → W p l e (headSpec w_jArrays_fillJ ({ frames := 0, cells := 0, slots := 0, locals := 0 })).room s m args below meth c H locs 0 0 Q (F0 m 6 ls [])) → ∀ (x1 : Int64) (x3 : Int32) (x4 : Int32) (c_p1 : (Nat → Int64)) (H : Heap) (locs : List Loc) (ls : Array Slot), jArrays_fillJ_B6 N n_p1 k6 x1 x3 x4 c_p1 = some c_p1_z → va_P (dC, dI) clz [(q_p1, .inl (k_p1, n_p1, .inr (.inl c_p1)))] H → va_D A [(q_p1, .inl (k_p1, n_p1, .inr (.inl c_p1)))] → va_S A s.heap H locs → lv_has ls 5 [(0, .ref q_p1), (1, .long x1), (3, .int x3), (4, .int x4)] → W p l e (headSpec w_jArrays_fillJ ({ frames := 0, cells := 0, slots := 0, locals := 0 })).room s m args below meth c H locs 0 0 Q (F0 m 6 ls []) := by
    intro k6 hk6
    intro x1 x3 x4 c_p1 H locs ls hf hP hD hS hl
    rw [jArrays_fillJ_B6] at hf
    refine lv_iload_n (pc := 6) hx hb d_jArrays_fillJ_6 rfl (lv_at hl 2 rfl) ?_
    refine lv_iload (pc := 7) hx hb d_jArrays_fillJ_7 (lv_at hl 3 rfl) ?_
    refine lv_icmp_ge (pc := 9) (tgt := 22) hx hb d_jArrays_fillJ_9 (by decide) (fun hc => ?_) (fun hc => ?_)
    · rw [if_pos hc] at hf
      have e_0 := kr1 hf
      exact hRet 22 _ _ _ d_jArrays_fillJ_22 (by rw [← e_0]; exact hP) (by rw [← e_0]; exact hD) hS
    · rw [if_neg hc] at hf
      refine lv_aload_n (pc := 12) hx hb d_jArrays_fillJ_12 rfl (lv_at hl 0 rfl) ?_
      refine lv_iload_n (pc := 13) hx hb d_jArrays_fillJ_13 rfl (lv_at hl 2 rfl) ?_
      refine lv_lload_n (pc := 14) hx hb d_jArrays_fillJ_14 rfl (lv_at hl 1 rfl) ?_
      obtain ⟨hg1, hf⟩ := kg_some hf
      refine kx_last (pc := 15) (ws' := [(q_p1, .inl (k_p1, n_p1, .inr (.inl (vp_updL c_p1 (x3).toNatClampNeg x1))))]) hx hb hK hP hD hS 0 0 rfl rfl (ki_in hg1) rfl d_jArrays_fillJ_15 (fun H locs hP hD hS => ?_)
      refine lv_iinc (pc := 16) (v := (x3 + (1 : Int32))) (lv' := [(3, .int (x3 + (1 : Int32))), (0, .ref q_p1), (1, .long x1), (4, .int x4)]) hx hb d_jArrays_fillJ_16 hl (k := 2) rfl rfl (by decide) rfl (fun ls hl => ?_)
      refine lv_goto (pc := 19) (tgt := 6) hx hb d_jArrays_fillJ_19 (by decide) ?_
      exact hk6 x1 (x3 + (1 : Int32)) x4 (vp_updL c_p1 (x3).toNatClampNeg x1) _ _ _ hf hP hD hS (lv_sub hl [1, 2, 0, 3] rfl)
  have hL6 : ∀ n : Nat, ∀ (x1 : Int64) (x3 : Int32) (x4 : Int32) (c_p1 : (Nat → Int64)) (H : Heap) (locs : List Loc) (ls : Array Slot), (jArrays_fillJ_L6 N n_p1 n) x1 x3 x4 c_p1 = some c_p1_z → va_P (dC, dI) clz [(q_p1, .inl (k_p1, n_p1, .inr (.inl c_p1)))] H → va_D A [(q_p1, .inl (k_p1, n_p1, .inr (.inl c_p1)))] → va_S A s.heap H locs → lv_has ls 5 [(0, .ref q_p1), (1, .long x1), (3, .int x3), (4, .int x4)] → W p l e (headSpec w_jArrays_fillJ ({ frames := 0, cells := 0, slots := 0, locals := 0 })).room s m args below meth c H locs 0 0 Q (F0 m 6 ls []) := by
    intro n
    induction n with
    | zero => intro x1 x3 x4 c_p1 H locs ls hf hP hD hS hl; have hf : none = some c_p1_z := hf; cases hf
    | succ n ih => exact hB6 (jArrays_fillJ_L6 N n_p1 n) ih
  rw [jArrays_fillJ] at hf
  refine lv_iconst (pc := 0) (v := (0 : Int32)) hx hb d_jArrays_fillJ_0 (by decide) ?_
  refine lv_istore_n (pc := 1) (lv' := [(3, .int (0 : Int32)), (0, .ref q_p1), (1, .long x1)]) hx hb d_jArrays_fillJ_1 rfl hl (by decide) rfl (fun ls hl => ?_)
  refine lv_aload_n (pc := 2) hx hb d_jArrays_fillJ_2 rfl (lv_at hl 1 rfl) ?_
  refine va_alen (pc := 3) hx hb hK hP 0 0 rfl rfl (v := (Int32.ofNat n_p1)) rfl d_jArrays_fillJ_3 ?_
  refine lv_istore (pc := 4) (lv' := [(4, .int (Int32.ofNat n_p1)), (3, .int (0 : Int32)), (0, .ref q_p1), (1, .long x1)]) hx hb d_jArrays_fillJ_4 hl (by decide) rfl (fun ls hl => ?_)
  exact hL6 N x1 (0 : Int32) (Int32.ofNat n_p1) c_p1 _ _ _ hf hP hD hS (lv_sub hl [2, 3, 1, 0] rfl)
set_option maxHeartbeats 4000000 in
set_option maxRecDepth 100000 in
theorem ct_jArrays_fillI (l : Launch) (dC : Nat → ClassId) (dI : Nat → Nat → Nat) (q_p1 : Nat) (k_p1 : ClassId) (sz : Nat) (N : Nat) (n_p1 : Nat) (x1 : Int32) (c_p1 : (Nat → Int32)) (c_p1_z : (Nat → Int32)) (hf : jArrays_fillI N n_p1 x1 c_p1 = some c_p1_z) : Met l y_jArrays_fillI w_jArrays_fillI ({ frames := 0, cells := 0, slots := 0, locals := 0 }) (va_Pc [.ref q_p1, .int x1] (fun U => U.heap.size = sz ∧ va_P (dC, dI) clz [(q_p1, .inl (k_p1, n_p1, .inl c_p1))] U.heap ∧ va_K (dC, dI) clz [(k_p1, .int)] U ∧ va_D (fun _ => True) [(q_p1, .inl (k_p1, n_p1, .inl c_p1))])) (va_Qv (fun _ : Unit => True) (fun _ t => va_P (dC, dI) clz [(q_p1, .inl (k_p1, n_p1, .inl c_p1_z))] t.heap ∧ va_K (dC, dI) clz [(k_p1, .int)] t ∧ va_D (va_A [(q_p1, .inl (k_p1, n_p1, .inl c_p1))] sz) [(q_p1, .inl (k_p1, n_p1, .inl c_p1_z))]) (va_A [(q_p1, .inl (k_p1, n_p1, .inl c_p1))] sz)) 0 0 (va_A [(q_p1, .inl (k_p1, n_p1, .inl c_p1))] sz) := by
  refine Met.ofW (cc := prog_20_method_103_code) (maxL := 4) (ret := none) (by decide +kernel) rfl ?_
  intro p e s m args below meth c s₁ B hml hv
  obtain ⟨hargs, hsz, hP, hK, hD0⟩ := hv
  have hx := B.exec
  have hb := B.bytes
  have hr := B.returns
  have hts := atoms_spec (ws := w_jArrays_fillI) B.pre
  have hown : s.vm.findClass "java/util/Arrays" = some m.cls := findClass_of_methodNamed B.named
  have hlocks := B.notSynchronized
  subst hsz
  have hD := hD0.self (sz := s.heap.size)
  generalize hAe : va_A [(q_p1, .inl (k_p1, n_p1, .inl c_p1))] s.heap.size = A at hD ⊢
  have hA : ∀ q : Nat, s.heap.size ≤ q → A q := fun q h => by rw [← hAe]; exact Or.inr h
  clear hAe hD0
  have hS : va_S A s.heap s.heap [] := va_S.rf
  have hl := lv_entry ([.ref q_p1, .int x1]) (n := 4) (Nat.le_of_ble_eq_true rfl)
  have hent : entryFrame m args 4 = F0 m 0 (lg_sl ([.ref q_p1, .int x1]) ++ List.replicate (4 - (lg_sl ([.ref q_p1, .int x1])).length) Slot.unset).toArray [] := by rw [hargs, lg_entry_eq]
  rw [hent]
  clear hent hargs
  generalize (lg_sl ([.ref q_p1, .int x1]) ++ List.replicate (4 - (lg_sl ([.ref q_p1, .int x1])).length) Slot.unset).toArray = ls at hl ⊢
  have hl : lv_has ls 4 [(0, .ref q_p1), (1, .int x1)] := hl
  suffices key : ∀ Q : State → Prop, (∀ (pc : Nat) (H : Heap) (locs : List Loc) (ls : Array Slot), decode prog_20_method_103_code pc = .ok (.return_, 1) → va_P (dC, dI) clz [(q_p1, .inl (k_p1, n_p1, .inl c_p1_z))] H → va_D A [(q_p1, .inl (k_p1, n_p1, .inl c_p1_z))] → va_S A s.heap H locs → W p l e (headSpec w_jArrays_fillI ({ frames := 0, cells := 0, slots := 0, locals := 0 })).room s m args below meth c H locs 0 0 Q (F0 m pc ls [])) → W p l e (headSpec w_jArrays_fillI ({ frames := 0, cells := 0, slots := 0, locals := 0 })).room s m args below meth c s.heap [] 0 0 Q (F0 m 0 ls []) from key _ (fun pc H locs ls hd hP hD hS => W.vret hx hb hr (fun t ht hW => ⟨⟨(), rfl, trivial, by rw [ht]; exact hP, va_K.moved hW.alike hK, hD⟩, hS.F ht⟩) hS.2.2 hd)
  intro Q hRet
  have hB5 : ∀ (k5 : Int32 → Int32 → Int32 → (Nat → Int32) → Option ((Nat → Int32))), (∀ (x1 : Int32) (x2 : Int32) (x3 : Int32) (c_p1 : (Nat → Int32)) (H : Heap) (locs : List Loc) (ls : Array Slot), k5 x1 x2 x3 c_p1 = some c_p1_z → va_P (dC, dI) clz [(q_p1, .inl (k_p1, n_p1, .inl c_p1))] H → va_D A [(q_p1, .inl (k_p1, n_p1, .inl c_p1))] → va_S A s.heap H locs → lv_has ls 4 [(0, .ref q_p1), (1, .int x1), (2, .int x2), (3, .int x3)] → W p l e (headSpec w_jArrays_fillI ({ frames := 0, cells := 0, slots := 0, locals := 0 })).room s m args below meth c H locs 0 0 Q (F0 m 5 ls [])) → ∀ (x1 : Int32) (x2 : Int32) (x3 : Int32) (c_p1 : (Nat → Int32)) (H : Heap) (locs : List Loc) (ls : Array Slot), jArrays_fillI_B5 N n_p1 k5 x1 x2 x3 c_p1 = some c_p1_z → va_P (dC, dI) clz [(q_p1, .inl (k_p1, n_p1, .inl c_p1))] H → va_D A [(q_p1, .inl (k_p1, n_p1, .inl c_p1))] → va_S A s.heap H locs → lv_has ls 4 [(0, .ref q_p1), (1, .int x1), (2, .int x2), (3, .int x3)] → W p l e (headSpec w_jArrays_fillI ({ frames := 0, cells := 0, slots := 0, locals := 0 })).room s m args below meth c H locs 0 0 Q (F0 m 5 ls []) := by
    intro k5 hk5
    intro x1 x2 x3 c_p1 H locs ls hf hP hD hS hl
    rw [jArrays_fillI_B5] at hf
    refine lv_iload_n (pc := 5) hx hb d_jArrays_fillI_5 rfl (lv_at hl 2 rfl) ?_
    refine lv_iload_n (pc := 6) hx hb d_jArrays_fillI_6 rfl (lv_at hl 3 rfl) ?_
    refine lv_icmp_ge (pc := 7) (tgt := 20) hx hb d_jArrays_fillI_7 (by decide) (fun hc => ?_) (fun hc => ?_)
    · rw [if_pos hc] at hf
      have e_0 := kr1 hf
      exact hRet 20 _ _ _ d_jArrays_fillI_20 (by rw [← e_0]; exact hP) (by rw [← e_0]; exact hD) hS
    · rw [if_neg hc] at hf
      refine lv_aload_n (pc := 10) hx hb d_jArrays_fillI_10 rfl (lv_at hl 0 rfl) ?_
      refine lv_iload_n (pc := 11) hx hb d_jArrays_fillI_11 rfl (lv_at hl 2 rfl) ?_
      refine lv_iload_n (pc := 12) hx hb d_jArrays_fillI_12 rfl (lv_at hl 1 rfl) ?_
      obtain ⟨hg1, hf⟩ := kg_some hf
      refine kx_iast (pc := 13) (ws' := [(q_p1, .inl (k_p1, n_p1, .inl (upd c_p1 (x2).toNatClampNeg x1)))]) hx hb hK hP hD hS 0 0 rfl rfl (ki_in hg1) rfl d_jArrays_fillI_13 (fun H locs hP hD hS => ?_)
      refine lv_iinc (pc := 14) (v := (x2 + (1 : Int32))) (lv' := [(2, .int (x2 + (1 : Int32))), (0, .ref q_p1), (1, .int x1), (3, .int x3)]) hx hb d_jArrays_fillI_14 hl (k := 2) rfl rfl (by decide) rfl (fun ls hl => ?_)
      refine lv_goto (pc := 17) (tgt := 5) hx hb d_jArrays_fillI_17 (by decide) ?_
      exact hk5 x1 (x2 + (1 : Int32)) x3 (upd c_p1 (x2).toNatClampNeg x1) _ _ _ hf hP hD hS (lv_sub hl [1, 2, 0, 3] rfl)
  have hL5 : ∀ n : Nat, ∀ (x1 : Int32) (x2 : Int32) (x3 : Int32) (c_p1 : (Nat → Int32)) (H : Heap) (locs : List Loc) (ls : Array Slot), (jArrays_fillI_L5 N n_p1 n) x1 x2 x3 c_p1 = some c_p1_z → va_P (dC, dI) clz [(q_p1, .inl (k_p1, n_p1, .inl c_p1))] H → va_D A [(q_p1, .inl (k_p1, n_p1, .inl c_p1))] → va_S A s.heap H locs → lv_has ls 4 [(0, .ref q_p1), (1, .int x1), (2, .int x2), (3, .int x3)] → W p l e (headSpec w_jArrays_fillI ({ frames := 0, cells := 0, slots := 0, locals := 0 })).room s m args below meth c H locs 0 0 Q (F0 m 5 ls []) := by
    intro n
    induction n with
    | zero => intro x1 x2 x3 c_p1 H locs ls hf hP hD hS hl; have hf : none = some c_p1_z := hf; cases hf
    | succ n ih => exact hB5 (jArrays_fillI_L5 N n_p1 n) ih
  rw [jArrays_fillI] at hf
  refine lv_iconst (pc := 0) (v := (0 : Int32)) hx hb d_jArrays_fillI_0 (by decide) ?_
  refine lv_istore_n (pc := 1) (lv' := [(2, .int (0 : Int32)), (0, .ref q_p1), (1, .int x1)]) hx hb d_jArrays_fillI_1 rfl hl (by decide) rfl (fun ls hl => ?_)
  refine lv_aload_n (pc := 2) hx hb d_jArrays_fillI_2 rfl (lv_at hl 1 rfl) ?_
  refine va_alen (pc := 3) hx hb hK hP 0 0 rfl rfl (v := (Int32.ofNat n_p1)) rfl d_jArrays_fillI_3 ?_
  refine lv_istore_n (pc := 4) (lv' := [(3, .int (Int32.ofNat n_p1)), (2, .int (0 : Int32)), (0, .ref q_p1), (1, .int x1)]) hx hb d_jArrays_fillI_4 rfl hl (by decide) rfl (fun ls hl => ?_)
  exact hL5 N x1 (0 : Int32) (Int32.ofNat n_p1) c_p1 _ _ _ hf hP hD hS (lv_sub hl [2, 3, 1, 0] rfl)
set_option maxHeartbeats 4000000 in
set_option maxRecDepth 100000 in
theorem ct_xP_clear (l : Launch) (dC : Nat → ClassId) (dI : Nat → Nat → Nat) (q_o : Nat) (q_o_text : Nat) (q_o_written : Nat) (q_o_reader : Nat) (q_o_cover : Nat) (q_o_given : Nat) (q_o_drawing : Nat) (q_o_spare : Nat) (q_o_text_characters : Nat) (q_o_written_characters : Nat) (q_o_drawing_kinds : Nat) (q_o_drawing_numbers : Nat) (q_o_cover_squares : Nat) (q_o_cover_changes : Nat) (sz : Nat) (v_o_text_length : Int32) (v_o_written_length : Int32) (v_o_drawing_count : Int32) (v_o_cover_width : Int32) (v_o_cover_height : Int32) (v_o_cover_top : Int64) (v_o_cover_x : Int64) (v_o_cover_y : Int64) (v_o_cover_startX : Int64) (v_o_cover_startY : Int64) (v_o_text_length_z : Int32) (v_o_written_length_z : Int32) (v_o_drawing_count_z : Int32) (v_o_cover_width_z : Int32) (v_o_cover_height_z : Int32) (hf : xP_clear = some (v_o_text_length_z, v_o_written_length_z, v_o_drawing_count_z, v_o_cover_width_z, v_o_cover_height_z)) : Met l y_xP_clear w_xP_clear ({ frames := 0, cells := 0, slots := 0, locals := 0 }) (va_Pc [.ref q_o] (fun U => U.heap.size = sz ∧ va_P (dC, dI) clz [(q_o, .inr (6, f_P q_o_text q_o_written q_o_reader q_o_cover q_o_given q_o_drawing q_o_spare)), (q_o_text, .inr (5, f_Row q_o_text_characters v_o_text_length)), (q_o_written, .inr (5, f_Row q_o_written_characters v_o_written_length)), (q_o_drawing, .inr (1, f_Drawing q_o_drawing_kinds q_o_drawing_numbers v_o_drawing_count)), (q_o_cover, .inr (0, f_Cover q_o_cover_squares q_o_cover_changes v_o_cover_width v_o_cover_height v_o_cover_top v_o_cover_x v_o_cover_y v_o_cover_startX v_o_cover_startY))] U.heap ∧ va_K (dC, dI) clz [] U ∧ va_D (fun _ => True) [(q_o, .inr (6, f_P q_o_text q_o_written q_o_reader q_o_cover q_o_given q_o_drawing q_o_spare)), (q_o_text, .inr (5, f_Row q_o_text_characters v_o_text_length)), (q_o_written, .inr (5, f_Row q_o_written_characters v_o_written_length)), (q_o_drawing, .inr (1, f_Drawing q_o_drawing_kinds q_o_drawing_numbers v_o_drawing_count)), (q_o_cover, .inr (0, f_Cover q_o_cover_squares q_o_cover_changes v_o_cover_width v_o_cover_height v_o_cover_top v_o_cover_x v_o_cover_y v_o_cover_startX v_o_cover_startY))])) (va_Qv (fun _ : Unit => True) (fun _ t => va_P (dC, dI) clz [(q_o, .inr (6, f_P q_o_text q_o_written q_o_reader q_o_cover q_o_given q_o_drawing q_o_spare)), (q_o_text, .inr (5, f_Row q_o_text_characters v_o_text_length_z)), (q_o_written, .inr (5, f_Row q_o_written_characters v_o_written_length_z)), (q_o_drawing, .inr (1, f_Drawing q_o_drawing_kinds q_o_drawing_numbers v_o_drawing_count_z)), (q_o_cover, .inr (0, f_Cover q_o_cover_squares q_o_cover_changes v_o_cover_width_z v_o_cover_height_z v_o_cover_top v_o_cover_x v_o_cover_y v_o_cover_startX v_o_cover_startY))] t.heap ∧ va_K (dC, dI) clz [] t ∧ va_D (va_A [(q_o, .inr (6, f_P q_o_text q_o_written q_o_reader q_o_cover q_o_given q_o_drawing q_o_spare)), (q_o_text, .inr (5, f_Row q_o_text_characters v_o_text_length)), (q_o_written, .inr (5, f_Row q_o_written_characters v_o_written_length)), (q_o_drawing, .inr (1, f_Drawing q_o_drawing_kinds q_o_drawing_numbers v_o_drawing_count)), (q_o_cover, .inr (0, f_Cover q_o_cover_squares q_o_cover_changes v_o_cover_width v_o_cover_height v_o_cover_top v_o_cover_x v_o_cover_y v_o_cover_startX v_o_cover_startY))] sz) [(q_o, .inr (6, f_P q_o_text q_o_written q_o_reader q_o_cover q_o_given q_o_drawing q_o_spare)), (q_o_text, .inr (5, f_Row q_o_text_characters v_o_text_length_z)), (q_o_written, .inr (5, f_Row q_o_written_characters v_o_written_length_z)), (q_o_drawing, .inr (1, f_Drawing q_o_drawing_kinds q_o_drawing_numbers v_o_drawing_count_z)), (q_o_cover, .inr (0, f_Cover q_o_cover_squares q_o_cover_changes v_o_cover_width_z v_o_cover_height_z v_o_cover_top v_o_cover_x v_o_cover_y v_o_cover_startX v_o_cover_startY))]) (va_A [(q_o, .inr (6, f_P q_o_text q_o_written q_o_reader q_o_cover q_o_given q_o_drawing q_o_spare)), (q_o_text, .inr (5, f_Row q_o_text_characters v_o_text_length)), (q_o_written, .inr (5, f_Row q_o_written_characters v_o_written_length)), (q_o_drawing, .inr (1, f_Drawing q_o_drawing_kinds q_o_drawing_numbers v_o_drawing_count)), (q_o_cover, .inr (0, f_Cover q_o_cover_squares q_o_cover_changes v_o_cover_width v_o_cover_height v_o_cover_top v_o_cover_x v_o_cover_y v_o_cover_startX v_o_cover_startY))] sz)) 0 0 (va_A [(q_o, .inr (6, f_P q_o_text q_o_written q_o_reader q_o_cover q_o_given q_o_drawing q_o_spare)), (q_o_text, .inr (5, f_Row q_o_text_characters v_o_text_length)), (q_o_written, .inr (5, f_Row q_o_written_characters v_o_written_length)), (q_o_drawing, .inr (1, f_Drawing q_o_drawing_kinds q_o_drawing_numbers v_o_drawing_count)), (q_o_cover, .inr (0, f_Cover q_o_cover_squares q_o_cover_changes v_o_cover_width v_o_cover_height v_o_cover_top v_o_cover_x v_o_cover_y v_o_cover_startX v_o_cover_startY))] sz) := by
  refine Met.ofW (cc := prog_1_method_16_code) (maxL := 1) (ret := none) (by decide +kernel) rfl ?_
  intro p e s m args below meth c s₁ B hml hv
  obtain ⟨hargs, hsz, hP, hK, hD0⟩ := hv
  have hx := B.exec
  have hb := B.bytes
  have hr := B.returns
  have hts := atoms_spec (ws := w_xP_clear) B.pre
  have hown : s.vm.findClass "PathTexts" = some m.cls := findClass_of_methodNamed B.named
  have hlocks := B.notSynchronized
  subst hsz
  have hD := hD0.self (sz := s.heap.size)
  generalize hAe : va_A [(q_o, .inr (6, f_P q_o_text q_o_written q_o_reader q_o_cover q_o_given q_o_drawing q_o_spare)), (q_o_text, .inr (5, f_Row q_o_text_characters v_o_text_length)), (q_o_written, .inr (5, f_Row q_o_written_characters v_o_written_length)), (q_o_drawing, .inr (1, f_Drawing q_o_drawing_kinds q_o_drawing_numbers v_o_drawing_count)), (q_o_cover, .inr (0, f_Cover q_o_cover_squares q_o_cover_changes v_o_cover_width v_o_cover_height v_o_cover_top v_o_cover_x v_o_cover_y v_o_cover_startX v_o_cover_startY))] s.heap.size = A at hD ⊢
  have hA : ∀ q : Nat, s.heap.size ≤ q → A q := fun q h => by rw [← hAe]; exact Or.inr h
  clear hAe hD0
  have hS : va_S A s.heap s.heap [] := va_S.rf
  have hl := lv_entry ([.ref q_o]) (n := 1) (Nat.le_of_ble_eq_true rfl)
  have hent : entryFrame m args 1 = F0 m 0 (lg_sl ([.ref q_o]) ++ List.replicate (1 - (lg_sl ([.ref q_o])).length) Slot.unset).toArray [] := by rw [hargs, lg_entry_eq]
  rw [hent]
  clear hent hargs
  generalize (lg_sl ([.ref q_o]) ++ List.replicate (1 - (lg_sl ([.ref q_o])).length) Slot.unset).toArray = ls at hl ⊢
  have hl : lv_has ls 1 [(0, .ref q_o)] := hl
  suffices key : ∀ Q : State → Prop, (∀ (pc : Nat) (H : Heap) (locs : List Loc) (ls : Array Slot), decode prog_1_method_16_code pc = .ok (.return_, 1) → va_P (dC, dI) clz [(q_o, .inr (6, f_P q_o_text q_o_written q_o_reader q_o_cover q_o_given q_o_drawing q_o_spare)), (q_o_text, .inr (5, f_Row q_o_text_characters v_o_text_length_z)), (q_o_written, .inr (5, f_Row q_o_written_characters v_o_written_length_z)), (q_o_drawing, .inr (1, f_Drawing q_o_drawing_kinds q_o_drawing_numbers v_o_drawing_count_z)), (q_o_cover, .inr (0, f_Cover q_o_cover_squares q_o_cover_changes v_o_cover_width_z v_o_cover_height_z v_o_cover_top v_o_cover_x v_o_cover_y v_o_cover_startX v_o_cover_startY))] H → va_D A [(q_o, .inr (6, f_P q_o_text q_o_written q_o_reader q_o_cover q_o_given q_o_drawing q_o_spare)), (q_o_text, .inr (5, f_Row q_o_text_characters v_o_text_length_z)), (q_o_written, .inr (5, f_Row q_o_written_characters v_o_written_length_z)), (q_o_drawing, .inr (1, f_Drawing q_o_drawing_kinds q_o_drawing_numbers v_o_drawing_count_z)), (q_o_cover, .inr (0, f_Cover q_o_cover_squares q_o_cover_changes v_o_cover_width_z v_o_cover_height_z v_o_cover_top v_o_cover_x v_o_cover_y v_o_cover_startX v_o_cover_startY))] → va_S A s.heap H locs → W p l e (headSpec w_xP_clear ({ frames := 0, cells := 0, slots := 0, locals := 0 })).room s m args below meth c H locs 0 0 Q (F0 m pc ls [])) → W p l e (headSpec w_xP_clear ({ frames := 0, cells := 0, slots := 0, locals := 0 })).room s m args below meth c s.heap [] 0 0 Q (F0 m 0 ls []) from key _ (fun pc H locs ls hd hP hD hS => W.vret hx hb hr (fun t ht hW => ⟨⟨(), rfl, trivial, by rw [ht]; exact hP, va_K.moved hW.alike hK, hD⟩, hS.F ht⟩) hS.2.2 hd)
  intro Q hRet
  rw [xP_clear] at hf
  refine lv_aload_n (pc := 0) hx hb d_xP_clear_0 rfl (lv_at hl 0 rfl) ?_
  refine va_get (pc := 1) (D := (dC, dI)) (ci := 6) (v := .ref q_o_text) (C := "PathTexts") (T := F_P) (N := 7) hx hb hts (fun w h => List.mem_cons_of_mem _ (in_P w h)) hown hK hP 0 rfl rfl 0 (by decide) (hts _ (List.mem_cons_of_mem _ kw_186)) (fun _ h9 => h9) fg_P_0 d_xP_clear_1 ?_
  refine lv_iconst (pc := 4) (v := (0 : Int32)) hx hb d_xP_clear_4 (by decide) ?_
  refine kx_put (pc := 5) (D := (dC, dI)) (ci := 5) (v := .int (0 : Int32)) (ty := .int) (C := "PathTexts$Row") (T := F_Row) (N := 2) hx hb hts (fun w h => List.mem_cons_of_mem _ (in_Row w h)) t_Row tk_Row n_Row hown hK hP hD hS 1 rfl rfl 1 (by decide) (hts _ (List.mem_cons_of_mem _ kw_37)) (fun _ h9 => h9) rfl (tk_Row 1 (by decide)) rfl rfl fl_Row_1 fs_Row_1 (ws' := [(q_o, .inr (6, f_P q_o_text q_o_written q_o_reader q_o_cover q_o_given q_o_drawing q_o_spare)), (q_o_text, .inr (5, f_Row q_o_text_characters (0 : Int32))), (q_o_written, .inr (5, f_Row q_o_written_characters v_o_written_length)), (q_o_drawing, .inr (1, f_Drawing q_o_drawing_kinds q_o_drawing_numbers v_o_drawing_count)), (q_o_cover, .inr (0, f_Cover q_o_cover_squares q_o_cover_changes v_o_cover_width v_o_cover_height v_o_cover_top v_o_cover_x v_o_cover_y v_o_cover_startX v_o_cover_startY))]) rfl d_xP_clear_5 (fun H locs hP hD hS => ?_)
  refine lv_aload_n (pc := 8) hx hb d_xP_clear_8 rfl (lv_at hl 0 rfl) ?_
  refine va_get (pc := 9) (D := (dC, dI)) (ci := 6) (v := .ref q_o_written) (C := "PathTexts") (T := F_P) (N := 7) hx hb hts (fun w h => List.mem_cons_of_mem _ (in_P w h)) hown hK hP 0 rfl rfl 1 (by decide) (hts _ (List.mem_cons_of_mem _ kw_187)) (fun _ h9 => h9) fg_P_1 d_xP_clear_9 ?_
  refine lv_iconst (pc := 12) (v := (0 : Int32)) hx hb d_xP_clear_12 (by decide) ?_
  refine kx_put (pc := 13) (D := (dC, dI)) (ci := 5) (v := .int (0 : Int32)) (ty := .int) (C := "PathTexts$Row") (T := F_Row) (N := 2) hx hb hts (fun w h => List.mem_cons_of_mem _ (in_Row w h)) t_Row tk_Row n_Row hown hK hP hD hS 2 rfl rfl 1 (by decide) (hts _ (List.mem_cons_of_mem _ kw_37)) (fun _ h9 => h9) rfl (tk_Row 1 (by decide)) rfl rfl fl_Row_1 fs_Row_1 (ws' := [(q_o, .inr (6, f_P q_o_text q_o_written q_o_reader q_o_cover q_o_given q_o_drawing q_o_spare)), (q_o_text, .inr (5, f_Row q_o_text_characters (0 : Int32))), (q_o_written, .inr (5, f_Row q_o_written_characters (0 : Int32))), (q_o_drawing, .inr (1, f_Drawing q_o_drawing_kinds q_o_drawing_numbers v_o_drawing_count)), (q_o_cover, .inr (0, f_Cover q_o_cover_squares q_o_cover_changes v_o_cover_width v_o_cover_height v_o_cover_top v_o_cover_x v_o_cover_y v_o_cover_startX v_o_cover_startY))]) rfl d_xP_clear_13 (fun H locs hP hD hS => ?_)
  refine lv_aload_n (pc := 16) hx hb d_xP_clear_16 rfl (lv_at hl 0 rfl) ?_
  refine va_get (pc := 17) (D := (dC, dI)) (ci := 6) (v := .ref q_o_drawing) (C := "PathTexts") (T := F_P) (N := 7) hx hb hts (fun w h => List.mem_cons_of_mem _ (in_P w h)) hown hK hP 0 rfl rfl 5 (by decide) (hts _ (List.mem_cons_of_mem _ kw_191)) (fun _ h9 => h9) fg_P_5 d_xP_clear_17 ?_
  refine lv_iconst (pc := 20) (v := (0 : Int32)) hx hb d_xP_clear_20 (by decide) ?_
  refine kx_put (pc := 21) (D := (dC, dI)) (ci := 1) (v := .int (0 : Int32)) (ty := .int) (C := "PathTexts$Drawing") (T := F_Drawing) (N := 3) hx hb hts (fun w h => List.mem_cons_of_mem _ (in_Drawing w h)) t_Drawing tk_Drawing n_Drawing hown hK hP hD hS 3 rfl rfl 2 (by decide) (hts _ (List.mem_cons_of_mem _ kw_178)) (fun _ h9 => h9) rfl (tk_Drawing 2 (by decide)) rfl rfl fl_Drawing_2 fs_Drawing_2 (ws' := [(q_o, .inr (6, f_P q_o_text q_o_written q_o_reader q_o_cover q_o_given q_o_drawing q_o_spare)), (q_o_text, .inr (5, f_Row q_o_text_characters (0 : Int32))), (q_o_written, .inr (5, f_Row q_o_written_characters (0 : Int32))), (q_o_drawing, .inr (1, f_Drawing q_o_drawing_kinds q_o_drawing_numbers (0 : Int32))), (q_o_cover, .inr (0, f_Cover q_o_cover_squares q_o_cover_changes v_o_cover_width v_o_cover_height v_o_cover_top v_o_cover_x v_o_cover_y v_o_cover_startX v_o_cover_startY))]) rfl d_xP_clear_21 (fun H locs hP hD hS => ?_)
  refine lv_aload_n (pc := 24) hx hb d_xP_clear_24 rfl (lv_at hl 0 rfl) ?_
  refine va_get (pc := 25) (D := (dC, dI)) (ci := 6) (v := .ref q_o_cover) (C := "PathTexts") (T := F_P) (N := 7) hx hb hts (fun w h => List.mem_cons_of_mem _ (in_P w h)) hown hK hP 0 rfl rfl 3 (by decide) (hts _ (List.mem_cons_of_mem _ kw_189)) (fun _ h9 => h9) fg_P_3 d_xP_clear_25 ?_
  refine lv_iconst (pc := 28) (v := (0 : Int32)) hx hb d_xP_clear_28 (by decide) ?_
  refine kx_put (pc := 29) (D := (dC, dI)) (ci := 0) (v := .int (0 : Int32)) (ty := .int) (C := "PathTexts$Cover") (T := F_Cover) (N := 9) hx hb hts (fun w h => List.mem_cons_of_mem _ (in_Cover w h)) t_Cover tk_Cover n_Cover hown hK hP hD hS 4 rfl rfl 2 (by decide) (hts _ (List.mem_cons_of_mem _ kw_132)) (fun _ h9 => h9) rfl (tk_Cover 2 (by decide)) rfl rfl fl_Cover_2 fs_Cover_2 (ws' := [(q_o, .inr (6, f_P q_o_text q_o_written q_o_reader q_o_cover q_o_given q_o_drawing q_o_spare)), (q_o_text, .inr (5, f_Row q_o_text_characters (0 : Int32))), (q_o_written, .inr (5, f_Row q_o_written_characters (0 : Int32))), (q_o_drawing, .inr (1, f_Drawing q_o_drawing_kinds q_o_drawing_numbers (0 : Int32))), (q_o_cover, .inr (0, f_Cover q_o_cover_squares q_o_cover_changes (0 : Int32) v_o_cover_height v_o_cover_top v_o_cover_x v_o_cover_y v_o_cover_startX v_o_cover_startY))]) rfl d_xP_clear_29 (fun H locs hP hD hS => ?_)
  refine lv_aload_n (pc := 32) hx hb d_xP_clear_32 rfl (lv_at hl 0 rfl) ?_
  refine va_get (pc := 33) (D := (dC, dI)) (ci := 6) (v := .ref q_o_cover) (C := "PathTexts") (T := F_P) (N := 7) hx hb hts (fun w h => List.mem_cons_of_mem _ (in_P w h)) hown hK hP 0 rfl rfl 3 (by decide) (hts _ (List.mem_cons_of_mem _ kw_189)) (fun _ h9 => h9) fg_P_3 d_xP_clear_33 ?_
  refine lv_iconst (pc := 36) (v := (0 : Int32)) hx hb d_xP_clear_36 (by decide) ?_
  refine kx_put (pc := 37) (D := (dC, dI)) (ci := 0) (v := .int (0 : Int32)) (ty := .int) (C := "PathTexts$Cover") (T := F_Cover) (N := 9) hx hb hts (fun w h => List.mem_cons_of_mem _ (in_Cover w h)) t_Cover tk_Cover n_Cover hown hK hP hD hS 4 rfl rfl 3 (by decide) (hts _ (List.mem_cons_of_mem _ kw_134)) (fun _ h9 => h9) rfl (tk_Cover 3 (by decide)) rfl rfl fl_Cover_3 fs_Cover_3 (ws' := [(q_o, .inr (6, f_P q_o_text q_o_written q_o_reader q_o_cover q_o_given q_o_drawing q_o_spare)), (q_o_text, .inr (5, f_Row q_o_text_characters (0 : Int32))), (q_o_written, .inr (5, f_Row q_o_written_characters (0 : Int32))), (q_o_drawing, .inr (1, f_Drawing q_o_drawing_kinds q_o_drawing_numbers (0 : Int32))), (q_o_cover, .inr (0, f_Cover q_o_cover_squares q_o_cover_changes (0 : Int32) (0 : Int32) v_o_cover_top v_o_cover_x v_o_cover_y v_o_cover_startX v_o_cover_startY))]) rfl d_xP_clear_37 (fun H locs hP hD hS => ?_)
  obtain ⟨e_0, e_1, e_2, e_3, e_4⟩ := kr5 hf
  exact hRet 40 _ _ _ d_xP_clear_40 (by rw [← e_0, ← e_1, ← e_2, ← e_3, ← e_4]; exact hP) (by rw [← e_0, ← e_1, ← e_2, ← e_3, ← e_4]; exact hD) hS
set_option maxHeartbeats 4000000 in
set_option maxRecDepth 100000 in
theorem ct_xP_byteOf (l : Launch) (dC : Nat → ClassId) (dI : Nat → Nat → Nat) (sz : Nat) (x0 : Int64) (x2 : Int32) (rv : Int32) (hf : xP_byteOf x0 x2 = some rv) : Met l y_xP_byteOf w_xP_byteOf ({ frames := 0, cells := 0, slots := 0, locals := 0 }) (va_Pc [.long x0, .int x2] (fun U => U.heap.size = sz ∧ va_P (dC, dI) clz [] U.heap ∧ va_K (dC, dI) clz [] U ∧ va_D (fun _ => True) [])) (va_Qi (fun (r9 : Int32) (_ : Unit) => r9 = rv) (fun _ t => va_P (dC, dI) clz [] t.heap ∧ va_K (dC, dI) clz [] t ∧ va_D (va_A [] sz) []) (va_A [] sz)) 0 0 (va_A [] sz) := by
  refine Met.ofW (cc := prog_1_method_18_code) (maxL := 3) (ret := (some .int)) (by decide +kernel) rfl ?_
  intro p e s m args below meth c s₁ B hml hv
  obtain ⟨hargs, hsz, hP, hK, hD0⟩ := hv
  have hx := B.exec
  have hb := B.bytes
  have hr := B.returns
  have hts := atoms_spec (ws := w_xP_byteOf) B.pre
  have hown : s.vm.findClass "PathTexts" = some m.cls := findClass_of_methodNamed B.named
  have hlocks := B.notSynchronized
  subst hsz
  have hD := hD0.self (sz := s.heap.size)
  generalize hAe : va_A [] s.heap.size = A at hD ⊢
  have hA : ∀ q : Nat, s.heap.size ≤ q → A q := fun q h => by rw [← hAe]; exact Or.inr h
  clear hAe hD0
  have hS : va_S A s.heap s.heap [] := va_S.rf
  have hl := lv_entry ([.long x0, .int x2]) (n := 3) (Nat.le_of_ble_eq_true rfl)
  have hent : entryFrame m args 3 = F0 m 0 (lg_sl ([.long x0, .int x2]) ++ List.replicate (3 - (lg_sl ([.long x0, .int x2])).length) Slot.unset).toArray [] := by rw [hargs, lg_entry_eq]
  rw [hent]
  clear hent hargs
  generalize (lg_sl ([.long x0, .int x2]) ++ List.replicate (3 - (lg_sl ([.long x0, .int x2])).length) Slot.unset).toArray = ls at hl ⊢
  have hl : lv_has ls 3 [(0, .long x0), (2, .int x2)] := hl
  suffices key : ∀ Q : State → Prop, (∀ (pc : Nat) (H : Heap) (locs : List Loc) (ls : Array Slot), decode prog_1_method_18_code pc = .ok (.ireturn, 1) → va_P (dC, dI) clz [] H → va_D A [] → va_S A s.heap H locs → W p l e (headSpec w_xP_byteOf ({ frames := 0, cells := 0, slots := 0, locals := 0 })).room s m args below meth c H locs 0 0 Q (F0 m pc ls [.int rv])) → W p l e (headSpec w_xP_byteOf ({ frames := 0, cells := 0, slots := 0, locals := 0 })).room s m args below meth c s.heap [] 0 0 Q (F0 m 0 ls []) from key _ (fun pc H locs ls hd hP hD hS => W.iret hx hb hr (fun t ht hW => ⟨⟨rv, (), rfl, rfl, by rw [ht]; exact hP, va_K.moved hW.alike hK, hD⟩, hS.F ht⟩) hS.2.2 hd)
  intro Q hRet
  rw [xP_byteOf] at hf
  refine lv_lload_n (pc := 0) hx hb d_xP_byteOf_0 rfl (lv_at hl 0 rfl) ?_
  refine lv_bipush (pc := 1) (v := (8 : Int32)) hx hb d_xP_byteOf_1 (by decide) ?_
  refine lv_iload_n (pc := 3) hx hb d_xP_byteOf_3 rfl (lv_at hl 1 rfl) ?_
  refine lv_imul (pc := 4) hx hb d_xP_byteOf_4 ?_
  refine lv_lushr (pc := 5) hx hb d_xP_byteOf_5 rfl ?_
  refine lv_l2i (pc := 6) hx hb d_xP_byteOf_6 rfl ?_
  refine lv_sipush (pc := 7) (v := (255 : Int32)) hx hb d_xP_byteOf_7 (by decide) ?_
  refine lv_iand (pc := 10) hx hb d_xP_byteOf_10 ?_
  have e_0 := kr1 hf
  rw [e_0]
  exact hRet 11 _ _ _ d_xP_byteOf_11 hP hD hS
set_option maxHeartbeats 4000000 in
set_option maxRecDepth 100000 in
theorem ct_xP_numbersOf (l : Launch) (dC : Nat → ClassId) (dI : Nat → Nat → Nat) (sz : Nat) (x0 : Int32) (rv : Int32) (hf : xP_numbersOf x0 = some rv) : Met l y_xP_numbersOf w_xP_numbersOf ({ frames := 0, cells := 0, slots := 0, locals := 0 }) (va_Pc [.int x0] (fun U => U.heap.size = sz ∧ va_P (dC, dI) clz [] U.heap ∧ va_K (dC, dI) clz [] U ∧ va_D (fun _ => True) [])) (va_Qi (fun (r9 : Int32) (_ : Unit) => r9 = rv) (fun _ t => va_P (dC, dI) clz [] t.heap ∧ va_K (dC, dI) clz [] t ∧ va_D (va_A [] sz) []) (va_A [] sz)) 0 0 (va_A [] sz) := by
  refine Met.ofW (cc := prog_1_method_19_code) (maxL := 1) (ret := (some .int)) (by decide +kernel) rfl ?_
  intro p e s m args below meth c s₁ B hml hv
  obtain ⟨hargs, hsz, hP, hK, hD0⟩ := hv
  have hx := B.exec
  have hb := B.bytes
  have hr := B.returns
  have hts := atoms_spec (ws := w_xP_numbersOf) B.pre
  have hown : s.vm.findClass "PathTexts" = some m.cls := findClass_of_methodNamed B.named
  have hlocks := B.notSynchronized
  subst hsz
  have hD := hD0.self (sz := s.heap.size)
  generalize hAe : va_A [] s.heap.size = A at hD ⊢
  have hA : ∀ q : Nat, s.heap.size ≤ q → A q := fun q h => by rw [← hAe]; exact Or.inr h
  clear hAe hD0
  have hS : va_S A s.heap s.heap [] := va_S.rf
  have hl := lv_entry ([.int x0]) (n := 1) (Nat.le_of_ble_eq_true rfl)
  have hent : entryFrame m args 1 = F0 m 0 (lg_sl ([.int x0]) ++ List.replicate (1 - (lg_sl ([.int x0])).length) Slot.unset).toArray [] := by rw [hargs, lg_entry_eq]
  rw [hent]
  clear hent hargs
  generalize (lg_sl ([.int x0]) ++ List.replicate (1 - (lg_sl ([.int x0])).length) Slot.unset).toArray = ls at hl ⊢
  have hl : lv_has ls 1 [(0, .int x0)] := hl
  suffices key : ∀ Q : State → Prop, (∀ (pc : Nat) (H : Heap) (locs : List Loc) (ls : Array Slot), decode prog_1_method_19_code pc = .ok (.ireturn, 1) → va_P (dC, dI) clz [] H → va_D A [] → va_S A s.heap H locs → W p l e (headSpec w_xP_numbersOf ({ frames := 0, cells := 0, slots := 0, locals := 0 })).room s m args below meth c H locs 0 0 Q (F0 m pc ls [.int rv])) → W p l e (headSpec w_xP_numbersOf ({ frames := 0, cells := 0, slots := 0, locals := 0 })).room s m args below meth c s.heap [] 0 0 Q (F0 m 0 ls []) from key _ (fun pc H locs ls hd hP hD hS => W.iret hx hb hr (fun t ht hW => ⟨⟨rv, (), rfl, rfl, by rw [ht]; exact hP, va_K.moved hW.alike hK, hD⟩, hS.F ht⟩) hS.2.2 hd)
  intro Q hRet
  rw [xP_numbersOf] at hf
  refine lv_iload_n (pc := 0) hx hb d_xP_numbersOf_0 rfl (lv_at hl 0 rfl) ?_
  by_cases hc0 : x0 = (0 : Int32)
  · rw [if_pos hc0] at hf
    refine lv_tableIn (pc := 1) (tgt := 28) hx hb d_xP_numbersOf_1 (by rw [hc0]; decide) (by rw [hc0]; decide) (by rw [hc0]; rfl) (by decide) ?_
    refine lv_iconst (pc := 28) (v := (2 : Int32)) hx hb d_xP_numbersOf_28 (by decide) ?_
    have e_0 := kr1 hf
    rw [e_0]
    exact hRet 29 _ _ _ d_xP_numbersOf_29 hP hD hS
  rw [if_neg hc0] at hf
  by_cases hc1 : x0 = (1 : Int32)
  · rw [if_pos hc1] at hf
    refine lv_tableIn (pc := 1) (tgt := 28) hx hb d_xP_numbersOf_1 (by rw [hc1]; decide) (by rw [hc1]; decide) (by rw [hc1]; rfl) (by decide) ?_
    refine lv_iconst (pc := 28) (v := (2 : Int32)) hx hb d_xP_numbersOf_28 (by decide) ?_
    have e_0 := kr1 hf
    rw [e_0]
    exact hRet 29 _ _ _ d_xP_numbersOf_29 hP hD hS
  rw [if_neg hc1] at hf
  by_cases hc2 : x0 = (2 : Int32)
  · rw [if_pos hc2] at hf
    refine lv_tableIn (pc := 1) (tgt := 30) hx hb d_xP_numbersOf_1 (by rw [hc2]; decide) (by rw [hc2]; decide) (by rw [hc2]; rfl) (by decide) ?_
    refine lv_bipush (pc := 30) (v := (6 : Int32)) hx hb d_xP_numbersOf_30 (by decide) ?_
    have e_0 := kr1 hf
    rw [e_0]
    exact hRet 32 _ _ _ d_xP_numbersOf_32 hP hD hS
  rw [if_neg hc2] at hf
  have hn0 := lv_neT hc0 (a := 0) (by decide)
  have hn1 := lv_neT hc1 (a := 1) (by decide)
  have hn2 := lv_neT hc2 (a := 2) (by decide)
  by_cases hr9 : x0.toInt < 0 ∨ 2 < x0.toInt
  · refine lv_tableOut (pc := 1) (tgt := 33) hx hb d_xP_numbersOf_1 hr9 (by decide) ?_
    refine lv_iconst (pc := 33) (v := (0 : Int32)) hx hb d_xP_numbersOf_33 (by decide) ?_
    have e_0 := kr1 hf
    rw [e_0]
    exact hRet 34 _ _ _ d_xP_numbersOf_34 hP hD hS
  · exfalso; omega
set_option maxHeartbeats 4000000 in
set_option maxRecDepth 100000 in
theorem ct_xP_isNumber (l : Launch) (dC : Nat → ClassId) (dI : Nat → Nat → Nat) (sz : Nat) (x0 : Int64) (rv : Int32) (hf : xP_isNumber x0 = some rv) : Met l y_xP_isNumber w_xP_isNumber ({ frames := 0, cells := 0, slots := 0, locals := 0 }) (va_Pc [.long x0] (fun U => U.heap.size = sz ∧ va_P (dC, dI) clz [] U.heap ∧ va_K (dC, dI) clz [] U ∧ va_D (fun _ => True) [])) (va_Qi (fun (r9 : Int32) (_ : Unit) => r9 = rv) (fun _ t => va_P (dC, dI) clz [] t.heap ∧ va_K (dC, dI) clz [] t ∧ va_D (va_A [] sz) []) (va_A [] sz)) 0 0 (va_A [] sz) := by
  refine Met.ofW (cc := prog_1_method_20_code) (maxL := 2) (ret := (some .boolean)) (by decide +kernel) rfl ?_
  intro p e s m args below meth c s₁ B hml hv
  obtain ⟨hargs, hsz, hP, hK, hD0⟩ := hv
  have hx := B.exec
  have hb := B.bytes
  have hr := B.returns
  have hts := atoms_spec (ws := w_xP_isNumber) B.pre
  have hown : s.vm.findClass "PathTexts" = some m.cls := findClass_of_methodNamed B.named
  have hlocks := B.notSynchronized
  subst hsz
  have hD := hD0.self (sz := s.heap.size)
  generalize hAe : va_A [] s.heap.size = A at hD ⊢
  have hA : ∀ q : Nat, s.heap.size ≤ q → A q := fun q h => by rw [← hAe]; exact Or.inr h
  clear hAe hD0
  have hS : va_S A s.heap s.heap [] := va_S.rf
  have hl := lv_entry ([.long x0]) (n := 2) (Nat.le_of_ble_eq_true rfl)
  have hent : entryFrame m args 2 = F0 m 0 (lg_sl ([.long x0]) ++ List.replicate (2 - (lg_sl ([.long x0])).length) Slot.unset).toArray [] := by rw [hargs, lg_entry_eq]
  rw [hent]
  clear hent hargs
  generalize (lg_sl ([.long x0]) ++ List.replicate (2 - (lg_sl ([.long x0])).length) Slot.unset).toArray = ls at hl ⊢
  have hl : lv_has ls 2 [(0, .long x0)] := hl
  suffices key : ∀ Q : State → Prop, (∀ (hn9 : narrow .boolean (.int rv) = .int rv) (pc : Nat) (H : Heap) (locs : List Loc) (ls : Array Slot), decode prog_1_method_20_code pc = .ok (.ireturn, 1) → va_P (dC, dI) clz [] H → va_D A [] → va_S A s.heap H locs → W p l e (headSpec w_xP_isNumber ({ frames := 0, cells := 0, slots := 0, locals := 0 })).room s m args below meth c H locs 0 0 Q (F0 m pc ls [.int rv])) → W p l e (headSpec w_xP_isNumber ({ frames := 0, cells := 0, slots := 0, locals := 0 })).room s m args below meth c s.heap [] 0 0 Q (F0 m 0 ls []) from key _ (fun hn9 pc H locs ls hd hP hD hS => W.zret hx hb hr hn9 (fun t ht hW => ⟨⟨rv, (), rfl, rfl, by rw [ht]; exact hP, va_K.moved hW.alike hK, hD⟩, hS.F ht⟩) hS.2.2 hd)
  intro Q hRet
  rw [xP_isNumber] at hf
  refine lv_lload_n (pc := 0) hx hb d_xP_isNumber_0 rfl (lv_at hl 0 rfl) ?_
  refine lv_ldc2 (pc := 1) hx hb hown (hts _ (List.mem_cons_of_mem _ kw_273)) d_xP_isNumber_1 ?_
  refine kx_lclt (pc := 4) (tgt := 20) hx hb d_xP_isNumber_4 d_xP_isNumber_5 (by decide) (fun hc => ?_) (fun hc => ?_)
  · rw [if_pos hc] at hf
    refine lv_iconst (pc := 20) (v := (0 : Int32)) hx hb d_xP_isNumber_20 (by decide) ?_
    have e_0 := kr1 hf
    rw [e_0]
    exact hRet (by rw [← e_0]; exact (by decide)) 21 _ _ _ d_xP_isNumber_21 hP hD hS
  · rw [if_neg hc] at hf
    refine lv_lload_n (pc := 8) hx hb d_xP_isNumber_8 rfl (lv_at hl 0 rfl) ?_
    refine lv_ldc2 (pc := 9) hx hb hown (hts _ (List.mem_cons_of_mem _ kw_274)) d_xP_isNumber_9 ?_
    refine kx_lcgt (pc := 12) (tgt := 20) hx hb d_xP_isNumber_12 d_xP_isNumber_13 (by decide) (fun hc => ?_) (fun hc => ?_)
    · rw [if_pos hc] at hf
      refine lv_iconst (pc := 20) (v := (0 : Int32)) hx hb d_xP_isNumber_20 (by decide) ?_
      have e_0 := kr1 hf
      rw [e_0]
      exact hRet (by rw [← e_0]; exact (by decide)) 21 _ _ _ d_xP_isNumber_21 hP hD hS
    · rw [if_neg hc] at hf
      refine lv_iconst (pc := 16) (v := (1 : Int32)) hx hb d_xP_isNumber_16 (by decide) ?_
      refine lv_goto (pc := 17) (tgt := 21) hx hb d_xP_isNumber_17 (by decide) ?_
      have e_0 := kr1 hf
      rw [e_0]
      exact hRet (by rw [← e_0]; exact (by decide)) 21 _ _ _ d_xP_isNumber_21 hP hD hS
set_option maxHeartbeats 4000000 in
set_option maxRecDepth 100000 in
theorem ct_xP_areNumbers (l : Launch) (dC : Nat → ClassId) (dI : Nat → Nat → Nat) (q_p1 : Nat) (k_p1 : ClassId) (sz : Nat) (N : Nat) (x1 : Int32) (c_p1 : (Nat → Int64)) (rv : Int32) (hf : xP_areNumbers N x1 c_p1 = some rv) : Met l y_xP_areNumbers w_xP_areNumbers ({ frames := 1, cells := 0, slots := 0, locals := 21 }) (va_Pc [.ref q_p1, .int x1] (fun U => U.heap.size = sz ∧ va_P (dC, dI) clz [(q_p1, .inl (k_p1, 6, .inr (.inl c_p1)))] U.heap ∧ va_K (dC, dI) clz [(k_p1, .long)] U ∧ va_D (fun _ => True) [(q_p1, .inl (k_p1, 6, .inr (.inl c_p1)))])) (va_Qi (fun (r9 : Int32) (_ : Unit) => r9 = rv) (fun _ t => va_P (dC, dI) clz [(q_p1, .inl (k_p1, 6, .inr (.inl c_p1)))] t.heap ∧ va_K (dC, dI) clz [(k_p1, .long)] t ∧ va_D (va_A [(q_p1, .inl (k_p1, 6, .inr (.inl c_p1)))] sz) [(q_p1, .inl (k_p1, 6, .inr (.inl c_p1)))]) (va_A [(q_p1, .inl (k_p1, 6, .inr (.inl c_p1)))] sz)) 0 0 (va_A [(q_p1, .inl (k_p1, 6, .inr (.inl c_p1)))] sz) := by
  refine Met.ofW (cc := prog_1_method_21_code) (maxL := 3) (ret := (some .boolean)) (by decide +kernel) rfl ?_
  intro p e s m args below meth c s₁ B hml hv
  obtain ⟨hargs, hsz, hP, hK, hD0⟩ := hv
  have hx := B.exec
  have hb := B.bytes
  have hr := B.returns
  have hts := atoms_spec (ws := w_xP_areNumbers) B.pre
  have hown : s.vm.findClass "PathTexts" = some m.cls := findClass_of_methodNamed B.named
  have hlocks := B.notSynchronized
  subst hsz
  have hD := hD0.self (sz := s.heap.size)
  generalize hAe : va_A [(q_p1, .inl (k_p1, 6, .inr (.inl c_p1)))] s.heap.size = A at hD ⊢
  have hA : ∀ q : Nat, s.heap.size ≤ q → A q := fun q h => by rw [← hAe]; exact Or.inr h
  clear hAe hD0
  have hS : va_S A s.heap s.heap [] := va_S.rf
  have hl := lv_entry ([.ref q_p1, .int x1]) (n := 3) (Nat.le_of_ble_eq_true rfl)
  have hent : entryFrame m args 3 = F0 m 0 (lg_sl ([.ref q_p1, .int x1]) ++ List.replicate (3 - (lg_sl ([.ref q_p1, .int x1])).length) Slot.unset).toArray [] := by rw [hargs, lg_entry_eq]
  rw [hent]
  clear hent hargs
  generalize (lg_sl ([.ref q_p1, .int x1]) ++ List.replicate (3 - (lg_sl ([.ref q_p1, .int x1])).length) Slot.unset).toArray = ls at hl ⊢
  have hl : lv_has ls 3 [(0, .ref q_p1), (1, .int x1)] := hl
  suffices key : ∀ Q : State → Prop, (∀ (hn9 : narrow .boolean (.int rv) = .int rv) (pc : Nat) (H : Heap) (locs : List Loc) (ls : Array Slot), decode prog_1_method_21_code pc = .ok (.ireturn, 1) → va_P (dC, dI) clz [(q_p1, .inl (k_p1, 6, .inr (.inl c_p1)))] H → va_D A [(q_p1, .inl (k_p1, 6, .inr (.inl c_p1)))] → va_S A s.heap H locs → W p l e (headSpec w_xP_areNumbers ({ frames := 1, cells := 0, slots := 0, locals := 21 })).room s m args below meth c H locs 0 0 Q (F0 m pc ls [.int rv])) → W p l e (headSpec w_xP_areNumbers ({ frames := 1, cells := 0, slots := 0, locals := 21 })).room s m args below meth c s.heap [] 0 0 Q (F0 m 0 ls []) from key _ (fun hn9 pc H locs ls hd hP hD hS => W.zret hx hb hr hn9 (fun t ht hW => ⟨⟨rv, (), rfl, rfl, by rw [ht]; exact hP, va_K.moved hW.alike hK, hD⟩, hS.F ht⟩) hS.2.2 hd)
  intro Q hRet
  have hB2 : ∀ (k2 : Int32 → Int32 → (Nat → Int64) → Option (Int32)), (∀ (x1 : Int32) (x2 : Int32) (H : Heap) (locs : List Loc) (ls : Array Slot), k2 x1 x2 c_p1 = some rv → va_P (dC, dI) clz [(q_p1, .inl (k_p1, 6, .inr (.inl c_p1)))] H → va_D A [(q_p1, .inl (k_p1, 6, .inr (.inl c_p1)))] → va_S A s.heap H locs → lv_has ls 3 [(0, .ref q_p1), (1, .int x1), (2, .int x2)] → W p l e (headSpec w_xP_areNumbers ({ frames := 1, cells := 0, slots := 0, locals := 21 })).room s m args below meth c H locs 0 0 Q (F0 m 2 ls [])) → ∀ (x1 : Int32) (x2 : Int32) (H : Heap) (locs : List Loc) (ls : Array Slot), xP_areNumbers_B2 N k2 x1 x2 c_p1 = some rv → va_P (dC, dI) clz [(q_p1, .inl (k_p1, 6, .inr (.inl c_p1)))] H → va_D A [(q_p1, .inl (k_p1, 6, .inr (.inl c_p1)))] → va_S A s.heap H locs → lv_has ls 3 [(0, .ref q_p1), (1, .int x1), (2, .int x2)] → W p l e (headSpec w_xP_areNumbers ({ frames := 1, cells := 0, slots := 0, locals := 21 })).room s m args below meth c H locs 0 0 Q (F0 m 2 ls []) := by
    intro k2 hk2
    intro x1 x2 H locs ls hf hP hD hS hl
    rw [xP_areNumbers_B2] at hf
    refine lv_iload_n (pc := 2) hx hb d_xP_areNumbers_2 rfl (lv_at hl 2 rfl) ?_
    refine lv_iload_n (pc := 3) hx hb d_xP_areNumbers_3 rfl (lv_at hl 1 rfl) ?_
    refine lv_icmp_ge (pc := 4) (tgt := 30) hx hb d_xP_areNumbers_4 (by decide) (fun hc => ?_) (fun hc => ?_)
    · rw [if_pos hc] at hf
      refine lv_iconst (pc := 30) (v := (1 : Int32)) hx hb d_xP_areNumbers_30 (by decide) ?_
      have e_0 := kr1 hf
      rw [e_0]
      exact hRet (by rw [← e_0]; exact (by decide)) 31 _ _ _ d_xP_areNumbers_31 hP hD hS
    · rw [if_neg hc] at hf
      refine lv_iload_n (pc := 7) hx hb d_xP_areNumbers_7 rfl (lv_at hl 2 rfl) ?_
      refine lv_aload_n (pc := 8) hx hb d_xP_areNumbers_8 rfl (lv_at hl 0 rfl) ?_
      refine va_alen (pc := 9) hx hb hK hP 0 0 rfl rfl (v := (6 : Int32)) rfl d_xP_areNumbers_9 ?_
      refine lv_icmp_ge (pc := 10) (tgt := 30) hx hb d_xP_areNumbers_10 (by decide) (fun hc => ?_) (fun hc => ?_)
      · rw [if_pos hc] at hf
        refine lv_iconst (pc := 30) (v := (1 : Int32)) hx hb d_xP_areNumbers_30 (by decide) ?_
        have e_0 := kr1 hf
        rw [e_0]
        exact hRet (by rw [← e_0]; exact (by decide)) 31 _ _ _ d_xP_areNumbers_31 hP hD hS
      · rw [if_neg hc] at hf
        refine lv_aload_n (pc := 13) hx hb d_xP_areNumbers_13 rfl (lv_at hl 0 rfl) ?_
        refine lv_iload_n (pc := 14) hx hb d_xP_areNumbers_14 rfl (lv_at hl 2 rfl) ?_
        obtain ⟨hg1, hf⟩ := kg_some hf
        refine va_lald (pc := 15) hx hb hK hP 0 0 rfl rfl (ki_in hg1) d_xP_areNumbers_15 ?_
        obtain ⟨r16, hz, hf⟩ := kb1_some hf
        have hPc := hP.sub (ws' := []) [] rfl
        have hDc := hD.sub (ws' := []) [] (by decide) rfl
        have hKc := hK.sub (tys' := []) [] rfl
        have hFc := va_free (wc := []) hD hS hA [] rfl
        refine va_calli (pc := 16) (va_runS (As := [.long (c_p1 (x2).toNatClampNeg)]) (rest := []) ⟨hx, hb, hml, hown, hts⟩ (ct_xP_isNumber l dC dI _ (c_p1 (x2).toNatClampNeg) r16 hz) (va_cwS 1 hts (kw_in3 kw_344 kw_271 kw_1 kw_272) rfl rfl rfl (by decide +kernel) ⟨Nat.le_of_ble_eq_true rfl, Nat.le_of_ble_eq_true rfl⟩) (kx_pre hPc hKc hDc) rfl rfl hl.1 rfl (lv_room (Nat.le_of_ble_eq_true rfl)) d_xP_areNumbers_16 ⟨Nat.le_of_ble_eq_true rfl, Nat.le_of_ble_eq_true rfl⟩) hS (fun q _ h => hFc q h) hFc (fun r9 u t H1 locs ht hvm hw hB hz1 hk1 hS => ?_)
        obtain ⟨hP1, hK1, hD1⟩ := hB
        rw [ht] at hP1
        have hw := hw.symm
        subst hw
        obtain ⟨hP, hD⟩ := va_join (wr := [(q_p1, .inl (k_p1, 6, .inr (.inl c_p1)))]) (w1 := []) hP hD [] [0] rfl rfl (by decide) (by decide) hk1 hFc hP1 hD1
        have hP := hP.sub (ws' := [(q_p1, .inl (k_p1, 6, .inr (.inl c_p1)))]) [0] rfl
        have hD := hD.sub (ws' := [(q_p1, .inl (k_p1, 6, .inr (.inl c_p1)))]) [0] (by decide) rfl
        clear hP1 hK1 hD1 hk1 hPc hDc hKc hFc hz1 hvm ht hz
        generalize H1 = H at hP hS ⊢
        refine lv_if_ne (pc := 19) (tgt := 24) hx hb d_xP_areNumbers_19 (by decide) (fun hc => ?_) (fun hc => ?_)
        · rw [if_neg hc] at hf
          refine lv_iinc (pc := 24) (v := (x2 + (1 : Int32))) (lv' := [(2, .int (x2 + (1 : Int32))), (0, .ref q_p1), (1, .int x1)]) hx hb d_xP_areNumbers_24 hl (k := 2) rfl rfl (by decide) rfl (fun ls hl => ?_)
          refine lv_goto (pc := 27) (tgt := 2) hx hb d_xP_areNumbers_27 (by decide) ?_
          exact hk2 x1 (x2 + (1 : Int32)) _ _ _ hf hP hD hS (lv_sub hl [1, 2, 0] rfl)
        · rw [if_pos hc] at hf
          refine lv_iconst (pc := 22) (v := (0 : Int32)) hx hb d_xP_areNumbers_22 (by decide) ?_
          have e_0 := kr1 hf
          rw [e_0]
          exact hRet (by rw [← e_0]; exact (by decide)) 23 _ _ _ d_xP_areNumbers_23 hP hD hS
  have hL2 : ∀ n : Nat, ∀ (x1 : Int32) (x2 : Int32) (H : Heap) (locs : List Loc) (ls : Array Slot), (xP_areNumbers_L2 N n) x1 x2 c_p1 = some rv → va_P (dC, dI) clz [(q_p1, .inl (k_p1, 6, .inr (.inl c_p1)))] H → va_D A [(q_p1, .inl (k_p1, 6, .inr (.inl c_p1)))] → va_S A s.heap H locs → lv_has ls 3 [(0, .ref q_p1), (1, .int x1), (2, .int x2)] → W p l e (headSpec w_xP_areNumbers ({ frames := 1, cells := 0, slots := 0, locals := 21 })).room s m args below meth c H locs 0 0 Q (F0 m 2 ls []) := by
    intro n
    induction n with
    | zero => intro x1 x2 H locs ls hf hP hD hS hl; have hf : none = some rv := hf; cases hf
    | succ n ih => exact hB2 (xP_areNumbers_L2 N n) ih
  rw [xP_areNumbers] at hf
  refine lv_iconst (pc := 0) (v := (0 : Int32)) hx hb d_xP_areNumbers_0 (by decide) ?_
  refine lv_istore_n (pc := 1) (lv' := [(2, .int (0 : Int32)), (0, .ref q_p1), (1, .int x1)]) hx hb d_xP_areNumbers_1 rfl hl (by decide) rfl (fun ls hl => ?_)
  exact hL2 N x1 (0 : Int32) _ _ _ hf hP hD hS (lv_sub hl [1, 2, 0] rfl)
set_option maxHeartbeats 4000000 in
set_option maxRecDepth 100000 in
theorem ct_xP_nearest (l : Launch) (dC : Nat → ClassId) (dI : Nat → Nat → Nat) (sz : Nat) (x0 : Int64) (x2 : Int64) (rv : Int64) (hf : xP_nearest x0 x2 = some rv) : Met l y_xP_nearest w_xP_nearest ({ frames := 1, cells := 0, slots := 0, locals := 25 }) (va_Pc [.long x0, .long x2] (fun U => U.heap.size = sz ∧ va_P (dC, dI) clz [] U.heap ∧ va_K (dC, dI) clz [] U ∧ va_D (fun _ => True) [])) (va_Ql (fun (r9 : Int64) (_ : Unit) => r9 = rv) (fun _ t => va_P (dC, dI) clz [] t.heap ∧ va_K (dC, dI) clz [] t ∧ va_D (va_A [] sz) []) (va_A [] sz)) 0 0 (va_A [] sz) := by
  refine Met.ofW (cc := prog_1_method_22_code) (maxL := 4) (ret := (some .long)) (by decide +kernel) rfl ?_
  intro p e s m args below meth c s₁ B hml hv
  obtain ⟨hargs, hsz, hP, hK, hD0⟩ := hv
  have hx := B.exec
  have hb := B.bytes
  have hr := B.returns
  have hts := atoms_spec (ws := w_xP_nearest) B.pre
  have hown : s.vm.findClass "PathTexts" = some m.cls := findClass_of_methodNamed B.named
  have hlocks := B.notSynchronized
  subst hsz
  have hD := hD0.self (sz := s.heap.size)
  generalize hAe : va_A [] s.heap.size = A at hD ⊢
  have hA : ∀ q : Nat, s.heap.size ≤ q → A q := fun q h => by rw [← hAe]; exact Or.inr h
  clear hAe hD0
  have hS : va_S A s.heap s.heap [] := va_S.rf
  have hl := lv_entry ([.long x0, .long x2]) (n := 4) (Nat.le_of_ble_eq_true rfl)
  have hent : entryFrame m args 4 = F0 m 0 (lg_sl ([.long x0, .long x2]) ++ List.replicate (4 - (lg_sl ([.long x0, .long x2])).length) Slot.unset).toArray [] := by rw [hargs, lg_entry_eq]
  rw [hent]
  clear hent hargs
  generalize (lg_sl ([.long x0, .long x2]) ++ List.replicate (4 - (lg_sl ([.long x0, .long x2])).length) Slot.unset).toArray = ls at hl ⊢
  have hl : lv_has ls 4 [(0, .long x0), (2, .long x2)] := hl
  suffices key : ∀ Q : State → Prop, (∀ (pc : Nat) (H : Heap) (locs : List Loc) (ls : Array Slot), decode prog_1_method_22_code pc = .ok (.lreturn, 1) → va_P (dC, dI) clz [] H → va_D A [] → va_S A s.heap H locs → W p l e (headSpec w_xP_nearest ({ frames := 1, cells := 0, slots := 0, locals := 25 })).room s m args below meth c H locs 0 0 Q (F0 m pc ls [.long rv])) → W p l e (headSpec w_xP_nearest ({ frames := 1, cells := 0, slots := 0, locals := 25 })).room s m args below meth c s.heap [] 0 0 Q (F0 m 0 ls []) from key _ (fun pc H locs ls hd hP hD hS => W.lret hx hb hr (fun t ht hW => ⟨⟨rv, (), rfl, rfl, by rw [ht]; exact hP, va_K.moved hW.alike hK, hD⟩, hS.F ht⟩) hS.2.2 hd)
  intro Q hRet
  rw [xP_nearest] at hf
  refine lv_lload_n (pc := 0) hx hb d_xP_nearest_0 rfl (lv_at hl 1 rfl) ?_
  refine lv_lconst (pc := 1) (v := (1 : Int64)) hx hb d_xP_nearest_1 (by decide) ?_
  refine kx_lcge (pc := 2) (tgt := 10) hx hb d_xP_nearest_2 d_xP_nearest_3 (by decide) (fun hc => ?_) (fun hc => ?_)
  · rw [if_pos hc] at hf
    refine lv_ldc2 (pc := 10) hx hb hown (hts _ (List.mem_cons_of_mem _ kw_266)) d_xP_nearest_10 ?_
    refine lv_lload_n (pc := 13) hx hb d_xP_nearest_13 rfl (lv_at hl 0 rfl) ?_
    refine lv_lmul (pc := 14) hx hb d_xP_nearest_14 ?_
    refine lv_lload_n (pc := 15) hx hb d_xP_nearest_15 rfl (lv_at hl 1 rfl) ?_
    refine lv_ladd (pc := 16) hx hb d_xP_nearest_16 ?_
    refine lv_ldc2 (pc := 17) hx hb hown (hts _ (List.mem_cons_of_mem _ kw_266)) d_xP_nearest_17 ?_
    refine lv_lload_n (pc := 20) hx hb d_xP_nearest_20 rfl (lv_at hl 1 rfl) ?_
    refine lv_lmul (pc := 21) hx hb d_xP_nearest_21 ?_
    obtain ⟨r22, hz, hf⟩ := kb1_some hf
    have hPc := hP.sub (ws' := []) [] rfl
    have hDc := hD.sub (ws' := []) [] (by decide) rfl
    have hKc := hK.sub (tys' := []) [] rfl
    have hFc := va_free (wc := []) hD hS hA [] rfl
    refine va_calll (pc := 22) (va_runS (As := [.long (((2 : Int64) * x0) + x2), .long ((2 : Int64) * x2)]) (rest := []) ⟨hx, hb, hml, hown, hts⟩ (ct_jMath_floorDiv l dC dI _ (((2 : Int64) * x0) + x2) ((2 : Int64) * x2) r22 hz) (va_cwS 2 hts (kw_in3 kw_267 kw_268 kw_15 kw_269) rfl rfl rfl (by decide +kernel) ⟨Nat.le_of_ble_eq_true rfl, Nat.le_of_ble_eq_true rfl⟩) (kx_pre hPc hKc hDc) rfl rfl hl.1 rfl (lv_room (Nat.le_of_ble_eq_true rfl)) d_xP_nearest_22 ⟨Nat.le_of_ble_eq_true rfl, Nat.le_of_ble_eq_true rfl⟩) hS (fun q _ h => hFc q h) hFc (fun r9 u t H1 locs ht hvm hw hB hz1 hk1 hS => ?_)
    obtain ⟨hP1, hK1, hD1⟩ := hB
    rw [ht] at hP1
    have hw := hw.symm
    subst hw
    obtain ⟨hP, hD⟩ := va_join (wr := []) (w1 := []) hP hD [] [] rfl rfl (by decide) (by decide) hk1 hFc hP1 hD1
    have hP := hP.sub (ws' := []) [] rfl
    have hD := hD.sub (ws' := []) [] (by decide) rfl
    clear hP1 hK1 hD1 hk1 hPc hDc hKc hFc hz1 hvm ht hz
    generalize H1 = H at hP hS ⊢
    have e_0 := kr1 hf
    rw [e_0]
    exact hRet 25 _ _ _ d_xP_nearest_25 hP hD hS
  · rw [if_neg hc] at hf
    refine lv_lconst (pc := 6) (v := (0 : Int64)) hx hb d_xP_nearest_6 (by decide) ?_
    refine lv_goto (pc := 7) (tgt := 25) hx hb d_xP_nearest_7 (by decide) ?_
    have e_0 := kr1 hf
    rw [e_0]
    exact hRet 25 _ _ _ d_xP_nearest_25 hP hD hS
set_option maxHeartbeats 4000000 in
set_option maxRecDepth 100000 in
theorem ct_xRow_put (l : Launch) (dC : Nat → ClassId) (dI : Nat → Nat → Nat) (q_o : Nat) (q_o_characters : Nat) (k_o_characters : ClassId) (sz : Nat) (n_o_characters : Nat) (x1 : Int32) (v_o_length : Int32) (c_o_characters : (Nat → Int32)) (v_o_length_z : Int32) (c_o_characters_z : (Nat → Int32)) (hf : xRow_put n_o_characters x1 v_o_length c_o_characters = some (v_o_length_z, c_o_characters_z)) : Met l y_xRow_put w_xRow_put ({ frames := 0, cells := 0, slots := 0, locals := 0 }) (va_Pc [.ref q_o, .int x1] (fun U => U.heap.size = sz ∧ va_P (dC, dI) clz [(q_o, .inr (5, f_Row q_o_characters v_o_length)), (q_o_characters, .inl (k_o_characters, n_o_characters, .inl c_o_characters))] U.heap ∧ va_K (dC, dI) clz [(k_o_characters, .char)] U ∧ va_D (fun _ => True) [(q_o, .inr (5, f_Row q_o_characters v_o_length)), (q_o_characters, .inl (k_o_characters, n_o_characters, .inl c_o_characters))])) (va_Qv (fun _ : Unit => True) (fun _ t => va_P (dC, dI) clz [(q_o, .inr (5, f_Row q_o_characters v_o_length_z)), (q_o_characters, .inl (k_o_characters, n_o_characters, .inl c_o_characters_z))] t.heap ∧ va_K (dC, dI) clz [(k_o_characters, .char)] t ∧ va_D (va_A [(q_o, .inr (5, f_Row q_o_characters v_o_length)), (q_o_characters, .inl (k_o_characters, n_o_characters, .inl c_o_characters))] sz) [(q_o, .inr (5, f_Row q_o_characters v_o_length_z)), (q_o_characters, .inl (k_o_characters, n_o_characters, .inl c_o_characters_z))]) (va_A [(q_o, .inr (5, f_Row q_o_characters v_o_length)), (q_o_characters, .inl (k_o_characters, n_o_characters, .inl c_o_characters))] sz)) 0 0 (va_A [(q_o, .inr (5, f_Row q_o_characters v_o_length)), (q_o_characters, .inl (k_o_characters, n_o_characters, .inl c_o_characters))] sz) := by
  refine Met.ofW (cc := prog_7_method_2_code) (maxL := 2) (ret := none) (by decide +kernel) rfl ?_
  intro p e s m args below meth c s₁ B hml hv
  obtain ⟨hargs, hsz, hP, hK, hD0⟩ := hv
  have hx := B.exec
  have hb := B.bytes
  have hr := B.returns
  have hts := atoms_spec (ws := w_xRow_put) B.pre
  have hown : s.vm.findClass "PathTexts$Row" = some m.cls := findClass_of_methodNamed B.named
  have hlocks := B.notSynchronized
  subst hsz
  have hD := hD0.self (sz := s.heap.size)
  generalize hAe : va_A [(q_o, .inr (5, f_Row q_o_characters v_o_length)), (q_o_characters, .inl (k_o_characters, n_o_characters, .inl c_o_characters))] s.heap.size = A at hD ⊢
  have hA : ∀ q : Nat, s.heap.size ≤ q → A q := fun q h => by rw [← hAe]; exact Or.inr h
  clear hAe hD0
  have hS : va_S A s.heap s.heap [] := va_S.rf
  have hl := lv_entry ([.ref q_o, .int x1]) (n := 2) (Nat.le_of_ble_eq_true rfl)
  have hent : entryFrame m args 2 = F0 m 0 (lg_sl ([.ref q_o, .int x1]) ++ List.replicate (2 - (lg_sl ([.ref q_o, .int x1])).length) Slot.unset).toArray [] := by rw [hargs, lg_entry_eq]
  rw [hent]
  clear hent hargs
  generalize (lg_sl ([.ref q_o, .int x1]) ++ List.replicate (2 - (lg_sl ([.ref q_o, .int x1])).length) Slot.unset).toArray = ls at hl ⊢
  have hl : lv_has ls 2 [(0, .ref q_o), (1, .int x1)] := hl
  suffices key : ∀ Q : State → Prop, (∀ (pc : Nat) (H : Heap) (locs : List Loc) (ls : Array Slot), decode prog_7_method_2_code pc = .ok (.return_, 1) → va_P (dC, dI) clz [(q_o, .inr (5, f_Row q_o_characters v_o_length_z)), (q_o_characters, .inl (k_o_characters, n_o_characters, .inl c_o_characters_z))] H → va_D A [(q_o, .inr (5, f_Row q_o_characters v_o_length_z)), (q_o_characters, .inl (k_o_characters, n_o_characters, .inl c_o_characters_z))] → va_S A s.heap H locs → W p l e (headSpec w_xRow_put ({ frames := 0, cells := 0, slots := 0, locals := 0 })).room s m args below meth c H locs 0 0 Q (F0 m pc ls [])) → W p l e (headSpec w_xRow_put ({ frames := 0, cells := 0, slots := 0, locals := 0 })).room s m args below meth c s.heap [] 0 0 Q (F0 m 0 ls []) from key _ (fun pc H locs ls hd hP hD hS => W.vret hx hb hr (fun t ht hW => ⟨⟨(), rfl, trivial, by rw [ht]; exact hP, va_K.moved hW.alike hK, hD⟩, hS.F ht⟩) hS.2.2 hd)
  intro Q hRet
  rw [xRow_put] at hf
  refine lv_aload_n (pc := 0) hx hb d_xRow_put_0 rfl (lv_at hl 0 rfl) ?_
  refine va_get (pc := 1) (D := (dC, dI)) (ci := 5) (v := .int v_o_length) (C := "PathTexts$Row") (T := F_Row) (N := 2) hx hb hts (fun w h => List.mem_cons_of_mem _ (in_Row w h)) hown hK hP 0 rfl rfl 1 (by decide) (hts _ (List.mem_cons_of_mem _ kw_34)) (fun _ h9 => h9) fg_Row_1 d_xRow_put_1 ?_
  refine lv_if_lt (pc := 4) (tgt := 40) hx hb d_xRow_put_4 (by decide) (fun hc => ?_) (fun hc => ?_)
  · rw [if_pos hc] at hf
    obtain ⟨e_0, e_1⟩ := kr2 hf
    exact hRet 40 _ _ _ d_xRow_put_40 (by rw [← e_0, ← e_1]; exact hP) (by rw [← e_0, ← e_1]; exact hD) hS
  · rw [if_neg hc] at hf
    refine lv_aload_n (pc := 7) hx hb d_xRow_put_7 rfl (lv_at hl 0 rfl) ?_
    refine va_get (pc := 8) (D := (dC, dI)) (ci := 5) (v := .int v_o_length) (C := "PathTexts$Row") (T := F_Row) (N := 2) hx hb hts (fun w h => List.mem_cons_of_mem _ (in_Row w h)) hown hK hP 0 rfl rfl 1 (by decide) (hts _ (List.mem_cons_of_mem _ kw_34)) (fun _ h9 => h9) fg_Row_1 d_xRow_put_8 ?_
    refine lv_aload_n (pc := 11) hx hb d_xRow_put_11 rfl (lv_at hl 0 rfl) ?_
    refine va_get (pc := 12) (D := (dC, dI)) (ci := 5) (v := .ref q_o_characters) (C := "PathTexts$Row") (T := F_Row) (N := 2) hx hb hts (fun w h => List.mem_cons_of_mem _ (in_Row w h)) hown hK hP 0 rfl rfl 0 (by decide) (hts _ (List.mem_cons_of_mem _ kw_33)) (fun _ h9 => h9) fg_Row_0 d_xRow_put_12 ?_
    refine va_alen (pc := 15) hx hb hK hP 1 0 rfl rfl (v := (Int32.ofNat n_o_characters)) rfl d_xRow_put_15 ?_
    refine lv_icmp_ge (pc := 16) (tgt := 40) hx hb d_xRow_put_16 (by decide) (fun hc => ?_) (fun hc => ?_)
    · rw [if_pos hc] at hf
      obtain ⟨e_0, e_1⟩ := kr2 hf
      exact hRet 40 _ _ _ d_xRow_put_40 (by rw [← e_0, ← e_1]; exact hP) (by rw [← e_0, ← e_1]; exact hD) hS
    · rw [if_neg hc] at hf
      refine lv_aload_n (pc := 19) hx hb d_xRow_put_19 rfl (lv_at hl 0 rfl) ?_
      refine va_get (pc := 20) (D := (dC, dI)) (ci := 5) (v := .ref q_o_characters) (C := "PathTexts$Row") (T := F_Row) (N := 2) hx hb hts (fun w h => List.mem_cons_of_mem _ (in_Row w h)) hown hK hP 0 rfl rfl 0 (by decide) (hts _ (List.mem_cons_of_mem _ kw_33)) (fun _ h9 => h9) fg_Row_0 d_xRow_put_20 ?_
      refine lv_aload_n (pc := 23) hx hb d_xRow_put_23 rfl (lv_at hl 0 rfl) ?_
      refine va_get (pc := 24) (D := (dC, dI)) (ci := 5) (v := .int v_o_length) (C := "PathTexts$Row") (T := F_Row) (N := 2) hx hb hts (fun w h => List.mem_cons_of_mem _ (in_Row w h)) hown hK hP 0 rfl rfl 1 (by decide) (hts _ (List.mem_cons_of_mem _ kw_34)) (fun _ h9 => h9) fg_Row_1 d_xRow_put_24 ?_
      refine lv_iload_n (pc := 27) hx hb d_xRow_put_27 rfl (lv_at hl 1 rfl) ?_
      refine lv_i2c (pc := 28) hx hb d_xRow_put_28 rfl ?_
      obtain ⟨hg1, hf⟩ := kg_some hf
      refine kx_cast (pc := 29) (ws' := [(q_o, .inr (5, f_Row q_o_characters v_o_length)), (q_o_characters, .inl (k_o_characters, n_o_characters, .inl (upd c_o_characters (v_o_length).toNatClampNeg (vp_nar .char (k2c x1)))))]) hx hb hK hP hD hS 1 0 rfl rfl (ki_in hg1) rfl d_xRow_put_29 (fun H locs hP hD hS => ?_)
      refine lv_aload_n (pc := 30) hx hb d_xRow_put_30 rfl (lv_at hl 0 rfl) ?_
      refine lv_dup (pc := 31) hx hb d_xRow_put_31 rfl ?_
      refine va_get (pc := 32) (D := (dC, dI)) (ci := 5) (v := .int v_o_length) (C := "PathTexts$Row") (T := F_Row) (N := 2) hx hb hts (fun w h => List.mem_cons_of_mem _ (in_Row w h)) hown hK hP 0 rfl rfl 1 (by decide) (hts _ (List.mem_cons_of_mem _ kw_34)) (fun _ h9 => h9) fg_Row_1 d_xRow_put_32 ?_
      refine lv_iconst (pc := 35) (v := (1 : Int32)) hx hb d_xRow_put_35 (by decide) ?_
      refine lv_iadd (pc := 36) hx hb d_xRow_put_36 ?_
      refine kx_put (pc := 37) (D := (dC, dI)) (ci := 5) (v := .int (v_o_length + (1 : Int32))) (ty := .int) (C := "PathTexts$Row") (T := F_Row) (N := 2) hx hb hts (fun w h => List.mem_cons_of_mem _ (in_Row w h)) t_Row tk_Row n_Row hown hK hP hD hS 0 rfl rfl 1 (by decide) (hts _ (List.mem_cons_of_mem _ kw_34)) (fun _ h9 => h9) rfl (tk_Row 1 (by decide)) rfl rfl fl_Row_1 fs_Row_1 (ws' := [(q_o, .inr (5, f_Row q_o_characters (v_o_length + (1 : Int32)))), (q_o_characters, .inl (k_o_characters, n_o_characters, .inl (upd c_o_characters (v_o_length).toNatClampNeg (vp_nar .char (k2c x1)))))]) rfl d_xRow_put_37 (fun H locs hP hD hS => ?_)
      obtain ⟨e_0, e_1⟩ := kr2 hf
      exact hRet 40 _ _ _ d_xRow_put_40 (by rw [← e_0, ← e_1]; exact hP) (by rw [← e_0, ← e_1]; exact hD) hS
set_option maxHeartbeats 4000000 in
set_option maxRecDepth 100000 in
theorem ct_xRow_at (l : Launch) (dC : Nat → ClassId) (dI : Nat → Nat → Nat) (q_o : Nat) (q_o_characters : Nat) (k_o_characters : ClassId) (sz : Nat) (n_o_characters : Nat) (x1 : Int32) (v_o_length : Int32) (c_o_characters : (Nat → Int32)) (rv : Int32) (hf : xRow_at n_o_characters x1 v_o_length c_o_characters = some rv) : Met l y_xRow_at w_xRow_at ({ frames := 0, cells := 0, slots := 0, locals := 0 }) (va_Pc [.ref q_o, .int x1] (fun U => U.heap.size = sz ∧ va_P (dC, dI) clz [(q_o, .inr (5, f_Row q_o_characters v_o_length)), (q_o_characters, .inl (k_o_characters, n_o_characters, .inl c_o_characters))] U.heap ∧ va_K (dC, dI) clz [(k_o_characters, .char)] U ∧ va_D (fun _ => True) [(q_o, .inr (5, f_Row q_o_characters v_o_length)), (q_o_characters, .inl (k_o_characters, n_o_characters, .inl c_o_characters))])) (va_Qi (fun (r9 : Int32) (_ : Unit) => r9 = rv) (fun _ t => va_P (dC, dI) clz [(q_o, .inr (5, f_Row q_o_characters v_o_length)), (q_o_characters, .inl (k_o_characters, n_o_characters, .inl c_o_characters))] t.heap ∧ va_K (dC, dI) clz [(k_o_characters, .char)] t ∧ va_D (va_A [(q_o, .inr (5, f_Row q_o_characters v_o_length)), (q_o_characters, .inl (k_o_characters, n_o_characters, .inl c_o_characters))] sz) [(q_o, .inr (5, f_Row q_o_characters v_o_length)), (q_o_characters, .inl (k_o_characters, n_o_characters, .inl c_o_characters))]) (va_A [(q_o, .inr (5, f_Row q_o_characters v_o_length)), (q_o_characters, .inl (k_o_characters, n_o_characters, .inl c_o_characters))] sz)) 0 0 (va_A [(q_o, .inr (5, f_Row q_o_characters v_o_length)), (q_o_characters, .inl (k_o_characters, n_o_characters, .inl c_o_characters))] sz) := by
  refine Met.ofW (cc := prog_7_method_3_code) (maxL := 2) (ret := (some .char)) (by decide +kernel) rfl ?_
  intro p e s m args below meth c s₁ B hml hv
  obtain ⟨hargs, hsz, hP, hK, hD0⟩ := hv
  have hx := B.exec
  have hb := B.bytes
  have hr := B.returns
  have hts := atoms_spec (ws := w_xRow_at) B.pre
  have hown : s.vm.findClass "PathTexts$Row" = some m.cls := findClass_of_methodNamed B.named
  have hlocks := B.notSynchronized
  subst hsz
  have hD := hD0.self (sz := s.heap.size)
  generalize hAe : va_A [(q_o, .inr (5, f_Row q_o_characters v_o_length)), (q_o_characters, .inl (k_o_characters, n_o_characters, .inl c_o_characters))] s.heap.size = A at hD ⊢
  have hA : ∀ q : Nat, s.heap.size ≤ q → A q := fun q h => by rw [← hAe]; exact Or.inr h
  clear hAe hD0
  have hS : va_S A s.heap s.heap [] := va_S.rf
  have hl := lv_entry ([.ref q_o, .int x1]) (n := 2) (Nat.le_of_ble_eq_true rfl)
  have hent : entryFrame m args 2 = F0 m 0 (lg_sl ([.ref q_o, .int x1]) ++ List.replicate (2 - (lg_sl ([.ref q_o, .int x1])).length) Slot.unset).toArray [] := by rw [hargs, lg_entry_eq]
  rw [hent]
  clear hent hargs
  generalize (lg_sl ([.ref q_o, .int x1]) ++ List.replicate (2 - (lg_sl ([.ref q_o, .int x1])).length) Slot.unset).toArray = ls at hl ⊢
  have hl : lv_has ls 2 [(0, .ref q_o), (1, .int x1)] := hl
  suffices key : ∀ Q : State → Prop, (∀ (hn9 : narrow .char (.int rv) = .int rv) (pc : Nat) (H : Heap) (locs : List Loc) (ls : Array Slot), decode prog_7_method_3_code pc = .ok (.ireturn, 1) → va_P (dC, dI) clz [(q_o, .inr (5, f_Row q_o_characters v_o_length)), (q_o_characters, .inl (k_o_characters, n_o_characters, .inl c_o_characters))] H → va_D A [(q_o, .inr (5, f_Row q_o_characters v_o_length)), (q_o_characters, .inl (k_o_characters, n_o_characters, .inl c_o_characters))] → va_S A s.heap H locs → W p l e (headSpec w_xRow_at ({ frames := 0, cells := 0, slots := 0, locals := 0 })).room s m args below meth c H locs 0 0 Q (F0 m pc ls [.int rv])) → W p l e (headSpec w_xRow_at ({ frames := 0, cells := 0, slots := 0, locals := 0 })).room s m args below meth c s.heap [] 0 0 Q (F0 m 0 ls []) from key _ (fun hn9 pc H locs ls hd hP hD hS => W.zret hx hb hr hn9 (fun t ht hW => ⟨⟨rv, (), rfl, rfl, by rw [ht]; exact hP, va_K.moved hW.alike hK, hD⟩, hS.F ht⟩) hS.2.2 hd)
  intro Q hRet
  rw [xRow_at] at hf
  refine lv_iload_n (pc := 0) hx hb d_xRow_at_0 rfl (lv_at hl 1 rfl) ?_
  refine lv_if_lt (pc := 1) (tgt := 30) hx hb d_xRow_at_1 (by decide) (fun hc => ?_) (fun hc => ?_)
  · rw [if_pos hc] at hf
    refine lv_iconst (pc := 30) (v := (0 : Int32)) hx hb d_xRow_at_30 (by decide) ?_
    have e_0 := kr1 hf
    rw [e_0]
    exact hRet (by rw [← e_0]; exact (by decide)) 31 _ _ _ d_xRow_at_31 hP hD hS
  · rw [if_neg hc] at hf
    refine lv_iload_n (pc := 4) hx hb d_xRow_at_4 rfl (lv_at hl 1 rfl) ?_
    refine lv_aload_n (pc := 5) hx hb d_xRow_at_5 rfl (lv_at hl 0 rfl) ?_
    refine va_get (pc := 6) (D := (dC, dI)) (ci := 5) (v := .int v_o_length) (C := "PathTexts$Row") (T := F_Row) (N := 2) hx hb hts (fun w h => List.mem_cons_of_mem _ (in_Row w h)) hown hK hP 0 rfl rfl 1 (by decide) (hts _ (List.mem_cons_of_mem _ kw_34)) (fun _ h9 => h9) fg_Row_1 d_xRow_at_6 ?_
    refine lv_icmp_ge (pc := 9) (tgt := 30) hx hb d_xRow_at_9 (by decide) (fun hc => ?_) (fun hc => ?_)
    · rw [if_pos hc] at hf
      refine lv_iconst (pc := 30) (v := (0 : Int32)) hx hb d_xRow_at_30 (by decide) ?_
      have e_0 := kr1 hf
      rw [e_0]
      exact hRet (by rw [← e_0]; exact (by decide)) 31 _ _ _ d_xRow_at_31 hP hD hS
    · rw [if_neg hc] at hf
      refine lv_iload_n (pc := 12) hx hb d_xRow_at_12 rfl (lv_at hl 1 rfl) ?_
      refine lv_aload_n (pc := 13) hx hb d_xRow_at_13 rfl (lv_at hl 0 rfl) ?_
      refine va_get (pc := 14) (D := (dC, dI)) (ci := 5) (v := .ref q_o_characters) (C := "PathTexts$Row") (T := F_Row) (N := 2) hx hb hts (fun w h => List.mem_cons_of_mem _ (in_Row w h)) hown hK hP 0 rfl rfl 0 (by decide) (hts _ (List.mem_cons_of_mem _ kw_33)) (fun _ h9 => h9) fg_Row_0 d_xRow_at_14 ?_
      refine va_alen (pc := 17) hx hb hK hP 1 0 rfl rfl (v := (Int32.ofNat n_o_characters)) rfl d_xRow_at_17 ?_
      refine lv_icmp_ge (pc := 18) (tgt := 30) hx hb d_xRow_at_18 (by decide) (fun hc => ?_) (fun hc => ?_)
      · rw [if_pos hc] at hf
        refine lv_iconst (pc := 30) (v := (0 : Int32)) hx hb d_xRow_at_30 (by decide) ?_
        have e_0 := kr1 hf
        rw [e_0]
        exact hRet (by rw [← e_0]; exact (by decide)) 31 _ _ _ d_xRow_at_31 hP hD hS
      · rw [if_neg hc] at hf
        refine lv_aload_n (pc := 21) hx hb d_xRow_at_21 rfl (lv_at hl 0 rfl) ?_
        refine va_get (pc := 22) (D := (dC, dI)) (ci := 5) (v := .ref q_o_characters) (C := "PathTexts$Row") (T := F_Row) (N := 2) hx hb hts (fun w h => List.mem_cons_of_mem _ (in_Row w h)) hown hK hP 0 rfl rfl 0 (by decide) (hts _ (List.mem_cons_of_mem _ kw_33)) (fun _ h9 => h9) fg_Row_0 d_xRow_at_22 ?_
        refine lv_iload_n (pc := 25) hx hb d_xRow_at_25 rfl (lv_at hl 1 rfl) ?_
        obtain ⟨hg1, hf⟩ := kg_some hf
        refine va_cald (pc := 26) hx hb hK hP 1 0 rfl rfl (ki_in hg1) d_xRow_at_26 ?_
        refine lv_goto (pc := 27) (tgt := 31) hx hb d_xRow_at_27 (by decide) ?_
        obtain ⟨hg2, hf⟩ := kg_some hf
        have e_0 := kr1 hf
        rw [e_0]
        exact hRet (by rw [← e_0]; exact kc_n hg2) 31 _ _ _ d_xRow_at_31 hP hD hS
set_option maxHeartbeats 4000000 in
set_option maxRecDepth 100000 in
theorem ct_xDrawing_has (l : Launch) (dC : Nat → ClassId) (dI : Nat → Nat → Nat) (q_o : Nat) (q_o_kinds : Nat) (q_o_numbers : Nat) (sz : Nat) (x1 : Int32) (v_o_count : Int32) (rv : Int32) (hf : xDrawing_has x1 v_o_count = some rv) : Met l y_xDrawing_has w_xDrawing_has ({ frames := 0, cells := 0, slots := 0, locals := 0 }) (va_Pc [.ref q_o, .int x1] (fun U => U.heap.size = sz ∧ va_P (dC, dI) clz [(q_o, .inr (1, f_Drawing q_o_kinds q_o_numbers v_o_count))] U.heap ∧ va_K (dC, dI) clz [] U ∧ va_D (fun _ => True) [(q_o, .inr (1, f_Drawing q_o_kinds q_o_numbers v_o_count))])) (va_Qi (fun (r9 : Int32) (_ : Unit) => r9 = rv) (fun _ t => va_P (dC, dI) clz [(q_o, .inr (1, f_Drawing q_o_kinds q_o_numbers v_o_count))] t.heap ∧ va_K (dC, dI) clz [] t ∧ va_D (va_A [(q_o, .inr (1, f_Drawing q_o_kinds q_o_numbers v_o_count))] sz) [(q_o, .inr (1, f_Drawing q_o_kinds q_o_numbers v_o_count))]) (va_A [(q_o, .inr (1, f_Drawing q_o_kinds q_o_numbers v_o_count))] sz)) 0 0 (va_A [(q_o, .inr (1, f_Drawing q_o_kinds q_o_numbers v_o_count))] sz) := by
  refine Met.ofW (cc := prog_3_method_2_code) (maxL := 2) (ret := (some .boolean)) (by decide +kernel) rfl ?_
  intro p e s m args below meth c s₁ B hml hv
  obtain ⟨hargs, hsz, hP, hK, hD0⟩ := hv
  have hx := B.exec
  have hb := B.bytes
  have hr := B.returns
  have hts := atoms_spec (ws := w_xDrawing_has) B.pre
  have hown : s.vm.findClass "PathTexts$Drawing" = some m.cls := findClass_of_methodNamed B.named
  have hlocks := B.notSynchronized
  subst hsz
  have hD := hD0.self (sz := s.heap.size)
  generalize hAe : va_A [(q_o, .inr (1, f_Drawing q_o_kinds q_o_numbers v_o_count))] s.heap.size = A at hD ⊢
  have hA : ∀ q : Nat, s.heap.size ≤ q → A q := fun q h => by rw [← hAe]; exact Or.inr h
  clear hAe hD0
  have hS : va_S A s.heap s.heap [] := va_S.rf
  have hl := lv_entry ([.ref q_o, .int x1]) (n := 2) (Nat.le_of_ble_eq_true rfl)
  have hent : entryFrame m args 2 = F0 m 0 (lg_sl ([.ref q_o, .int x1]) ++ List.replicate (2 - (lg_sl ([.ref q_o, .int x1])).length) Slot.unset).toArray [] := by rw [hargs, lg_entry_eq]
  rw [hent]
  clear hent hargs
  generalize (lg_sl ([.ref q_o, .int x1]) ++ List.replicate (2 - (lg_sl ([.ref q_o, .int x1])).length) Slot.unset).toArray = ls at hl ⊢
  have hl : lv_has ls 2 [(0, .ref q_o), (1, .int x1)] := hl
  suffices key : ∀ Q : State → Prop, (∀ (hn9 : narrow .boolean (.int rv) = .int rv) (pc : Nat) (H : Heap) (locs : List Loc) (ls : Array Slot), decode prog_3_method_2_code pc = .ok (.ireturn, 1) → va_P (dC, dI) clz [(q_o, .inr (1, f_Drawing q_o_kinds q_o_numbers v_o_count))] H → va_D A [(q_o, .inr (1, f_Drawing q_o_kinds q_o_numbers v_o_count))] → va_S A s.heap H locs → W p l e (headSpec w_xDrawing_has ({ frames := 0, cells := 0, slots := 0, locals := 0 })).room s m args below meth c H locs 0 0 Q (F0 m pc ls [.int rv])) → W p l e (headSpec w_xDrawing_has ({ frames := 0, cells := 0, slots := 0, locals := 0 })).room s m args below meth c s.heap [] 0 0 Q (F0 m 0 ls []) from key _ (fun hn9 pc H locs ls hd hP hD hS => W.zret hx hb hr hn9 (fun t ht hW => ⟨⟨rv, (), rfl, rfl, by rw [ht]; exact hP, va_K.moved hW.alike hK, hD⟩, hS.F ht⟩) hS.2.2 hd)
  intro Q hRet
  rw [xDrawing_has] at hf
  refine lv_iload_n (pc := 0) hx hb d_xDrawing_has_0 rfl (lv_at hl 1 rfl) ?_
  refine lv_if_lt (pc := 1) (tgt := 23) hx hb d_xDrawing_has_1 (by decide) (fun hc => ?_) (fun hc => ?_)
  · rw [if_pos hc] at hf
    refine lv_iconst (pc := 23) (v := (0 : Int32)) hx hb d_xDrawing_has_23 (by decide) ?_
    have e_0 := kr1 hf
    rw [e_0]
    exact hRet (by rw [← e_0]; exact (by decide)) 24 _ _ _ d_xDrawing_has_24 hP hD hS
  · rw [if_neg hc] at hf
    refine lv_iload_n (pc := 4) hx hb d_xDrawing_has_4 rfl (lv_at hl 1 rfl) ?_
    refine lv_aload_n (pc := 5) hx hb d_xDrawing_has_5 rfl (lv_at hl 0 rfl) ?_
    refine va_get (pc := 6) (D := (dC, dI)) (ci := 1) (v := .int v_o_count) (C := "PathTexts$Drawing") (T := F_Drawing) (N := 3) hx hb hts (fun w h => List.mem_cons_of_mem _ (in_Drawing w h)) hown hK hP 0 rfl rfl 2 (by decide) (hts _ (List.mem_cons_of_mem _ kw_175)) (fun _ h9 => h9) fg_Drawing_2 d_xDrawing_has_6 ?_
    refine lv_icmp_ge (pc := 9) (tgt := 23) hx hb d_xDrawing_has_9 (by decide) (fun hc => ?_) (fun hc => ?_)
    · rw [if_pos hc] at hf
      refine lv_iconst (pc := 23) (v := (0 : Int32)) hx hb d_xDrawing_has_23 (by decide) ?_
      have e_0 := kr1 hf
      rw [e_0]
      exact hRet (by rw [← e_0]; exact (by decide)) 24 _ _ _ d_xDrawing_has_24 hP hD hS
    · rw [if_neg hc] at hf
      refine lv_iload_n (pc := 12) hx hb d_xDrawing_has_12 rfl (lv_at hl 1 rfl) ?_
      refine lv_sipush (pc := 13) (v := (150 : Int32)) hx hb d_xDrawing_has_13 (by decide) ?_
      refine lv_icmp_ge (pc := 16) (tgt := 23) hx hb d_xDrawing_has_16 (by decide) (fun hc => ?_) (fun hc => ?_)
      · rw [if_pos hc] at hf
        refine lv_iconst (pc := 23) (v := (0 : Int32)) hx hb d_xDrawing_has_23 (by decide) ?_
        have e_0 := kr1 hf
        rw [e_0]
        exact hRet (by rw [← e_0]; exact (by decide)) 24 _ _ _ d_xDrawing_has_24 hP hD hS
      · rw [if_neg hc] at hf
        refine lv_iconst (pc := 19) (v := (1 : Int32)) hx hb d_xDrawing_has_19 (by decide) ?_
        refine lv_goto (pc := 20) (tgt := 24) hx hb d_xDrawing_has_20 (by decide) ?_
        have e_0 := kr1 hf
        rw [e_0]
        exact hRet (by rw [← e_0]; exact (by decide)) 24 _ _ _ d_xDrawing_has_24 hP hD hS
set_option maxHeartbeats 4000000 in
set_option maxRecDepth 100000 in
theorem ct_xDrawing_add (l : Launch) (dC : Nat → ClassId) (dI : Nat → Nat → Nat) (q_o : Nat) (q_o_kinds : Nat) (q_o_numbers : Nat) (q_p2 : Nat) (k_o_numbers : ClassId) (k_o_kinds : ClassId) (k_p2 : ClassId) (sz : Nat) (tt : Nat) (N : Nat) (x1 : Int32) (v_o_count : Int32) (c_o_numbers : (Nat → Int32)) (c_o_kinds : (Nat → Int32)) (c_p2 : (Nat → Int64)) (rv : Int32) (v_o_count_z : Int32) (c_o_numbers_z : (Nat → Int32)) (c_o_kinds_z : (Nat → Int32)) (hf : xDrawing_add N x1 v_o_count c_o_numbers c_o_kinds c_p2 = some (rv, v_o_count_z, c_o_numbers_z, c_o_kinds_z)) : Met l y_xDrawing_add w_xDrawing_add ({ frames := 2, cells := 0, slots := 0, locals := 43 }) (va_Pc [.ref q_o, .int x1, .ref q_p2] (fun U => U.heap.size = sz ∧ va_P (dC, dI) clz [(q_o, .inr (1, f_Drawing q_o_kinds q_o_numbers v_o_count)), (q_o_numbers, .inl (k_o_numbers, 900, .inl c_o_numbers)), (q_o_kinds, .inl (k_o_kinds, 150, .inl c_o_kinds)), (q_p2, .inl (k_p2, 6, .inr (.inl c_p2)))] U.heap ∧ va_K (dC, dI) clz [(k_o_numbers, .int), (k_o_kinds, .int), (k_p2, .long)] U ∧ va_D (fun _ => True) [(q_o, .inr (1, f_Drawing q_o_kinds q_o_numbers v_o_count)), (q_o_numbers, .inl (k_o_numbers, 900, .inl c_o_numbers)), (q_o_kinds, .inl (k_o_kinds, 150, .inl c_o_kinds)), (q_p2, .inl (k_p2, 6, .inr (.inl c_p2)))] ∧ ke tt (va_A [(q_o, .inr (1, f_Drawing q_o_kinds q_o_numbers v_o_count)), (q_o_numbers, .inl (k_o_numbers, 900, .inl c_o_numbers)), (q_o_kinds, .inl (k_o_kinds, 150, .inl c_o_kinds)), (q_p2, .inl (k_p2, 6, .inr (.inl c_p2)))] sz) U)) (va_Qi (fun (r9 : Int32) (_ : Unit) => r9 = rv) (fun _ t => va_P (dC, dI) clz [(q_o, .inr (1, f_Drawing q_o_kinds q_o_numbers v_o_count_z)), (q_o_numbers, .inl (k_o_numbers, 900, .inl c_o_numbers_z)), (q_o_kinds, .inl (k_o_kinds, 150, .inl c_o_kinds_z)), (q_p2, .inl (k_p2, 6, .inr (.inl c_p2)))] t.heap ∧ va_K (dC, dI) clz [(k_o_numbers, .int), (k_o_kinds, .int), (k_p2, .long)] t ∧ va_D (va_A [(q_o, .inr (1, f_Drawing q_o_kinds q_o_numbers v_o_count)), (q_o_numbers, .inl (k_o_numbers, 900, .inl c_o_numbers)), (q_o_kinds, .inl (k_o_kinds, 150, .inl c_o_kinds)), (q_p2, .inl (k_p2, 6, .inr (.inl c_p2)))] sz) [(q_o, .inr (1, f_Drawing q_o_kinds q_o_numbers v_o_count_z)), (q_o_numbers, .inl (k_o_numbers, 900, .inl c_o_numbers_z)), (q_o_kinds, .inl (k_o_kinds, 150, .inl c_o_kinds_z)), (q_p2, .inl (k_p2, 6, .inr (.inl c_p2)))]) (va_A [(q_o, .inr (1, f_Drawing q_o_kinds q_o_numbers v_o_count)), (q_o_numbers, .inl (k_o_numbers, 900, .inl c_o_numbers)), (q_o_kinds, .inl (k_o_kinds, 150, .inl c_o_kinds)), (q_p2, .inl (k_p2, 6, .inr (.inl c_p2)))] sz)) 0 0 (va_A [(q_o, .inr (1, f_Drawing q_o_kinds q_o_numbers v_o_count)), (q_o_numbers, .inl (k_o_numbers, 900, .inl c_o_numbers)), (q_o_kinds, .inl (k_o_kinds, 150, .inl c_o_kinds)), (q_p2, .inl (k_p2, 6, .inr (.inl c_p2)))] sz) := by
  refine Met.ofW (cc := prog_3_method_3_code) (maxL := 5) (ret := (some .boolean)) (by decide +kernel) rfl ?_
  intro p e s m args below meth c s₁ B hml hv
  obtain ⟨hargs, hsz, hP, hK, hD0, hE⟩ := hv
  have hx := B.exec
  have hb := B.bytes
  have hr := B.returns
  have hts := atoms_spec (ws := w_xDrawing_add) B.pre
  have hown : s.vm.findClass "PathTexts$Drawing" = some m.cls := findClass_of_methodNamed B.named
  have hlocks := B.notSynchronized
  subst hsz
  have hD := hD0.self (sz := s.heap.size)
  generalize hAe : va_A [(q_o, .inr (1, f_Drawing q_o_kinds q_o_numbers v_o_count)), (q_o_numbers, .inl (k_o_numbers, 900, .inl c_o_numbers)), (q_o_kinds, .inl (k_o_kinds, 150, .inl c_o_kinds)), (q_p2, .inl (k_p2, 6, .inr (.inl c_p2)))] s.heap.size = A at hD hE ⊢
  have hA : ∀ q : Nat, s.heap.size ≤ q → A q := fun q h => by rw [← hAe]; exact Or.inr h
  clear hAe hD0
  have hS : va_S A s.heap s.heap [] := va_S.rf
  have hl := lv_entry ([.ref q_o, .int x1, .ref q_p2]) (n := 5) (Nat.le_of_ble_eq_true rfl)
  have hent : entryFrame m args 5 = F0 m 0 (lg_sl ([.ref q_o, .int x1, .ref q_p2]) ++ List.replicate (5 - (lg_sl ([.ref q_o, .int x1, .ref q_p2])).length) Slot.unset).toArray [] := by rw [hargs, lg_entry_eq]
  rw [hent]
  clear hent hargs
  generalize (lg_sl ([.ref q_o, .int x1, .ref q_p2]) ++ List.replicate (5 - (lg_sl ([.ref q_o, .int x1, .ref q_p2])).length) Slot.unset).toArray = ls at hl ⊢
  have hl : lv_has ls 5 [(0, .ref q_o), (1, .int x1), (2, .ref q_p2)] := hl
  suffices key : ∀ Q : State → Prop, (∀ (hn9 : narrow .boolean (.int rv) = .int rv) (pc : Nat) (H : Heap) (locs : List Loc) (ls : Array Slot), decode prog_3_method_3_code pc = .ok (.ireturn, 1) → va_P (dC, dI) clz [(q_o, .inr (1, f_Drawing q_o_kinds q_o_numbers v_o_count_z)), (q_o_numbers, .inl (k_o_numbers, 900, .inl c_o_numbers_z)), (q_o_kinds, .inl (k_o_kinds, 150, .inl c_o_kinds_z)), (q_p2, .inl (k_p2, 6, .inr (.inl c_p2)))] H → va_D A [(q_o, .inr (1, f_Drawing q_o_kinds q_o_numbers v_o_count_z)), (q_o_numbers, .inl (k_o_numbers, 900, .inl c_o_numbers_z)), (q_o_kinds, .inl (k_o_kinds, 150, .inl c_o_kinds_z)), (q_p2, .inl (k_p2, 6, .inr (.inl c_p2)))] → va_S A s.heap H locs → W p l e (headSpec w_xDrawing_add ({ frames := 2, cells := 0, slots := 0, locals := 43 })).room s m args below meth c H locs 0 0 Q (F0 m pc ls [.int rv])) → W p l e (headSpec w_xDrawing_add ({ frames := 2, cells := 0, slots := 0, locals := 43 })).room s m args below meth c s.heap [] 0 0 Q (F0 m 0 ls []) from key _ (fun hn9 pc H locs ls hd hP hD hS => W.zret hx hb hr hn9 (fun t ht hW => ⟨⟨rv, (), rfl, rfl, by rw [ht]; exact hP, va_K.moved hW.alike hK, hD⟩, hS.F ht⟩) hS.2.2 hd)
  intro Q hRet
  have hB41 : ∀ (k41 : Int32 → Int32 → Int32 → Int32 → (Nat → Int32) → (Nat → Int32) → (Nat → Int64) → Option (Int32 × Int32 × (Nat → Int32) × (Nat → Int32))), (∀ (x1 : Int32) (x3 : Int32) (x4 : Int32) (v_o_count : Int32) (c_o_numbers : (Nat → Int32)) (c_o_kinds : (Nat → Int32)) (H : Heap) (locs : List Loc) (ls : Array Slot), k41 x1 x3 x4 v_o_count c_o_numbers c_o_kinds c_p2 = some (rv, v_o_count_z, c_o_numbers_z, c_o_kinds_z) → va_P (dC, dI) clz [(q_o, .inr (1, f_Drawing q_o_kinds q_o_numbers v_o_count)), (q_o_numbers, .inl (k_o_numbers, 900, .inl c_o_numbers)), (q_o_kinds, .inl (k_o_kinds, 150, .inl c_o_kinds)), (q_p2, .inl (k_p2, 6, .inr (.inl c_p2)))] H → va_D A [(q_o, .inr (1, f_Drawing q_o_kinds q_o_numbers v_o_count)), (q_o_numbers, .inl (k_o_numbers, 900, .inl c_o_numbers)), (q_o_kinds, .inl (k_o_kinds, 150, .inl c_o_kinds)), (q_p2, .inl (k_p2, 6, .inr (.inl c_p2)))] → va_S A s.heap H locs → lv_has ls 5 [(0, .ref q_o), (1, .int x1), (2, .ref q_p2), (3, .int x3), (4, .int x4)] → W p l e (headSpec w_xDrawing_add ({ frames := 2, cells := 0, slots := 0, locals := 43 })).room s m args below meth c H locs 0 0 Q (F0 m 41 ls [])) → ∀ (x1 : Int32) (x3 : Int32) (x4 : Int32) (v_o_count : Int32) (c_o_numbers : (Nat → Int32)) (c_o_kinds : (Nat → Int32)) (H : Heap) (locs : List Loc) (ls : Array Slot), xDrawing_add_B41 N k41 x1 x3 x4 v_o_count c_o_numbers c_o_kinds c_p2 = some (rv, v_o_count_z, c_o_numbers_z, c_o_kinds_z) → va_P (dC, dI) clz [(q_o, .inr (1, f_Drawing q_o_kinds q_o_numbers v_o_count)), (q_o_numbers, .inl (k_o_numbers, 900, .inl c_o_numbers)), (q_o_kinds, .inl (k_o_kinds, 150, .inl c_o_kinds)), (q_p2, .inl (k_p2, 6, .inr (.inl c_p2)))] H → va_D A [(q_o, .inr (1, f_Drawing q_o_kinds q_o_numbers v_o_count)), (q_o_numbers, .inl (k_o_numbers, 900, .inl c_o_numbers)), (q_o_kinds, .inl (k_o_kinds, 150, .inl c_o_kinds)), (q_p2, .inl (k_p2, 6, .inr (.inl c_p2)))] → va_S A s.heap H locs → lv_has ls 5 [(0, .ref q_o), (1, .int x1), (2, .ref q_p2), (3, .int x3), (4, .int x4)] → W p l e (headSpec w_xDrawing_add ({ frames := 2, cells := 0, slots := 0, locals := 43 })).room s m args below meth c H locs 0 0 Q (F0 m 41 ls []) := by
    intro k41 hk41
    intro x1 x3 x4 v_o_count c_o_numbers c_o_kinds H locs ls hf hP hD hS hl
    rw [xDrawing_add_B41] at hf
    refine lv_iload (pc := 41) hx hb d_xDrawing_add_41 (lv_at hl 4 rfl) ?_
    refine lv_iload_n (pc := 43) hx hb d_xDrawing_add_43 rfl (lv_at hl 3 rfl) ?_
    refine lv_icmp_ge (pc := 44) (tgt := 73) hx hb d_xDrawing_add_44 (by decide) (fun hc => ?_) (fun hc => ?_)
    · rw [if_pos hc] at hf
      refine lv_aload_n (pc := 73) hx hb d_xDrawing_add_73 rfl (lv_at hl 0 rfl) ?_
      refine va_get (pc := 74) (D := (dC, dI)) (ci := 1) (v := .ref q_o_kinds) (C := "PathTexts$Drawing") (T := F_Drawing) (N := 3) hx hb hts (fun w h => List.mem_cons_of_mem _ (in_Drawing w h)) hown hK hP 0 rfl rfl 0 (by decide) (hts _ (List.mem_cons_of_mem _ kw_166)) (fun _ h9 => h9) fg_Drawing_0 d_xDrawing_add_74 ?_
      refine lv_aload_n (pc := 77) hx hb d_xDrawing_add_77 rfl (lv_at hl 0 rfl) ?_
      refine va_get (pc := 78) (D := (dC, dI)) (ci := 1) (v := .int v_o_count) (C := "PathTexts$Drawing") (T := F_Drawing) (N := 3) hx hb hts (fun w h => List.mem_cons_of_mem _ (in_Drawing w h)) hown hK hP 0 rfl rfl 2 (by decide) (hts _ (List.mem_cons_of_mem _ kw_175)) (fun _ h9 => h9) fg_Drawing_2 d_xDrawing_add_78 ?_
      refine lv_iload_n (pc := 81) hx hb d_xDrawing_add_81 rfl (lv_at hl 1 rfl) ?_
      obtain ⟨hg1, hf⟩ := kg_some hf
      refine kx_iast (pc := 82) (ws' := [(q_o, .inr (1, f_Drawing q_o_kinds q_o_numbers v_o_count)), (q_o_numbers, .inl (k_o_numbers, 900, .inl c_o_numbers)), (q_o_kinds, .inl (k_o_kinds, 150, .inl (upd c_o_kinds (v_o_count).toNatClampNeg x1))), (q_p2, .inl (k_p2, 6, .inr (.inl c_p2)))]) hx hb hK hP hD hS 2 1 rfl rfl (ki_in hg1) rfl d_xDrawing_add_82 (fun H locs hP hD hS => ?_)
      refine lv_aload_n (pc := 83) hx hb d_xDrawing_add_83 rfl (lv_at hl 0 rfl) ?_
      refine lv_dup (pc := 84) hx hb d_xDrawing_add_84 rfl ?_
      refine va_get (pc := 85) (D := (dC, dI)) (ci := 1) (v := .int v_o_count) (C := "PathTexts$Drawing") (T := F_Drawing) (N := 3) hx hb hts (fun w h => List.mem_cons_of_mem _ (in_Drawing w h)) hown hK hP 0 rfl rfl 2 (by decide) (hts _ (List.mem_cons_of_mem _ kw_175)) (fun _ h9 => h9) fg_Drawing_2 d_xDrawing_add_85 ?_
      refine lv_iconst (pc := 88) (v := (1 : Int32)) hx hb d_xDrawing_add_88 (by decide) ?_
      refine lv_iadd (pc := 89) hx hb d_xDrawing_add_89 ?_
      refine kx_put (pc := 90) (D := (dC, dI)) (ci := 1) (v := .int (v_o_count + (1 : Int32))) (ty := .int) (C := "PathTexts$Drawing") (T := F_Drawing) (N := 3) hx hb hts (fun w h => List.mem_cons_of_mem _ (in_Drawing w h)) t_Drawing tk_Drawing n_Drawing hown hK hP hD hS 0 rfl rfl 2 (by decide) (hts _ (List.mem_cons_of_mem _ kw_175)) (fun _ h9 => h9) rfl (tk_Drawing 2 (by decide)) rfl rfl fl_Drawing_2 fs_Drawing_2 (ws' := [(q_o, .inr (1, f_Drawing q_o_kinds q_o_numbers (v_o_count + (1 : Int32)))), (q_o_numbers, .inl (k_o_numbers, 900, .inl c_o_numbers)), (q_o_kinds, .inl (k_o_kinds, 150, .inl (upd c_o_kinds (v_o_count).toNatClampNeg x1))), (q_p2, .inl (k_p2, 6, .inr (.inl c_p2)))]) rfl d_xDrawing_add_90 (fun H locs hP hD hS => ?_)
      refine lv_iconst (pc := 93) (v := (1 : Int32)) hx hb d_xDrawing_add_93 (by decide) ?_
      obtain ⟨e_0, e_1, e_2, e_3⟩ := kr4 hf
      rw [e_0]
      exact hRet (by rw [← e_0]; exact (by decide)) 94 _ _ _ d_xDrawing_add_94 (by rw [← e_1, ← e_2, ← e_3]; exact hP) (by rw [← e_1, ← e_2, ← e_3]; exact hD) hS
    · rw [if_neg hc] at hf
      refine lv_aload_n (pc := 47) hx hb d_xDrawing_add_47 rfl (lv_at hl 0 rfl) ?_
      refine va_get (pc := 48) (D := (dC, dI)) (ci := 1) (v := .ref q_o_numbers) (C := "PathTexts$Drawing") (T := F_Drawing) (N := 3) hx hb hts (fun w h => List.mem_cons_of_mem _ (in_Drawing w h)) hown hK hP 0 rfl rfl 1 (by decide) (hts _ (List.mem_cons_of_mem _ kw_170)) (fun _ h9 => h9) fg_Drawing_1 d_xDrawing_add_48 ?_
      refine lv_aload_n (pc := 51) hx hb d_xDrawing_add_51 rfl (lv_at hl 0 rfl) ?_
      refine va_get (pc := 52) (D := (dC, dI)) (ci := 1) (v := .int v_o_count) (C := "PathTexts$Drawing") (T := F_Drawing) (N := 3) hx hb hts (fun w h => List.mem_cons_of_mem _ (in_Drawing w h)) hown hK hP 0 rfl rfl 2 (by decide) (hts _ (List.mem_cons_of_mem _ kw_175)) (fun _ h9 => h9) fg_Drawing_2 d_xDrawing_add_52 ?_
      refine lv_bipush (pc := 55) (v := (6 : Int32)) hx hb d_xDrawing_add_55 (by decide) ?_
      refine lv_imul (pc := 57) hx hb d_xDrawing_add_57 ?_
      refine lv_iload (pc := 58) hx hb d_xDrawing_add_58 (lv_at hl 4 rfl) ?_
      refine lv_iadd (pc := 60) hx hb d_xDrawing_add_60 ?_
      refine lv_aload_n (pc := 61) hx hb d_xDrawing_add_61 rfl (lv_at hl 2 rfl) ?_
      refine lv_iload (pc := 62) hx hb d_xDrawing_add_62 (lv_at hl 4 rfl) ?_
      obtain ⟨hg2, hf⟩ := kg_some hf
      refine va_lald (pc := 64) hx hb hK hP 3 2 rfl rfl (ki_in hg2) d_xDrawing_add_64 ?_
      refine lv_l2i (pc := 65) hx hb d_xDrawing_add_65 rfl ?_
      obtain ⟨hg3, hf⟩ := kg_some hf
      refine kx_iast (pc := 66) (ws' := [(q_o, .inr (1, f_Drawing q_o_kinds q_o_numbers v_o_count)), (q_o_numbers, .inl (k_o_numbers, 900, .inl (upd c_o_numbers (((v_o_count * (6 : Int32)) + x4)).toNatClampNeg (Int64.toInt32 (c_p2 (x4).toNatClampNeg))))), (q_o_kinds, .inl (k_o_kinds, 150, .inl c_o_kinds)), (q_p2, .inl (k_p2, 6, .inr (.inl c_p2)))]) hx hb hK hP hD hS 1 0 rfl rfl (ki_in hg3) rfl d_xDrawing_add_66 (fun H locs hP hD hS => ?_)
      refine lv_iinc (pc := 67) (v := (x4 + (1 : Int32))) (lv' := [(4, .int (x4 + (1 : Int32))), (0, .ref q_o), (1, .int x1), (2, .ref q_p2), (3, .int x3)]) hx hb d_xDrawing_add_67 hl (k := 4) rfl rfl (by decide) rfl (fun ls hl => ?_)
      refine lv_goto (pc := 70) (tgt := 41) hx hb d_xDrawing_add_70 (by decide) ?_
      exact hk41 x1 x3 (x4 + (1 : Int32)) v_o_count (upd c_o_numbers (((v_o_count * (6 : Int32)) + x4)).toNatClampNeg (Int64.toInt32 (c_p2 (x4).toNatClampNeg))) c_o_kinds _ _ _ hf hP hD hS (lv_sub hl [1, 2, 3, 4, 0] rfl)
  have hL41 : ∀ n : Nat, ∀ (x1 : Int32) (x3 : Int32) (x4 : Int32) (v_o_count : Int32) (c_o_numbers : (Nat → Int32)) (c_o_kinds : (Nat → Int32)) (H : Heap) (locs : List Loc) (ls : Array Slot), (xDrawing_add_L41 N n) x1 x3 x4 v_o_count c_o_numbers c_o_kinds c_p2 = some (rv, v_o_count_z, c_o_numbers_z, c_o_kinds_z) → va_P (dC, dI) clz [(q_o, .inr (1, f_Drawing q_o_kinds q_o_numbers v_o_count)), (q_o_numbers, .inl (k_o_numbers, 900, .inl c_o_numbers)), (q_o_kinds, .inl (k_o_kinds, 150, .inl c_o_kinds)), (q_p2, .inl (k_p2, 6, .inr (.inl c_p2)))] H → va_D A [(q_o, .inr (1, f_Drawing q_o_kinds q_o_numbers v_o_count)), (q_o_numbers, .inl (k_o_numbers, 900, .inl c_o_numbers)), (q_o_kinds, .inl (k_o_kinds, 150, .inl c_o_kinds)), (q_p2, .inl (k_p2, 6, .inr (.inl c_p2)))] → va_S A s.heap H locs → lv_has ls 5 [(0, .ref q_o), (1, .int x1), (2, .ref q_p2), (3, .int x3), (4, .int x4)] → W p l e (headSpec w_xDrawing_add ({ frames := 2, cells := 0, slots := 0, locals := 43 })).room s m args below meth c H locs 0 0 Q (F0 m 41 ls []) := by
    intro n
    induction n with
    | zero => intro x1 x3 x4 v_o_count c_o_numbers c_o_kinds H locs ls hf hP hD hS hl; have hf : none = some (rv, v_o_count_z, c_o_numbers_z, c_o_kinds_z) := hf; cases hf
    | succ n ih => exact hB41 (xDrawing_add_L41 N n) ih
  rw [xDrawing_add] at hf
  refine lv_iload_n (pc := 0) hx hb d_xDrawing_add_0 rfl (lv_at hl 1 rfl) ?_
  obtain ⟨r1, hz, hf⟩ := kb1_some hf
  have hPc := hP.sub (ws' := []) [] rfl
  have hDc := hD.sub (ws' := []) [] (by decide) rfl
  have hKc := hK.sub (tys' := []) [] rfl
  have hFc := va_free (wc := []) hD hS hA [] rfl
  refine va_calli (pc := 1) (va_runSN (As := [.int x1]) (rest := []) ⟨hx, hb, hml, hown, hts⟩ (ct_xP_numbersOf l dC dI _ x1 r1 hz) ⟨va_cnB 1 hts (kw_in kw_334) rfl rfl rfl (hE.1 _ kn_11) (hts _ (List.mem_cons_of_mem _ kw_1)) (by decide +kernel) ⟨Nat.le_of_ble_eq_true rfl, Nat.le_of_ble_eq_true rfl⟩, hts _ (List.mem_cons_of_mem _ kw_333), trivial⟩ (kx_pre hPc hKc hDc) rfl rfl hl.1 rfl (lv_room (Nat.le_of_ble_eq_true rfl)) d_xDrawing_add_1 ⟨Nat.le_of_ble_eq_true rfl, Nat.le_of_ble_eq_true rfl⟩) hS (fun q _ h => hFc q h) hFc (fun r9 u t H1 locs ht hvm hw hB hz1 hk1 hS => ?_)
  obtain ⟨hP1, hK1, hD1⟩ := hB
  rw [ht] at hP1
  have hw := hw.symm
  subst hw
  obtain ⟨hP, hD⟩ := va_join (wr := [(q_o, .inr (1, f_Drawing q_o_kinds q_o_numbers v_o_count)), (q_o_numbers, .inl (k_o_numbers, 900, .inl c_o_numbers)), (q_o_kinds, .inl (k_o_kinds, 150, .inl c_o_kinds)), (q_p2, .inl (k_p2, 6, .inr (.inl c_p2)))]) (w1 := []) hP hD [] [0, 1, 2, 3] rfl rfl (by decide) (by decide) hk1 hFc hP1 hD1
  have hP := hP.sub (ws' := [(q_o, .inr (1, f_Drawing q_o_kinds q_o_numbers v_o_count)), (q_o_numbers, .inl (k_o_numbers, 900, .inl c_o_numbers)), (q_o_kinds, .inl (k_o_kinds, 150, .inl c_o_kinds)), (q_p2, .inl (k_p2, 6, .inr (.inl c_p2)))]) [0, 1, 2, 3] rfl
  have hD := hD.sub (ws' := [(q_o, .inr (1, f_Drawing q_o_kinds q_o_numbers v_o_count)), (q_o_numbers, .inl (k_o_numbers, 900, .inl c_o_numbers)), (q_o_kinds, .inl (k_o_kinds, 150, .inl c_o_kinds)), (q_p2, .inl (k_p2, 6, .inr (.inl c_p2)))]) [0, 1, 2, 3] (by decide) rfl
  clear hP1 hK1 hD1 hk1 hPc hDc hKc hFc hz1 hvm ht hz
  generalize H1 = H at hP hS ⊢
  refine lv_istore_n (pc := 4) (lv' := [(3, .int r1), (0, .ref q_o), (1, .int x1), (2, .ref q_p2)]) hx hb d_xDrawing_add_4 rfl hl (by decide) rfl (fun ls hl => ?_)
  refine lv_aload_n (pc := 5) hx hb d_xDrawing_add_5 rfl (lv_at hl 1 rfl) ?_
  refine va_get (pc := 6) (D := (dC, dI)) (ci := 1) (v := .int v_o_count) (C := "PathTexts$Drawing") (T := F_Drawing) (N := 3) hx hb hts (fun w h => List.mem_cons_of_mem _ (in_Drawing w h)) hown hK hP 0 rfl rfl 2 (by decide) (hts _ (List.mem_cons_of_mem _ kw_175)) (fun _ h9 => h9) fg_Drawing_2 d_xDrawing_add_6 ?_
  refine lv_if_lt (pc := 9) (tgt := 36) hx hb d_xDrawing_add_9 (by decide) (fun hc => ?_) (fun hc => ?_)
  · rw [if_pos hc] at hf
    refine lv_iconst (pc := 36) (v := (0 : Int32)) hx hb d_xDrawing_add_36 (by decide) ?_
    obtain ⟨e_0, e_1, e_2, e_3⟩ := kr4 hf
    rw [e_0]
    exact hRet (by rw [← e_0]; exact (by decide)) 37 _ _ _ d_xDrawing_add_37 (by rw [← e_1, ← e_2, ← e_3]; exact hP) (by rw [← e_1, ← e_2, ← e_3]; exact hD) hS
  · rw [if_neg hc] at hf
    refine lv_aload_n (pc := 12) hx hb d_xDrawing_add_12 rfl (lv_at hl 1 rfl) ?_
    refine va_get (pc := 13) (D := (dC, dI)) (ci := 1) (v := .int v_o_count) (C := "PathTexts$Drawing") (T := F_Drawing) (N := 3) hx hb hts (fun w h => List.mem_cons_of_mem _ (in_Drawing w h)) hown hK hP 0 rfl rfl 2 (by decide) (hts _ (List.mem_cons_of_mem _ kw_175)) (fun _ h9 => h9) fg_Drawing_2 d_xDrawing_add_13 ?_
    refine lv_sipush (pc := 16) (v := (150 : Int32)) hx hb d_xDrawing_add_16 (by decide) ?_
    refine lv_icmp_ge (pc := 19) (tgt := 36) hx hb d_xDrawing_add_19 (by decide) (fun hc => ?_) (fun hc => ?_)
    · rw [if_pos hc] at hf
      refine lv_iconst (pc := 36) (v := (0 : Int32)) hx hb d_xDrawing_add_36 (by decide) ?_
      obtain ⟨e_0, e_1, e_2, e_3⟩ := kr4 hf
      rw [e_0]
      exact hRet (by rw [← e_0]; exact (by decide)) 37 _ _ _ d_xDrawing_add_37 (by rw [← e_1, ← e_2, ← e_3]; exact hP) (by rw [← e_1, ← e_2, ← e_3]; exact hD) hS
    · rw [if_neg hc] at hf
      refine lv_aload_n (pc := 22) hx hb d_xDrawing_add_22 rfl (lv_at hl 3 rfl) ?_
      refine va_alen (pc := 23) hx hb hK hP 3 2 rfl rfl (v := (6 : Int32)) rfl d_xDrawing_add_23 ?_
      refine lv_iload_n (pc := 24) hx hb d_xDrawing_add_24 rfl (lv_at hl 0 rfl) ?_
      refine lv_icmp_lt (pc := 25) (tgt := 36) hx hb d_xDrawing_add_25 (by decide) (fun hc => ?_) (fun hc => ?_)
      · rw [if_pos hc] at hf
        refine lv_iconst (pc := 36) (v := (0 : Int32)) hx hb d_xDrawing_add_36 (by decide) ?_
        obtain ⟨e_0, e_1, e_2, e_3⟩ := kr4 hf
        rw [e_0]
        exact hRet (by rw [← e_0]; exact (by decide)) 37 _ _ _ d_xDrawing_add_37 (by rw [← e_1, ← e_2, ← e_3]; exact hP) (by rw [← e_1, ← e_2, ← e_3]; exact hD) hS
      · rw [if_neg hc] at hf
        refine lv_aload_n (pc := 28) hx hb d_xDrawing_add_28 rfl (lv_at hl 3 rfl) ?_
        refine lv_iload_n (pc := 29) hx hb d_xDrawing_add_29 rfl (lv_at hl 0 rfl) ?_
        obtain ⟨r30, hz, hf⟩ := kb1_some hf
        have hPc := hP.sub (ws' := [(q_p2, .inl (k_p2, 6, .inr (.inl c_p2)))]) [3] rfl
        have hDc := hD.sub (ws' := [(q_p2, .inl (k_p2, 6, .inr (.inl c_p2)))]) [3] (by decide) rfl
        have hKc := hK.sub (tys' := [(k_p2, .long)]) [2] rfl
        have hFc := va_free (wc := [(q_p2, .inl (k_p2, 6, .inr (.inl c_p2)))]) hD hS hA [3] rfl
        refine va_calli (pc := 30) (va_runSN (As := [.ref q_p2, .int r1]) (rest := []) ⟨hx, hb, hml, hown, hts⟩ (ct_xP_areNumbers l dC dI q_p2 k_p2 _ N r1 c_p2 r30 hz) ⟨va_cnB 2 hts (kw_in kw_343) rfl rfl rfl (hE.1 _ kn_12) (hts _ (List.mem_cons_of_mem _ kw_1)) (by decide +kernel) ⟨Nat.le_of_ble_eq_true rfl, Nat.le_of_ble_eq_true rfl⟩, hts _ (List.mem_cons_of_mem _ kw_342), trivial⟩ (kx_pre hPc hKc hDc) rfl rfl hl.1 rfl (lv_room (Nat.le_of_ble_eq_true rfl)) d_xDrawing_add_30 ⟨Nat.le_of_ble_eq_true rfl, Nat.le_of_ble_eq_true rfl⟩) hS (fun q _ h => hFc q h) hFc (fun r9 u t H1 locs ht hvm hw hB hz1 hk1 hS => ?_)
        obtain ⟨hP1, hK1, hD1⟩ := hB
        rw [ht] at hP1
        have hw := hw.symm
        subst hw
        obtain ⟨hP, hD⟩ := va_join (wr := [(q_o, .inr (1, f_Drawing q_o_kinds q_o_numbers v_o_count)), (q_o_numbers, .inl (k_o_numbers, 900, .inl c_o_numbers)), (q_o_kinds, .inl (k_o_kinds, 150, .inl c_o_kinds))]) (w1 := [(q_p2, .inl (k_p2, 6, .inr (.inl c_p2)))]) hP hD [3] [0, 1, 2] rfl rfl (by decide) (by decide) hk1 hFc hP1 hD1
        have hP := hP.sub (ws' := [(q_o, .inr (1, f_Drawing q_o_kinds q_o_numbers v_o_count)), (q_o_numbers, .inl (k_o_numbers, 900, .inl c_o_numbers)), (q_o_kinds, .inl (k_o_kinds, 150, .inl c_o_kinds)), (q_p2, .inl (k_p2, 6, .inr (.inl c_p2)))]) [0, 1, 2, 3] rfl
        have hD := hD.sub (ws' := [(q_o, .inr (1, f_Drawing q_o_kinds q_o_numbers v_o_count)), (q_o_numbers, .inl (k_o_numbers, 900, .inl c_o_numbers)), (q_o_kinds, .inl (k_o_kinds, 150, .inl c_o_kinds)), (q_p2, .inl (k_p2, 6, .inr (.inl c_p2)))]) [0, 1, 2, 3] (by decide) rfl
        clear hP1 hK1 hD1 hk1 hPc hDc hKc hFc hz1 hvm ht hz
        generalize H1 = H at hP hS ⊢
        refine lv_if_ne (pc := 33) (tgt := 38) hx hb d_xDrawing_add_33 (by decide) (fun hc => ?_) (fun hc => ?_)
        · rw [if_neg hc] at hf
          refine lv_iconst (pc := 38) (v := (0 : Int32)) hx hb d_xDrawing_add_38 (by decide) ?_
          refine lv_istore (pc := 39) (lv' := [(4, .int (0 : Int32)), (3, .int r1), (0, .ref q_o), (1, .int x1), (2, .ref q_p2)]) hx hb d_xDrawing_add_39 hl (by decide) rfl (fun ls hl => ?_)
          exact hL41 N x1 r1 (0 : Int32) v_o_count c_o_numbers c_o_kinds _ _ _ hf hP hD hS (lv_sub hl [2, 3, 4, 1, 0] rfl)
        · rw [if_pos hc] at hf
          refine lv_iconst (pc := 36) (v := (0 : Int32)) hx hb d_xDrawing_add_36 (by decide) ?_
          obtain ⟨e_0, e_1, e_2, e_3⟩ := kr4 hf
          rw [e_0]
          exact hRet (by rw [← e_0]; exact (by decide)) 37 _ _ _ d_xDrawing_add_37 (by rw [← e_1, ← e_2, ← e_3]; exact hP) (by rw [← e_1, ← e_2, ← e_3]; exact hD) hS
set_option maxHeartbeats 4000000 in
set_option maxRecDepth 100000 in
theorem ct_xDrawing_extreme (l : Launch) (dC : Nat → ClassId) (dI : Nat → Nat → Nat) (q_o : Nat) (q_o_kinds : Nat) (q_o_numbers : Nat) (k_o_kinds : ClassId) (k_o_numbers : ClassId) (sz : Nat) (tt : Nat) (N : Nat) (x1 : Int32) (x2 : Int32) (v_o_count : Int32) (c_o_kinds : (Nat → Int32)) (c_o_numbers : (Nat → Int32)) (rv : Int32) (hf : xDrawing_extreme N x1 x2 v_o_count c_o_kinds c_o_numbers = some rv) : Met l y_xDrawing_extreme w_xDrawing_extreme ({ frames := 1, cells := 0, slots := 0, locals := 20 }) (va_Pc [.ref q_o, .int x1, .int x2] (fun U => U.heap.size = sz ∧ va_P (dC, dI) clz [(q_o, .inr (1, f_Drawing q_o_kinds q_o_numbers v_o_count)), (q_o_kinds, .inl (k_o_kinds, 150, .inl c_o_kinds)), (q_o_numbers, .inl (k_o_numbers, 900, .inl c_o_numbers))] U.heap ∧ va_K (dC, dI) clz [(k_o_kinds, .int), (k_o_numbers, .int)] U ∧ va_D (fun _ => True) [(q_o, .inr (1, f_Drawing q_o_kinds q_o_numbers v_o_count)), (q_o_kinds, .inl (k_o_kinds, 150, .inl c_o_kinds)), (q_o_numbers, .inl (k_o_numbers, 900, .inl c_o_numbers))] ∧ ke tt (va_A [(q_o, .inr (1, f_Drawing q_o_kinds q_o_numbers v_o_count)), (q_o_kinds, .inl (k_o_kinds, 150, .inl c_o_kinds)), (q_o_numbers, .inl (k_o_numbers, 900, .inl c_o_numbers))] sz) U)) (va_Qi (fun (r9 : Int32) (_ : Unit) => r9 = rv) (fun _ t => va_P (dC, dI) clz [(q_o, .inr (1, f_Drawing q_o_kinds q_o_numbers v_o_count)), (q_o_kinds, .inl (k_o_kinds, 150, .inl c_o_kinds)), (q_o_numbers, .inl (k_o_numbers, 900, .inl c_o_numbers))] t.heap ∧ va_K (dC, dI) clz [(k_o_kinds, .int), (k_o_numbers, .int)] t ∧ va_D (va_A [(q_o, .inr (1, f_Drawing q_o_kinds q_o_numbers v_o_count)), (q_o_kinds, .inl (k_o_kinds, 150, .inl c_o_kinds)), (q_o_numbers, .inl (k_o_numbers, 900, .inl c_o_numbers))] sz) [(q_o, .inr (1, f_Drawing q_o_kinds q_o_numbers v_o_count)), (q_o_kinds, .inl (k_o_kinds, 150, .inl c_o_kinds)), (q_o_numbers, .inl (k_o_numbers, 900, .inl c_o_numbers))]) (va_A [(q_o, .inr (1, f_Drawing q_o_kinds q_o_numbers v_o_count)), (q_o_kinds, .inl (k_o_kinds, 150, .inl c_o_kinds)), (q_o_numbers, .inl (k_o_numbers, 900, .inl c_o_numbers))] sz)) 0 0 (va_A [(q_o, .inr (1, f_Drawing q_o_kinds q_o_numbers v_o_count)), (q_o_kinds, .inl (k_o_kinds, 150, .inl c_o_kinds)), (q_o_numbers, .inl (k_o_numbers, 900, .inl c_o_numbers))] sz) := by
  refine Met.ofW (cc := prog_3_method_4_code) (maxL := 8) (ret := (some .int)) (by decide +kernel) rfl ?_
  intro p e s m args below meth c s₁ B hml hv
  obtain ⟨hargs, hsz, hP, hK, hD0, hE⟩ := hv
  have hx := B.exec
  have hb := B.bytes
  have hr := B.returns
  have hts := atoms_spec (ws := w_xDrawing_extreme) B.pre
  have hown : s.vm.findClass "PathTexts$Drawing" = some m.cls := findClass_of_methodNamed B.named
  have hlocks := B.notSynchronized
  subst hsz
  have hD := hD0.self (sz := s.heap.size)
  generalize hAe : va_A [(q_o, .inr (1, f_Drawing q_o_kinds q_o_numbers v_o_count)), (q_o_kinds, .inl (k_o_kinds, 150, .inl c_o_kinds)), (q_o_numbers, .inl (k_o_numbers, 900, .inl c_o_numbers))] s.heap.size = A at hD hE ⊢
  have hA : ∀ q : Nat, s.heap.size ≤ q → A q := fun q h => by rw [← hAe]; exact Or.inr h
  clear hAe hD0
  have hS : va_S A s.heap s.heap [] := va_S.rf
  have hl := lv_entry ([.ref q_o, .int x1, .int x2]) (n := 8) (Nat.le_of_ble_eq_true rfl)
  have hent : entryFrame m args 8 = F0 m 0 (lg_sl ([.ref q_o, .int x1, .int x2]) ++ List.replicate (8 - (lg_sl ([.ref q_o, .int x1, .int x2])).length) Slot.unset).toArray [] := by rw [hargs, lg_entry_eq]
  rw [hent]
  clear hent hargs
  generalize (lg_sl ([.ref q_o, .int x1, .int x2]) ++ List.replicate (8 - (lg_sl ([.ref q_o, .int x1, .int x2])).length) Slot.unset).toArray = ls at hl ⊢
  have hl : lv_has ls 8 [(0, .ref q_o), (1, .int x1), (2, .int x2)] := hl
  suffices key : ∀ Q : State → Prop, (∀ (pc : Nat) (H : Heap) (locs : List Loc) (ls : Array Slot), decode prog_3_method_4_code pc = .ok (.ireturn, 1) → va_P (dC, dI) clz [(q_o, .inr (1, f_Drawing q_o_kinds q_o_numbers v_o_count)), (q_o_kinds, .inl (k_o_kinds, 150, .inl c_o_kinds)), (q_o_numbers, .inl (k_o_numbers, 900, .inl c_o_numbers))] H → va_D A [(q_o, .inr (1, f_Drawing q_o_kinds q_o_numbers v_o_count)), (q_o_kinds, .inl (k_o_kinds, 150, .inl c_o_kinds)), (q_o_numbers, .inl (k_o_numbers, 900, .inl c_o_numbers))] → va_S A s.heap H locs → W p l e (headSpec w_xDrawing_extreme ({ frames := 1, cells := 0, slots := 0, locals := 20 })).room s m args below meth c H locs 0 0 Q (F0 m pc ls [.int rv])) → W p l e (headSpec w_xDrawing_extreme ({ frames := 1, cells := 0, slots := 0, locals := 20 })).room s m args below meth c s.heap [] 0 0 Q (F0 m 0 ls []) from key _ (fun pc H locs ls hd hP hD hS => W.iret hx hb hr (fun t ht hW => ⟨⟨rv, (), rfl, rfl, by rw [ht]; exact hP, va_K.moved hW.alike hK, hD⟩, hS.F ht⟩) hS.2.2 hd)
  intro Q hRet
  have hb82 : ∀ (k8 : Int32 → Int32 → Int32 → Int32 → Int32 → Int32 → (Nat → Int32) → (Nat → Int32) → Option (Int32)), (∀ (x1 : Int32) (x2 : Int32) (x3 : Int32) (x4 : Int32) (x5 : Int32) (H : Heap) (locs : List Loc) (ls : Array Slot), k8 x1 x2 x3 x4 x5 v_o_count c_o_kinds c_o_numbers = some rv → va_P (dC, dI) clz [(q_o, .inr (1, f_Drawing q_o_kinds q_o_numbers v_o_count)), (q_o_kinds, .inl (k_o_kinds, 150, .inl c_o_kinds)), (q_o_numbers, .inl (k_o_numbers, 900, .inl c_o_numbers))] H → va_D A [(q_o, .inr (1, f_Drawing q_o_kinds q_o_numbers v_o_count)), (q_o_kinds, .inl (k_o_kinds, 150, .inl c_o_kinds)), (q_o_numbers, .inl (k_o_numbers, 900, .inl c_o_numbers))] → va_S A s.heap H locs → lv_has ls 8 [(0, .ref q_o), (1, .int x1), (2, .int x2), (3, .int x3), (4, .int x4), (5, .int x5)] → W p l e (headSpec w_xDrawing_extreme ({ frames := 1, cells := 0, slots := 0, locals := 20 })).room s m args below meth c H locs 0 0 Q (F0 m 8 ls [])) → ∀ (k28 : Int32 → Int32 → Int32 → Int32 → Int32 → Int32 → Int32 → (Nat → Int32) → (Nat → Int32) → Option (Int32)), (∀ (x1 : Int32) (x2 : Int32) (x3 : Int32) (x4 : Int32) (x5 : Int32) (x6 : Int32) (H : Heap) (locs : List Loc) (ls : Array Slot), k28 x1 x2 x3 x4 x5 x6 v_o_count c_o_kinds c_o_numbers = some rv → va_P (dC, dI) clz [(q_o, .inr (1, f_Drawing q_o_kinds q_o_numbers v_o_count)), (q_o_kinds, .inl (k_o_kinds, 150, .inl c_o_kinds)), (q_o_numbers, .inl (k_o_numbers, 900, .inl c_o_numbers))] H → va_D A [(q_o, .inr (1, f_Drawing q_o_kinds q_o_numbers v_o_count)), (q_o_kinds, .inl (k_o_kinds, 150, .inl c_o_kinds)), (q_o_numbers, .inl (k_o_numbers, 900, .inl c_o_numbers))] → va_S A s.heap H locs → lv_has ls 8 [(0, .ref q_o), (1, .int x1), (2, .int x2), (3, .int x3), (4, .int x4), (5, .int x5), (6, .int x6)] → W p l e (headSpec w_xDrawing_extreme ({ frames := 1, cells := 0, slots := 0, locals := 20 })).room s m args below meth c H locs 0 0 Q (F0 m 28 ls [])) → ∀ (x1 : Int32) (x2 : Int32) (x5 : Int32) (x6 : Int32) (x7 : Int32) (H : Heap) (locs : List Loc) (ls : Array Slot), xDrawing_extreme_b82 N k8 k28 x1 x2 x5 x6 x7 v_o_count c_o_kinds c_o_numbers = some rv → va_P (dC, dI) clz [(q_o, .inr (1, f_Drawing q_o_kinds q_o_numbers v_o_count)), (q_o_kinds, .inl (k_o_kinds, 150, .inl c_o_kinds)), (q_o_numbers, .inl (k_o_numbers, 900, .inl c_o_numbers))] H → va_D A [(q_o, .inr (1, f_Drawing q_o_kinds q_o_numbers v_o_count)), (q_o_kinds, .inl (k_o_kinds, 150, .inl c_o_kinds)), (q_o_numbers, .inl (k_o_numbers, 900, .inl c_o_numbers))] → va_S A s.heap H locs → lv_has ls 8 [(0, .ref q_o), (1, .int x1), (2, .int x2), (5, .int x5), (6, .int x6), (7, .int x7)] → W p l e (headSpec w_xDrawing_extreme ({ frames := 1, cells := 0, slots := 0, locals := 20 })).room s m args below meth c H locs 0 0 Q (F0 m 82 ls []) := by
    intro k8 hk8 k28 hk28
    intro x1 x2 x5 x6 x7 H locs ls hf hP hD hS hl
    rw [xDrawing_extreme_b82] at hf
    refine lv_iload (pc := 82) hx hb d_xDrawing_extreme_82 (lv_at hl 5 rfl) ?_
    refine lv_istore_n (pc := 84) (lv' := [(3, .int x7), (0, .ref q_o), (1, .int x1), (2, .int x2), (5, .int x5), (6, .int x6), (7, .int x7)]) hx hb d_xDrawing_extreme_84 rfl hl (by decide) rfl (fun ls hl => ?_)
    refine lv_iconst (pc := 85) (v := (0 : Int32)) hx hb d_xDrawing_extreme_85 (by decide) ?_
    refine lv_istore (pc := 86) (lv' := [(4, .int (0 : Int32)), (3, .int x7), (0, .ref q_o), (1, .int x1), (2, .int x2), (5, .int x5), (6, .int x6), (7, .int x7)]) hx hb d_xDrawing_extreme_86 hl (by decide) rfl (fun ls hl => ?_)
    refine lv_iinc (pc := 88) (v := (x6 + (2 : Int32))) (lv' := [(6, .int (x6 + (2 : Int32))), (4, .int (0 : Int32)), (3, .int x7), (0, .ref q_o), (1, .int x1), (2, .int x2), (5, .int x5), (7, .int x7)]) hx hb d_xDrawing_extreme_88 hl (k := 6) rfl rfl (by decide) rfl (fun ls hl => ?_)
    refine lv_goto (pc := 91) (tgt := 28) hx hb d_xDrawing_extreme_91 (by decide) ?_
    exact hk28 x1 x2 x7 (0 : Int32) x5 (x6 + (2 : Int32)) _ _ _ hf hP hD hS (lv_sub hl [3, 4, 5, 2, 1, 6, 0] rfl)
  have hB28 : ∀ (k8 : Int32 → Int32 → Int32 → Int32 → Int32 → Int32 → (Nat → Int32) → (Nat → Int32) → Option (Int32)), (∀ (x1 : Int32) (x2 : Int32) (x3 : Int32) (x4 : Int32) (x5 : Int32) (H : Heap) (locs : List Loc) (ls : Array Slot), k8 x1 x2 x3 x4 x5 v_o_count c_o_kinds c_o_numbers = some rv → va_P (dC, dI) clz [(q_o, .inr (1, f_Drawing q_o_kinds q_o_numbers v_o_count)), (q_o_kinds, .inl (k_o_kinds, 150, .inl c_o_kinds)), (q_o_numbers, .inl (k_o_numbers, 900, .inl c_o_numbers))] H → va_D A [(q_o, .inr (1, f_Drawing q_o_kinds q_o_numbers v_o_count)), (q_o_kinds, .inl (k_o_kinds, 150, .inl c_o_kinds)), (q_o_numbers, .inl (k_o_numbers, 900, .inl c_o_numbers))] → va_S A s.heap H locs → lv_has ls 8 [(0, .ref q_o), (1, .int x1), (2, .int x2), (3, .int x3), (4, .int x4), (5, .int x5)] → W p l e (headSpec w_xDrawing_extreme ({ frames := 1, cells := 0, slots := 0, locals := 20 })).room s m args below meth c H locs 0 0 Q (F0 m 8 ls [])) → ∀ (k28 : Int32 → Int32 → Int32 → Int32 → Int32 → Int32 → Int32 → (Nat → Int32) → (Nat → Int32) → Option (Int32)), (∀ (x1 : Int32) (x2 : Int32) (x3 : Int32) (x4 : Int32) (x5 : Int32) (x6 : Int32) (H : Heap) (locs : List Loc) (ls : Array Slot), k28 x1 x2 x3 x4 x5 x6 v_o_count c_o_kinds c_o_numbers = some rv → va_P (dC, dI) clz [(q_o, .inr (1, f_Drawing q_o_kinds q_o_numbers v_o_count)), (q_o_kinds, .inl (k_o_kinds, 150, .inl c_o_kinds)), (q_o_numbers, .inl (k_o_numbers, 900, .inl c_o_numbers))] H → va_D A [(q_o, .inr (1, f_Drawing q_o_kinds q_o_numbers v_o_count)), (q_o_kinds, .inl (k_o_kinds, 150, .inl c_o_kinds)), (q_o_numbers, .inl (k_o_numbers, 900, .inl c_o_numbers))] → va_S A s.heap H locs → lv_has ls 8 [(0, .ref q_o), (1, .int x1), (2, .int x2), (3, .int x3), (4, .int x4), (5, .int x5), (6, .int x6)] → W p l e (headSpec w_xDrawing_extreme ({ frames := 1, cells := 0, slots := 0, locals := 20 })).room s m args below meth c H locs 0 0 Q (F0 m 28 ls [])) → ∀ (x1 : Int32) (x2 : Int32) (x3 : Int32) (x4 : Int32) (x5 : Int32) (x6 : Int32) (H : Heap) (locs : List Loc) (ls : Array Slot), xDrawing_extreme_B28 N k8 k28 x1 x2 x3 x4 x5 x6 v_o_count c_o_kinds c_o_numbers = some rv → va_P (dC, dI) clz [(q_o, .inr (1, f_Drawing q_o_kinds q_o_numbers v_o_count)), (q_o_kinds, .inl (k_o_kinds, 150, .inl c_o_kinds)), (q_o_numbers, .inl (k_o_numbers, 900, .inl c_o_numbers))] H → va_D A [(q_o, .inr (1, f_Drawing q_o_kinds q_o_numbers v_o_count)), (q_o_kinds, .inl (k_o_kinds, 150, .inl c_o_kinds)), (q_o_numbers, .inl (k_o_numbers, 900, .inl c_o_numbers))] → va_S A s.heap H locs → lv_has ls 8 [(0, .ref q_o), (1, .int x1), (2, .int x2), (3, .int x3), (4, .int x4), (5, .int x5), (6, .int x6)] → W p l e (headSpec w_xDrawing_extreme ({ frames := 1, cells := 0, slots := 0, locals := 20 })).room s m args below meth c H locs 0 0 Q (F0 m 28 ls []) := by
    intro k8 hk8 k28 hk28
    intro x1 x2 x3 x4 x5 x6 H locs ls hf hP hD hS hl
    rw [xDrawing_extreme_B28] at hf
    refine lv_iload (pc := 28) hx hb d_xDrawing_extreme_28 (lv_at hl 6 rfl) ?_
    refine lv_aload_n (pc := 30) hx hb d_xDrawing_extreme_30 rfl (lv_at hl 0 rfl) ?_
    refine va_get (pc := 31) (D := (dC, dI)) (ci := 1) (v := .ref q_o_kinds) (C := "PathTexts$Drawing") (T := F_Drawing) (N := 3) hx hb hts (fun w h => List.mem_cons_of_mem _ (in_Drawing w h)) hown hK hP 0 rfl rfl 0 (by decide) (hts _ (List.mem_cons_of_mem _ kw_166)) (fun _ h9 => h9) fg_Drawing_0 d_xDrawing_extreme_31 ?_
    refine lv_iload (pc := 34) hx hb d_xDrawing_extreme_34 (lv_at hl 5 rfl) ?_
    obtain ⟨hg1, hf⟩ := kg_some hf
    refine va_iald (pc := 36) hx hb hK hP 1 0 rfl rfl (ki_in hg1) d_xDrawing_extreme_36 ?_
    obtain ⟨r37, hz, hf⟩ := kb1_some hf
    have hPc := hP.sub (ws' := []) [] rfl
    have hDc := hD.sub (ws' := []) [] (by decide) rfl
    have hKc := hK.sub (tys' := []) [] rfl
    have hFc := va_free (wc := []) hD hS hA [] rfl
    refine va_calli (pc := 37) (va_runSN (As := [.int (c_o_kinds (x5).toNatClampNeg)]) (rest := [.int x6]) ⟨hx, hb, hml, hown, hts⟩ (ct_xP_numbersOf l dC dI _ (c_o_kinds (x5).toNatClampNeg) r37 hz) ⟨va_cnB 1 hts (kw_in kw_334) rfl rfl rfl (hE.1 _ kn_11) (hts _ (List.mem_cons_of_mem _ kw_1)) (by decide +kernel) ⟨Nat.le_of_ble_eq_true rfl, Nat.le_of_ble_eq_true rfl⟩, hts _ (List.mem_cons_of_mem _ kw_333), trivial⟩ (kx_pre hPc hKc hDc) rfl rfl hl.1 rfl (lv_room (Nat.le_of_ble_eq_true rfl)) d_xDrawing_extreme_37 ⟨Nat.le_of_ble_eq_true rfl, Nat.le_of_ble_eq_true rfl⟩) hS (fun q _ h => hFc q h) hFc (fun r9 u t H1 locs ht hvm hw hB hz1 hk1 hS => ?_)
    obtain ⟨hP1, hK1, hD1⟩ := hB
    rw [ht] at hP1
    have hw := hw.symm
    subst hw
    obtain ⟨hP, hD⟩ := va_join (wr := [(q_o, .inr (1, f_Drawing q_o_kinds q_o_numbers v_o_count)), (q_o_kinds, .inl (k_o_kinds, 150, .inl c_o_kinds)), (q_o_numbers, .inl (k_o_numbers, 900, .inl c_o_numbers))]) (w1 := []) hP hD [] [0, 1, 2] rfl rfl (by decide) (by decide) hk1 hFc hP1 hD1
    have hP := hP.sub (ws' := [(q_o, .inr (1, f_Drawing q_o_kinds q_o_numbers v_o_count)), (q_o_kinds, .inl (k_o_kinds, 150, .inl c_o_kinds)), (q_o_numbers, .inl (k_o_numbers, 900, .inl c_o_numbers))]) [0, 1, 2] rfl
    have hD := hD.sub (ws' := [(q_o, .inr (1, f_Drawing q_o_kinds q_o_numbers v_o_count)), (q_o_kinds, .inl (k_o_kinds, 150, .inl c_o_kinds)), (q_o_numbers, .inl (k_o_numbers, 900, .inl c_o_numbers))]) [0, 1, 2] (by decide) rfl
    clear hP1 hK1 hD1 hk1 hPc hDc hKc hFc hz1 hvm ht hz
    generalize H1 = H at hP hS ⊢
    refine lv_icmp_ge (pc := 40) (tgt := 94) hx hb d_xDrawing_extreme_40 (by decide) (fun hc => ?_) (fun hc => ?_)
    · rw [if_pos hc] at hf
      refine lv_iinc (pc := 94) (v := (x5 + (1 : Int32))) (lv' := [(5, .int (x5 + (1 : Int32))), (0, .ref q_o), (1, .int x1), (2, .int x2), (3, .int x3), (4, .int x4), (6, .int x6)]) hx hb d_xDrawing_extreme_94 hl (k := 5) rfl rfl (by decide) rfl (fun ls hl => ?_)
      refine lv_goto (pc := 97) (tgt := 8) hx hb d_xDrawing_extreme_97 (by decide) ?_
      exact hk8 x1 x2 x3 x4 (x5 + (1 : Int32)) _ _ _ hf hP hD hS (lv_sub hl [1, 2, 3, 4, 5, 0] rfl)
    · rw [if_neg hc] at hf
      refine lv_aload_n (pc := 43) hx hb d_xDrawing_extreme_43 rfl (lv_at hl 0 rfl) ?_
      refine va_get (pc := 44) (D := (dC, dI)) (ci := 1) (v := .ref q_o_numbers) (C := "PathTexts$Drawing") (T := F_Drawing) (N := 3) hx hb hts (fun w h => List.mem_cons_of_mem _ (in_Drawing w h)) hown hK hP 0 rfl rfl 1 (by decide) (hts _ (List.mem_cons_of_mem _ kw_170)) (fun _ h9 => h9) fg_Drawing_1 d_xDrawing_extreme_44 ?_
      refine lv_iload (pc := 47) hx hb d_xDrawing_extreme_47 (lv_at hl 5 rfl) ?_
      refine lv_bipush (pc := 49) (v := (6 : Int32)) hx hb d_xDrawing_extreme_49 (by decide) ?_
      refine lv_imul (pc := 51) hx hb d_xDrawing_extreme_51 ?_
      refine lv_iload (pc := 52) hx hb d_xDrawing_extreme_52 (lv_at hl 6 rfl) ?_
      refine lv_iadd (pc := 54) hx hb d_xDrawing_extreme_54 ?_
      obtain ⟨hg2, hf⟩ := kg_some hf
      refine va_iald (pc := 55) hx hb hK hP 2 1 rfl rfl (ki_in hg2) d_xDrawing_extreme_55 ?_
      refine lv_istore (pc := 56) (lv' := [(7, .int (c_o_numbers (((x5 * (6 : Int32)) + x6)).toNatClampNeg)), (0, .ref q_o), (1, .int x1), (2, .int x2), (3, .int x3), (4, .int x4), (5, .int x5), (6, .int x6)]) hx hb d_xDrawing_extreme_56 hl (by decide) rfl (fun ls hl => ?_)
      refine lv_iload (pc := 58) hx hb d_xDrawing_extreme_58 (lv_at hl 5 rfl) ?_
      refine lv_if_ne (pc := 60) (tgt := 82) hx hb d_xDrawing_extreme_60 (by decide) (fun hc => ?_) (fun hc => ?_)
      · rw [if_neg hc] at hf
        exact hb82 k8 hk8 k28 hk28 x1 x2 x5 x6 (c_o_numbers (((x5 * (6 : Int32)) + x6)).toNatClampNeg) _ _ _ hf hP hD hS (lv_sub hl [1, 2, 3, 6, 7, 0] rfl)
      · rw [if_pos hc] at hf
        refine lv_iload_n (pc := 63) hx hb d_xDrawing_extreme_63 rfl (lv_at hl 3 rfl) ?_
        refine lv_if_eq (pc := 64) (tgt := 76) hx hb d_xDrawing_extreme_64 (by decide) (fun hc => ?_) (fun hc => ?_)
        · rw [if_pos hc] at hf
          refine lv_iload (pc := 76) hx hb d_xDrawing_extreme_76 (lv_at hl 0 rfl) ?_
          refine lv_iload_n (pc := 78) hx hb d_xDrawing_extreme_78 rfl (lv_at hl 4 rfl) ?_
          refine lv_icmp_ge (pc := 79) (tgt := 88) hx hb d_xDrawing_extreme_79 (by decide) (fun hc => ?_) (fun hc => ?_)
          · rw [if_pos hc] at hf
            refine lv_iinc (pc := 88) (v := (x6 + (2 : Int32))) (lv' := [(6, .int (x6 + (2 : Int32))), (7, .int (c_o_numbers (((x5 * (6 : Int32)) + x6)).toNatClampNeg)), (0, .ref q_o), (1, .int x1), (2, .int x2), (3, .int x3), (4, .int x4), (5, .int x5)]) hx hb d_xDrawing_extreme_88 hl (k := 7) rfl rfl (by decide) rfl (fun ls hl => ?_)
            refine lv_goto (pc := 91) (tgt := 28) hx hb d_xDrawing_extreme_91 (by decide) ?_
            exact hk28 x1 x2 x3 x4 x5 (x6 + (2 : Int32)) _ _ _ hf hP hD hS (lv_sub hl [2, 3, 4, 5, 6, 7, 0] rfl)
          · rw [if_neg hc] at hf
            exact hb82 k8 hk8 k28 hk28 x1 x2 x5 x6 (c_o_numbers (((x5 * (6 : Int32)) + x6)).toNatClampNeg) _ _ _ hf hP hD hS (lv_sub hl [1, 2, 3, 6, 7, 0] rfl)
        · rw [if_neg hc] at hf
          refine lv_iload (pc := 67) hx hb d_xDrawing_extreme_67 (lv_at hl 0 rfl) ?_
          refine lv_iload_n (pc := 69) hx hb d_xDrawing_extreme_69 rfl (lv_at hl 4 rfl) ?_
          refine lv_icmp_le (pc := 70) (tgt := 88) hx hb d_xDrawing_extreme_70 (by decide) (fun hc => ?_) (fun hc => ?_)
          · rw [if_pos hc] at hf
            refine lv_iinc (pc := 88) (v := (x6 + (2 : Int32))) (lv' := [(6, .int (x6 + (2 : Int32))), (7, .int (c_o_numbers (((x5 * (6 : Int32)) + x6)).toNatClampNeg)), (0, .ref q_o), (1, .int x1), (2, .int x2), (3, .int x3), (4, .int x4), (5, .int x5)]) hx hb d_xDrawing_extreme_88 hl (k := 7) rfl rfl (by decide) rfl (fun ls hl => ?_)
            refine lv_goto (pc := 91) (tgt := 28) hx hb d_xDrawing_extreme_91 (by decide) ?_
            exact hk28 x1 x2 x3 x4 x5 (x6 + (2 : Int32)) _ _ _ hf hP hD hS (lv_sub hl [2, 3, 4, 5, 6, 7, 0] rfl)
          · rw [if_neg hc] at hf
            refine lv_goto (pc := 73) (tgt := 82) hx hb d_xDrawing_extreme_73 (by decide) ?_
            exact hb82 k8 hk8 k28 hk28 x1 x2 x5 x6 (c_o_numbers (((x5 * (6 : Int32)) + x6)).toNatClampNeg) _ _ _ hf hP hD hS (lv_sub hl [1, 2, 3, 6, 7, 0] rfl)
  have hL28 : ∀ (k8 : Int32 → Int32 → Int32 → Int32 → Int32 → Int32 → (Nat → Int32) → (Nat → Int32) → Option (Int32)), (∀ (x1 : Int32) (x2 : Int32) (x3 : Int32) (x4 : Int32) (x5 : Int32) (H : Heap) (locs : List Loc) (ls : Array Slot), k8 x1 x2 x3 x4 x5 v_o_count c_o_kinds c_o_numbers = some rv → va_P (dC, dI) clz [(q_o, .inr (1, f_Drawing q_o_kinds q_o_numbers v_o_count)), (q_o_kinds, .inl (k_o_kinds, 150, .inl c_o_kinds)), (q_o_numbers, .inl (k_o_numbers, 900, .inl c_o_numbers))] H → va_D A [(q_o, .inr (1, f_Drawing q_o_kinds q_o_numbers v_o_count)), (q_o_kinds, .inl (k_o_kinds, 150, .inl c_o_kinds)), (q_o_numbers, .inl (k_o_numbers, 900, .inl c_o_numbers))] → va_S A s.heap H locs → lv_has ls 8 [(0, .ref q_o), (1, .int x1), (2, .int x2), (3, .int x3), (4, .int x4), (5, .int x5)] → W p l e (headSpec w_xDrawing_extreme ({ frames := 1, cells := 0, slots := 0, locals := 20 })).room s m args below meth c H locs 0 0 Q (F0 m 8 ls [])) → ∀ n : Nat, ∀ (x1 : Int32) (x2 : Int32) (x3 : Int32) (x4 : Int32) (x5 : Int32) (x6 : Int32) (H : Heap) (locs : List Loc) (ls : Array Slot), (xDrawing_extreme_L28 N k8 n) x1 x2 x3 x4 x5 x6 v_o_count c_o_kinds c_o_numbers = some rv → va_P (dC, dI) clz [(q_o, .inr (1, f_Drawing q_o_kinds q_o_numbers v_o_count)), (q_o_kinds, .inl (k_o_kinds, 150, .inl c_o_kinds)), (q_o_numbers, .inl (k_o_numbers, 900, .inl c_o_numbers))] H → va_D A [(q_o, .inr (1, f_Drawing q_o_kinds q_o_numbers v_o_count)), (q_o_kinds, .inl (k_o_kinds, 150, .inl c_o_kinds)), (q_o_numbers, .inl (k_o_numbers, 900, .inl c_o_numbers))] → va_S A s.heap H locs → lv_has ls 8 [(0, .ref q_o), (1, .int x1), (2, .int x2), (3, .int x3), (4, .int x4), (5, .int x5), (6, .int x6)] → W p l e (headSpec w_xDrawing_extreme ({ frames := 1, cells := 0, slots := 0, locals := 20 })).room s m args below meth c H locs 0 0 Q (F0 m 28 ls []) := by
    intro k8 hk8 n
    induction n with
    | zero => intro x1 x2 x3 x4 x5 x6 H locs ls hf hP hD hS hl; have hf : none = some rv := hf; cases hf
    | succ n ih => exact hB28 k8 hk8 (xDrawing_extreme_L28 N k8 n) ih
  have hB8 : ∀ (k8 : Int32 → Int32 → Int32 → Int32 → Int32 → Int32 → (Nat → Int32) → (Nat → Int32) → Option (Int32)), (∀ (x1 : Int32) (x2 : Int32) (x3 : Int32) (x4 : Int32) (x5 : Int32) (H : Heap) (locs : List Loc) (ls : Array Slot), k8 x1 x2 x3 x4 x5 v_o_count c_o_kinds c_o_numbers = some rv → va_P (dC, dI) clz [(q_o, .inr (1, f_Drawing q_o_kinds q_o_numbers v_o_count)), (q_o_kinds, .inl (k_o_kinds, 150, .inl c_o_kinds)), (q_o_numbers, .inl (k_o_numbers, 900, .inl c_o_numbers))] H → va_D A [(q_o, .inr (1, f_Drawing q_o_kinds q_o_numbers v_o_count)), (q_o_kinds, .inl (k_o_kinds, 150, .inl c_o_kinds)), (q_o_numbers, .inl (k_o_numbers, 900, .inl c_o_numbers))] → va_S A s.heap H locs → lv_has ls 8 [(0, .ref q_o), (1, .int x1), (2, .int x2), (3, .int x3), (4, .int x4), (5, .int x5)] → W p l e (headSpec w_xDrawing_extreme ({ frames := 1, cells := 0, slots := 0, locals := 20 })).room s m args below meth c H locs 0 0 Q (F0 m 8 ls [])) → ∀ (x1 : Int32) (x2 : Int32) (x3 : Int32) (x4 : Int32) (x5 : Int32) (H : Heap) (locs : List Loc) (ls : Array Slot), xDrawing_extreme_B8 N k8 x1 x2 x3 x4 x5 v_o_count c_o_kinds c_o_numbers = some rv → va_P (dC, dI) clz [(q_o, .inr (1, f_Drawing q_o_kinds q_o_numbers v_o_count)), (q_o_kinds, .inl (k_o_kinds, 150, .inl c_o_kinds)), (q_o_numbers, .inl (k_o_numbers, 900, .inl c_o_numbers))] H → va_D A [(q_o, .inr (1, f_Drawing q_o_kinds q_o_numbers v_o_count)), (q_o_kinds, .inl (k_o_kinds, 150, .inl c_o_kinds)), (q_o_numbers, .inl (k_o_numbers, 900, .inl c_o_numbers))] → va_S A s.heap H locs → lv_has ls 8 [(0, .ref q_o), (1, .int x1), (2, .int x2), (3, .int x3), (4, .int x4), (5, .int x5)] → W p l e (headSpec w_xDrawing_extreme ({ frames := 1, cells := 0, slots := 0, locals := 20 })).room s m args below meth c H locs 0 0 Q (F0 m 8 ls []) := by
    intro k8 hk8
    intro x1 x2 x3 x4 x5 H locs ls hf hP hD hS hl
    rw [xDrawing_extreme_B8] at hf
    refine lv_iload (pc := 8) hx hb d_xDrawing_extreme_8 (lv_at hl 5 rfl) ?_
    refine lv_sipush (pc := 10) (v := (150 : Int32)) hx hb d_xDrawing_extreme_10 (by decide) ?_
    refine lv_icmp_ge (pc := 13) (tgt := 100) hx hb d_xDrawing_extreme_13 (by decide) (fun hc => ?_) (fun hc => ?_)
    · rw [if_pos hc] at hf
      refine lv_iload_n (pc := 100) hx hb d_xDrawing_extreme_100 rfl (lv_at hl 3 rfl) ?_
      have e_0 := kr1 hf
      rw [e_0]
      exact hRet 101 _ _ _ d_xDrawing_extreme_101 hP hD hS
    · rw [if_neg hc] at hf
      refine lv_iload (pc := 16) hx hb d_xDrawing_extreme_16 (lv_at hl 5 rfl) ?_
      refine lv_aload_n (pc := 18) hx hb d_xDrawing_extreme_18 rfl (lv_at hl 0 rfl) ?_
      refine va_get (pc := 19) (D := (dC, dI)) (ci := 1) (v := .int v_o_count) (C := "PathTexts$Drawing") (T := F_Drawing) (N := 3) hx hb hts (fun w h => List.mem_cons_of_mem _ (in_Drawing w h)) hown hK hP 0 rfl rfl 2 (by decide) (hts _ (List.mem_cons_of_mem _ kw_175)) (fun _ h9 => h9) fg_Drawing_2 d_xDrawing_extreme_19 ?_
      refine lv_icmp_ge (pc := 22) (tgt := 100) hx hb d_xDrawing_extreme_22 (by decide) (fun hc => ?_) (fun hc => ?_)
      · rw [if_pos hc] at hf
        refine lv_iload_n (pc := 100) hx hb d_xDrawing_extreme_100 rfl (lv_at hl 3 rfl) ?_
        have e_0 := kr1 hf
        rw [e_0]
        exact hRet 101 _ _ _ d_xDrawing_extreme_101 hP hD hS
      · rw [if_neg hc] at hf
        refine lv_iload_n (pc := 25) hx hb d_xDrawing_extreme_25 rfl (lv_at hl 1 rfl) ?_
        refine lv_istore (pc := 26) (lv' := [(6, .int x1), (0, .ref q_o), (1, .int x1), (2, .int x2), (3, .int x3), (4, .int x4), (5, .int x5)]) hx hb d_xDrawing_extreme_26 hl (by decide) rfl (fun ls hl => ?_)
        exact hL28 k8 hk8 N x1 x2 x3 x4 x5 x1 _ _ _ hf hP hD hS (lv_sub hl [1, 2, 3, 4, 5, 6, 0] rfl)
  have hL8 : ∀ n : Nat, ∀ (x1 : Int32) (x2 : Int32) (x3 : Int32) (x4 : Int32) (x5 : Int32) (H : Heap) (locs : List Loc) (ls : Array Slot), (xDrawing_extreme_L8 N n) x1 x2 x3 x4 x5 v_o_count c_o_kinds c_o_numbers = some rv → va_P (dC, dI) clz [(q_o, .inr (1, f_Drawing q_o_kinds q_o_numbers v_o_count)), (q_o_kinds, .inl (k_o_kinds, 150, .inl c_o_kinds)), (q_o_numbers, .inl (k_o_numbers, 900, .inl c_o_numbers))] H → va_D A [(q_o, .inr (1, f_Drawing q_o_kinds q_o_numbers v_o_count)), (q_o_kinds, .inl (k_o_kinds, 150, .inl c_o_kinds)), (q_o_numbers, .inl (k_o_numbers, 900, .inl c_o_numbers))] → va_S A s.heap H locs → lv_has ls 8 [(0, .ref q_o), (1, .int x1), (2, .int x2), (3, .int x3), (4, .int x4), (5, .int x5)] → W p l e (headSpec w_xDrawing_extreme ({ frames := 1, cells := 0, slots := 0, locals := 20 })).room s m args below meth c H locs 0 0 Q (F0 m 8 ls []) := by
    intro n
    induction n with
    | zero => intro x1 x2 x3 x4 x5 H locs ls hf hP hD hS hl; have hf : none = some rv := hf; cases hf
    | succ n ih => exact hB8 (xDrawing_extreme_L8 N n) ih
  rw [xDrawing_extreme] at hf
  refine lv_iconst (pc := 0) (v := (0 : Int32)) hx hb d_xDrawing_extreme_0 (by decide) ?_
  refine lv_istore_n (pc := 1) (lv' := [(3, .int (0 : Int32)), (0, .ref q_o), (1, .int x1), (2, .int x2)]) hx hb d_xDrawing_extreme_1 rfl hl (by decide) rfl (fun ls hl => ?_)
  refine lv_iconst (pc := 2) (v := (1 : Int32)) hx hb d_xDrawing_extreme_2 (by decide) ?_
  refine lv_istore (pc := 3) (lv' := [(4, .int (1 : Int32)), (3, .int (0 : Int32)), (0, .ref q_o), (1, .int x1), (2, .int x2)]) hx hb d_xDrawing_extreme_3 hl (by decide) rfl (fun ls hl => ?_)
  refine lv_iconst (pc := 5) (v := (0 : Int32)) hx hb d_xDrawing_extreme_5 (by decide) ?_
  refine lv_istore (pc := 6) (lv' := [(5, .int (0 : Int32)), (4, .int (1 : Int32)), (3, .int (0 : Int32)), (0, .ref q_o), (1, .int x1), (2, .int x2)]) hx hb d_xDrawing_extreme_6 hl (by decide) rfl (fun ls hl => ?_)
  exact hL8 N x1 x2 (0 : Int32) (1 : Int32) (0 : Int32) _ _ _ hf hP hD hS (lv_sub hl [3, 4, 5, 2, 1, 0] rfl)
set_option maxHeartbeats 4000000 in
set_option maxRecDepth 100000 in
theorem ct_xDrawing_edges (l : Launch) (dC : Nat → ClassId) (dI : Nat → Nat → Nat) (q_o : Nat) (q_o_kinds : Nat) (q_o_numbers : Nat) (k_o_kinds : ClassId) (sz : Nat) (N : Nat) (v_o_count : Int32) (c_o_kinds : (Nat → Int32)) (rv : Int32) (hf : xDrawing_edges N v_o_count c_o_kinds = some rv) : Met l y_xDrawing_edges w_xDrawing_edges ({ frames := 0, cells := 0, slots := 0, locals := 0 }) (va_Pc [.ref q_o] (fun U => U.heap.size = sz ∧ va_P (dC, dI) clz [(q_o, .inr (1, f_Drawing q_o_kinds q_o_numbers v_o_count)), (q_o_kinds, .inl (k_o_kinds, 150, .inl c_o_kinds))] U.heap ∧ va_K (dC, dI) clz [(k_o_kinds, .int)] U ∧ va_D (fun _ => True) [(q_o, .inr (1, f_Drawing q_o_kinds q_o_numbers v_o_count)), (q_o_kinds, .inl (k_o_kinds, 150, .inl c_o_kinds))])) (va_Qi (fun (r9 : Int32) (_ : Unit) => r9 = rv) (fun _ t => va_P (dC, dI) clz [(q_o, .inr (1, f_Drawing q_o_kinds q_o_numbers v_o_count)), (q_o_kinds, .inl (k_o_kinds, 150, .inl c_o_kinds))] t.heap ∧ va_K (dC, dI) clz [(k_o_kinds, .int)] t ∧ va_D (va_A [(q_o, .inr (1, f_Drawing q_o_kinds q_o_numbers v_o_count)), (q_o_kinds, .inl (k_o_kinds, 150, .inl c_o_kinds))] sz) [(q_o, .inr (1, f_Drawing q_o_kinds q_o_numbers v_o_count)), (q_o_kinds, .inl (k_o_kinds, 150, .inl c_o_kinds))]) (va_A [(q_o, .inr (1, f_Drawing q_o_kinds q_o_numbers v_o_count)), (q_o_kinds, .inl (k_o_kinds, 150, .inl c_o_kinds))] sz)) 0 0 (va_A [(q_o, .inr (1, f_Drawing q_o_kinds q_o_numbers v_o_count)), (q_o_kinds, .inl (k_o_kinds, 150, .inl c_o_kinds))] sz) := by
  refine Met.ofW (cc := prog_3_method_5_code) (maxL := 4) (ret := (some .int)) (by decide +kernel) rfl ?_
  intro p e s m args below meth c s₁ B hml hv
  obtain ⟨hargs, hsz, hP, hK, hD0⟩ := hv
  have hx := B.exec
  have hb := B.bytes
  have hr := B.returns
  have hts := atoms_spec (ws := w_xDrawing_edges) B.pre
  have hown : s.vm.findClass "PathTexts$Drawing" = some m.cls := findClass_of_methodNamed B.named
  have hlocks := B.notSynchronized
  subst hsz
  have hD := hD0.self (sz := s.heap.size)
  generalize hAe : va_A [(q_o, .inr (1, f_Drawing q_o_kinds q_o_numbers v_o_count)), (q_o_kinds, .inl (k_o_kinds, 150, .inl c_o_kinds))] s.heap.size = A at hD ⊢
  have hA : ∀ q : Nat, s.heap.size ≤ q → A q := fun q h => by rw [← hAe]; exact Or.inr h
  clear hAe hD0
  have hS : va_S A s.heap s.heap [] := va_S.rf
  have hl := lv_entry ([.ref q_o]) (n := 4) (Nat.le_of_ble_eq_true rfl)
  have hent : entryFrame m args 4 = F0 m 0 (lg_sl ([.ref q_o]) ++ List.replicate (4 - (lg_sl ([.ref q_o])).length) Slot.unset).toArray [] := by rw [hargs, lg_entry_eq]
  rw [hent]
  clear hent hargs
  generalize (lg_sl ([.ref q_o]) ++ List.replicate (4 - (lg_sl ([.ref q_o])).length) Slot.unset).toArray = ls at hl ⊢
  have hl : lv_has ls 4 [(0, .ref q_o)] := hl
  suffices key : ∀ Q : State → Prop, (∀ (pc : Nat) (H : Heap) (locs : List Loc) (ls : Array Slot), decode prog_3_method_5_code pc = .ok (.ireturn, 1) → va_P (dC, dI) clz [(q_o, .inr (1, f_Drawing q_o_kinds q_o_numbers v_o_count)), (q_o_kinds, .inl (k_o_kinds, 150, .inl c_o_kinds))] H → va_D A [(q_o, .inr (1, f_Drawing q_o_kinds q_o_numbers v_o_count)), (q_o_kinds, .inl (k_o_kinds, 150, .inl c_o_kinds))] → va_S A s.heap H locs → W p l e (headSpec w_xDrawing_edges ({ frames := 0, cells := 0, slots := 0, locals := 0 })).room s m args below meth c H locs 0 0 Q (F0 m pc ls [.int rv])) → W p l e (headSpec w_xDrawing_edges ({ frames := 0, cells := 0, slots := 0, locals := 0 })).room s m args below meth c s.heap [] 0 0 Q (F0 m 0 ls []) from key _ (fun pc H locs ls hd hP hD hS => W.iret hx hb hr (fun t ht hW => ⟨⟨rv, (), rfl, rfl, by rw [ht]; exact hP, va_K.moved hW.alike hK, hD⟩, hS.F ht⟩) hS.2.2 hd)
  intro Q hRet
  have hb85 : ∀ (x1 : Int32) (x2 : Int32) (H : Heap) (locs : List Loc) (ls : Array Slot), xDrawing_edges_b85 N x1 x2 = some rv → va_P (dC, dI) clz [(q_o, .inr (1, f_Drawing q_o_kinds q_o_numbers v_o_count)), (q_o_kinds, .inl (k_o_kinds, 150, .inl c_o_kinds))] H → va_D A [(q_o, .inr (1, f_Drawing q_o_kinds q_o_numbers v_o_count)), (q_o_kinds, .inl (k_o_kinds, 150, .inl c_o_kinds))] → va_S A s.heap H locs → lv_has ls 4 [(1, .int x1), (2, .int x2)] → W p l e (headSpec w_xDrawing_edges ({ frames := 0, cells := 0, slots := 0, locals := 0 })).room s m args below meth c H locs 0 0 Q (F0 m 85 ls []) := by
    intro x1 x2 H locs ls hf hP hD hS hl
    rw [xDrawing_edges_b85] at hf
    refine lv_iload_n (pc := 85) hx hb d_xDrawing_edges_85 rfl (lv_at hl 1 rfl) ?_
    refine lv_if_eq (pc := 86) (tgt := 95) hx hb d_xDrawing_edges_86 (by decide) (fun hc => ?_) (fun hc => ?_)
    · rw [if_pos hc] at hf
      refine lv_iload_n (pc := 95) hx hb d_xDrawing_edges_95 rfl (lv_at hl 0 rfl) ?_
      have e_0 := kr1 hf
      rw [e_0]
      exact hRet 96 _ _ _ d_xDrawing_edges_96 hP hD hS
    · rw [if_neg hc] at hf
      refine lv_iload_n (pc := 89) hx hb d_xDrawing_edges_89 rfl (lv_at hl 0 rfl) ?_
      refine lv_iconst (pc := 90) (v := (1 : Int32)) hx hb d_xDrawing_edges_90 (by decide) ?_
      refine lv_iadd (pc := 91) hx hb d_xDrawing_edges_91 ?_
      refine lv_goto (pc := 92) (tgt := 96) hx hb d_xDrawing_edges_92 (by decide) ?_
      have e_0 := kr1 hf
      rw [e_0]
      exact hRet 96 _ _ _ d_xDrawing_edges_96 hP hD hS
  have hb58 : ∀ (k6 : Int32 → Int32 → Int32 → Int32 → (Nat → Int32) → Option (Int32)), (∀ (x1 : Int32) (x2 : Int32) (x3 : Int32) (H : Heap) (locs : List Loc) (ls : Array Slot), k6 x1 x2 x3 v_o_count c_o_kinds = some rv → va_P (dC, dI) clz [(q_o, .inr (1, f_Drawing q_o_kinds q_o_numbers v_o_count)), (q_o_kinds, .inl (k_o_kinds, 150, .inl c_o_kinds))] H → va_D A [(q_o, .inr (1, f_Drawing q_o_kinds q_o_numbers v_o_count)), (q_o_kinds, .inl (k_o_kinds, 150, .inl c_o_kinds))] → va_S A s.heap H locs → lv_has ls 4 [(0, .ref q_o), (1, .int x1), (2, .int x2), (3, .int x3)] → W p l e (headSpec w_xDrawing_edges ({ frames := 0, cells := 0, slots := 0, locals := 0 })).room s m args below meth c H locs 0 0 Q (F0 m 6 ls [])) → ∀ (x3 : Int32) (s0 : Int32) (s1 : Int32) (H : Heap) (locs : List Loc) (ls : Array Slot), xDrawing_edges_b58 N k6 x3 s0 s1 v_o_count c_o_kinds = some rv → va_P (dC, dI) clz [(q_o, .inr (1, f_Drawing q_o_kinds q_o_numbers v_o_count)), (q_o_kinds, .inl (k_o_kinds, 150, .inl c_o_kinds))] H → va_D A [(q_o, .inr (1, f_Drawing q_o_kinds q_o_numbers v_o_count)), (q_o_kinds, .inl (k_o_kinds, 150, .inl c_o_kinds))] → va_S A s.heap H locs → lv_has ls 4 [(0, .ref q_o), (3, .int x3)] → W p l e (headSpec w_xDrawing_edges ({ frames := 0, cells := 0, slots := 0, locals := 0 })).room s m args below meth c H locs 0 0 Q (F0 m 58 ls [.int s1, .int s0]) := by
    intro k6 hk6
    intro x3 s0 s1 H locs ls hf hP hD hS hl
    rw [xDrawing_edges_b58] at hf
    refine lv_iadd (pc := 58) hx hb d_xDrawing_edges_58 ?_
    refine lv_istore_n (pc := 59) (lv' := [(1, .int (s0 + s1)), (0, .ref q_o), (3, .int x3)]) hx hb d_xDrawing_edges_59 rfl hl (by decide) rfl (fun ls hl => ?_)
    refine lv_iconst (pc := 60) (v := (1 : Int32)) hx hb d_xDrawing_edges_60 (by decide) ?_
    refine lv_istore_n (pc := 61) (lv' := [(2, .int (1 : Int32)), (1, .int (s0 + s1)), (0, .ref q_o), (3, .int x3)]) hx hb d_xDrawing_edges_61 rfl hl (by decide) rfl (fun ls hl => ?_)
    refine lv_goto (pc := 62) (tgt := 79) hx hb d_xDrawing_edges_62 (by decide) ?_
    refine lv_iinc (pc := 79) (v := (x3 + (1 : Int32))) (lv' := [(3, .int (x3 + (1 : Int32))), (2, .int (1 : Int32)), (1, .int (s0 + s1)), (0, .ref q_o)]) hx hb d_xDrawing_edges_79 hl (k := 3) rfl rfl (by decide) rfl (fun ls hl => ?_)
    refine lv_goto (pc := 82) (tgt := 6) hx hb d_xDrawing_edges_82 (by decide) ?_
    exact hk6 (s0 + s1) (1 : Int32) (x3 + (1 : Int32)) _ _ _ hf hP hD hS (lv_sub hl [3, 2, 1, 0] rfl)
  have hb41 : ∀ (k6 : Int32 → Int32 → Int32 → Int32 → (Nat → Int32) → Option (Int32)), (∀ (x1 : Int32) (x2 : Int32) (x3 : Int32) (H : Heap) (locs : List Loc) (ls : Array Slot), k6 x1 x2 x3 v_o_count c_o_kinds = some rv → va_P (dC, dI) clz [(q_o, .inr (1, f_Drawing q_o_kinds q_o_numbers v_o_count)), (q_o_kinds, .inl (k_o_kinds, 150, .inl c_o_kinds))] H → va_D A [(q_o, .inr (1, f_Drawing q_o_kinds q_o_numbers v_o_count)), (q_o_kinds, .inl (k_o_kinds, 150, .inl c_o_kinds))] → va_S A s.heap H locs → lv_has ls 4 [(0, .ref q_o), (1, .int x1), (2, .int x2), (3, .int x3)] → W p l e (headSpec w_xDrawing_edges ({ frames := 0, cells := 0, slots := 0, locals := 0 })).room s m args below meth c H locs 0 0 Q (F0 m 6 ls [])) → ∀ (x1 : Int32) (x3 : Int32) (H : Heap) (locs : List Loc) (ls : Array Slot), xDrawing_edges_b41 N k6 x1 x3 v_o_count c_o_kinds = some rv → va_P (dC, dI) clz [(q_o, .inr (1, f_Drawing q_o_kinds q_o_numbers v_o_count)), (q_o_kinds, .inl (k_o_kinds, 150, .inl c_o_kinds))] H → va_D A [(q_o, .inr (1, f_Drawing q_o_kinds q_o_numbers v_o_count)), (q_o_kinds, .inl (k_o_kinds, 150, .inl c_o_kinds))] → va_S A s.heap H locs → lv_has ls 4 [(0, .ref q_o), (1, .int x1), (3, .int x3)] → W p l e (headSpec w_xDrawing_edges ({ frames := 0, cells := 0, slots := 0, locals := 0 })).room s m args below meth c H locs 0 0 Q (F0 m 41 ls []) := by
    intro k6 hk6
    intro x1 x3 H locs ls hf hP hD hS hl
    rw [xDrawing_edges_b41] at hf
    refine lv_iload_n (pc := 41) hx hb d_xDrawing_edges_41 rfl (lv_at hl 1 rfl) ?_
    refine lv_aload_n (pc := 42) hx hb d_xDrawing_edges_42 rfl (lv_at hl 0 rfl) ?_
    refine va_get (pc := 43) (D := (dC, dI)) (ci := 1) (v := .ref q_o_kinds) (C := "PathTexts$Drawing") (T := F_Drawing) (N := 3) hx hb hts (fun w h => List.mem_cons_of_mem _ (in_Drawing w h)) hown hK hP 0 rfl rfl 0 (by decide) (hts _ (List.mem_cons_of_mem _ kw_166)) (fun _ h9 => h9) fg_Drawing_0 d_xDrawing_edges_43 ?_
    refine lv_iload_n (pc := 46) hx hb d_xDrawing_edges_46 rfl (lv_at hl 2 rfl) ?_
    obtain ⟨hg1, hf⟩ := kg_some hf
    refine va_iald (pc := 47) hx hb hK hP 1 0 rfl rfl (ki_in hg1) d_xDrawing_edges_47 ?_
    refine lv_iconst (pc := 48) (v := (1 : Int32)) hx hb d_xDrawing_edges_48 (by decide) ?_
    refine lv_icmp_ne (pc := 49) (tgt := 56) hx hb d_xDrawing_edges_49 (by decide) (fun hc => ?_) (fun hc => ?_)
    · rw [if_neg hc] at hf
      refine lv_bipush (pc := 56) (v := (16 : Int32)) hx hb d_xDrawing_edges_56 (by decide) ?_
      exact hb58 k6 hk6 x3 x1 (16 : Int32) _ _ _ hf hP hD hS (lv_sub hl [0, 2] rfl)
    · rw [if_pos hc] at hf
      refine lv_iconst (pc := 52) (v := (1 : Int32)) hx hb d_xDrawing_edges_52 (by decide) ?_
      refine lv_goto (pc := 53) (tgt := 58) hx hb d_xDrawing_edges_53 (by decide) ?_
      exact hb58 k6 hk6 x3 x1 (1 : Int32) _ _ _ hf hP hD hS (lv_sub hl [0, 2] rfl)
  have hb75 : ∀ (k6 : Int32 → Int32 → Int32 → Int32 → (Nat → Int32) → Option (Int32)), (∀ (x1 : Int32) (x2 : Int32) (x3 : Int32) (H : Heap) (locs : List Loc) (ls : Array Slot), k6 x1 x2 x3 v_o_count c_o_kinds = some rv → va_P (dC, dI) clz [(q_o, .inr (1, f_Drawing q_o_kinds q_o_numbers v_o_count)), (q_o_kinds, .inl (k_o_kinds, 150, .inl c_o_kinds))] H → va_D A [(q_o, .inr (1, f_Drawing q_o_kinds q_o_numbers v_o_count)), (q_o_kinds, .inl (k_o_kinds, 150, .inl c_o_kinds))] → va_S A s.heap H locs → lv_has ls 4 [(0, .ref q_o), (1, .int x1), (2, .int x2), (3, .int x3)] → W p l e (headSpec w_xDrawing_edges ({ frames := 0, cells := 0, slots := 0, locals := 0 })).room s m args below meth c H locs 0 0 Q (F0 m 6 ls [])) → ∀ (x3 : Int32) (s0 : Int32) (s1 : Int32) (H : Heap) (locs : List Loc) (ls : Array Slot), xDrawing_edges_b75 N k6 x3 s0 s1 v_o_count c_o_kinds = some rv → va_P (dC, dI) clz [(q_o, .inr (1, f_Drawing q_o_kinds q_o_numbers v_o_count)), (q_o_kinds, .inl (k_o_kinds, 150, .inl c_o_kinds))] H → va_D A [(q_o, .inr (1, f_Drawing q_o_kinds q_o_numbers v_o_count)), (q_o_kinds, .inl (k_o_kinds, 150, .inl c_o_kinds))] → va_S A s.heap H locs → lv_has ls 4 [(0, .ref q_o), (3, .int x3)] → W p l e (headSpec w_xDrawing_edges ({ frames := 0, cells := 0, slots := 0, locals := 0 })).room s m args below meth c H locs 0 0 Q (F0 m 75 ls [.int s1, .int s0]) := by
    intro k6 hk6
    intro x3 s0 s1 H locs ls hf hP hD hS hl
    rw [xDrawing_edges_b75] at hf
    refine lv_iadd (pc := 75) hx hb d_xDrawing_edges_75 ?_
    refine lv_istore_n (pc := 76) (lv' := [(1, .int (s0 + s1)), (0, .ref q_o), (3, .int x3)]) hx hb d_xDrawing_edges_76 rfl hl (by decide) rfl (fun ls hl => ?_)
    refine lv_iconst (pc := 77) (v := (0 : Int32)) hx hb d_xDrawing_edges_77 (by decide) ?_
    refine lv_istore_n (pc := 78) (lv' := [(2, .int (0 : Int32)), (1, .int (s0 + s1)), (0, .ref q_o), (3, .int x3)]) hx hb d_xDrawing_edges_78 rfl hl (by decide) rfl (fun ls hl => ?_)
    refine lv_iinc (pc := 79) (v := (x3 + (1 : Int32))) (lv' := [(3, .int (x3 + (1 : Int32))), (2, .int (0 : Int32)), (1, .int (s0 + s1)), (0, .ref q_o)]) hx hb d_xDrawing_edges_79 hl (k := 3) rfl rfl (by decide) rfl (fun ls hl => ?_)
    refine lv_goto (pc := 82) (tgt := 6) hx hb d_xDrawing_edges_82 (by decide) ?_
    exact hk6 (s0 + s1) (0 : Int32) (x3 + (1 : Int32)) _ _ _ hf hP hD hS (lv_sub hl [3, 2, 1, 0] rfl)
  have hB6 : ∀ (k6 : Int32 → Int32 → Int32 → Int32 → (Nat → Int32) → Option (Int32)), (∀ (x1 : Int32) (x2 : Int32) (x3 : Int32) (H : Heap) (locs : List Loc) (ls : Array Slot), k6 x1 x2 x3 v_o_count c_o_kinds = some rv → va_P (dC, dI) clz [(q_o, .inr (1, f_Drawing q_o_kinds q_o_numbers v_o_count)), (q_o_kinds, .inl (k_o_kinds, 150, .inl c_o_kinds))] H → va_D A [(q_o, .inr (1, f_Drawing q_o_kinds q_o_numbers v_o_count)), (q_o_kinds, .inl (k_o_kinds, 150, .inl c_o_kinds))] → va_S A s.heap H locs → lv_has ls 4 [(0, .ref q_o), (1, .int x1), (2, .int x2), (3, .int x3)] → W p l e (headSpec w_xDrawing_edges ({ frames := 0, cells := 0, slots := 0, locals := 0 })).room s m args below meth c H locs 0 0 Q (F0 m 6 ls [])) → ∀ (x1 : Int32) (x2 : Int32) (x3 : Int32) (H : Heap) (locs : List Loc) (ls : Array Slot), xDrawing_edges_B6 N k6 x1 x2 x3 v_o_count c_o_kinds = some rv → va_P (dC, dI) clz [(q_o, .inr (1, f_Drawing q_o_kinds q_o_numbers v_o_count)), (q_o_kinds, .inl (k_o_kinds, 150, .inl c_o_kinds))] H → va_D A [(q_o, .inr (1, f_Drawing q_o_kinds q_o_numbers v_o_count)), (q_o_kinds, .inl (k_o_kinds, 150, .inl c_o_kinds))] → va_S A s.heap H locs → lv_has ls 4 [(0, .ref q_o), (1, .int x1), (2, .int x2), (3, .int x3)] → W p l e (headSpec w_xDrawing_edges ({ frames := 0, cells := 0, slots := 0, locals := 0 })).room s m args below meth c H locs 0 0 Q (F0 m 6 ls []) := by
    intro k6 hk6
    intro x1 x2 x3 H locs ls hf hP hD hS hl
    rw [xDrawing_edges_B6] at hf
    refine lv_iload_n (pc := 6) hx hb d_xDrawing_edges_6 rfl (lv_at hl 3 rfl) ?_
    refine lv_sipush (pc := 7) (v := (150 : Int32)) hx hb d_xDrawing_edges_7 (by decide) ?_
    refine lv_icmp_ge (pc := 10) (tgt := 85) hx hb d_xDrawing_edges_10 (by decide) (fun hc => ?_) (fun hc => ?_)
    · rw [if_pos hc] at hf
      exact hb85 x1 x2 _ _ _ hf hP hD hS (lv_sub hl [1, 2] rfl)
    · rw [if_neg hc] at hf
      refine lv_iload_n (pc := 13) hx hb d_xDrawing_edges_13 rfl (lv_at hl 3 rfl) ?_
      refine lv_aload_n (pc := 14) hx hb d_xDrawing_edges_14 rfl (lv_at hl 0 rfl) ?_
      refine va_get (pc := 15) (D := (dC, dI)) (ci := 1) (v := .int v_o_count) (C := "PathTexts$Drawing") (T := F_Drawing) (N := 3) hx hb hts (fun w h => List.mem_cons_of_mem _ (in_Drawing w h)) hown hK hP 0 rfl rfl 2 (by decide) (hts _ (List.mem_cons_of_mem _ kw_175)) (fun _ h9 => h9) fg_Drawing_2 d_xDrawing_edges_15 ?_
      refine lv_icmp_ge (pc := 18) (tgt := 85) hx hb d_xDrawing_edges_18 (by decide) (fun hc => ?_) (fun hc => ?_)
      · rw [if_pos hc] at hf
        exact hb85 x1 x2 _ _ _ hf hP hD hS (lv_sub hl [1, 2] rfl)
      · rw [if_neg hc] at hf
        refine lv_aload_n (pc := 21) hx hb d_xDrawing_edges_21 rfl (lv_at hl 0 rfl) ?_
        refine va_get (pc := 22) (D := (dC, dI)) (ci := 1) (v := .ref q_o_kinds) (C := "PathTexts$Drawing") (T := F_Drawing) (N := 3) hx hb hts (fun w h => List.mem_cons_of_mem _ (in_Drawing w h)) hown hK hP 0 rfl rfl 0 (by decide) (hts _ (List.mem_cons_of_mem _ kw_166)) (fun _ h9 => h9) fg_Drawing_0 d_xDrawing_edges_22 ?_
        refine lv_iload_n (pc := 25) hx hb d_xDrawing_edges_25 rfl (lv_at hl 3 rfl) ?_
        obtain ⟨hg2, hf⟩ := kg_some hf
        refine va_iald (pc := 26) hx hb hK hP 1 0 rfl rfl (ki_in hg2) d_xDrawing_edges_26 ?_
        refine lv_iconst (pc := 27) (v := (1 : Int32)) hx hb d_xDrawing_edges_27 (by decide) ?_
        refine lv_icmp_eq (pc := 28) (tgt := 41) hx hb d_xDrawing_edges_28 (by decide) (fun hc => ?_) (fun hc => ?_)
        · rw [if_pos hc] at hf
          exact hb41 k6 hk6 x1 x3 _ _ _ hf hP hD hS (lv_sub hl [0, 1, 3] rfl)
        · rw [if_neg hc] at hf
          refine lv_aload_n (pc := 31) hx hb d_xDrawing_edges_31 rfl (lv_at hl 0 rfl) ?_
          refine va_get (pc := 32) (D := (dC, dI)) (ci := 1) (v := .ref q_o_kinds) (C := "PathTexts$Drawing") (T := F_Drawing) (N := 3) hx hb hts (fun w h => List.mem_cons_of_mem _ (in_Drawing w h)) hown hK hP 0 rfl rfl 0 (by decide) (hts _ (List.mem_cons_of_mem _ kw_166)) (fun _ h9 => h9) fg_Drawing_0 d_xDrawing_edges_32 ?_
          refine lv_iload_n (pc := 35) hx hb d_xDrawing_edges_35 rfl (lv_at hl 3 rfl) ?_
          obtain ⟨hg3, hf⟩ := kg_some hf
          refine va_iald (pc := 36) hx hb hK hP 1 0 rfl rfl (ki_in hg3) d_xDrawing_edges_36 ?_
          refine lv_iconst (pc := 37) (v := (2 : Int32)) hx hb d_xDrawing_edges_37 (by decide) ?_
          refine lv_icmp_ne (pc := 38) (tgt := 65) hx hb d_xDrawing_edges_38 (by decide) (fun hc => ?_) (fun hc => ?_)
          · rw [if_neg hc] at hf
            refine lv_iload_n (pc := 65) hx hb d_xDrawing_edges_65 rfl (lv_at hl 1 rfl) ?_
            refine lv_iload_n (pc := 66) hx hb d_xDrawing_edges_66 rfl (lv_at hl 2 rfl) ?_
            refine lv_if_eq (pc := 67) (tgt := 74) hx hb d_xDrawing_edges_67 (by decide) (fun hc => ?_) (fun hc => ?_)
            · rw [if_pos hc] at hf
              refine lv_iconst (pc := 74) (v := (0 : Int32)) hx hb d_xDrawing_edges_74 (by decide) ?_
              exact hb75 k6 hk6 x3 x1 (0 : Int32) _ _ _ hf hP hD hS (lv_sub hl [0, 3] rfl)
            · rw [if_neg hc] at hf
              refine lv_iconst (pc := 70) (v := (1 : Int32)) hx hb d_xDrawing_edges_70 (by decide) ?_
              refine lv_goto (pc := 71) (tgt := 75) hx hb d_xDrawing_edges_71 (by decide) ?_
              exact hb75 k6 hk6 x3 x1 (1 : Int32) _ _ _ hf hP hD hS (lv_sub hl [0, 3] rfl)
          · rw [if_pos hc] at hf
            exact hb41 k6 hk6 x1 x3 _ _ _ hf hP hD hS (lv_sub hl [0, 1, 3] rfl)
  have hL6 : ∀ n : Nat, ∀ (x1 : Int32) (x2 : Int32) (x3 : Int32) (H : Heap) (locs : List Loc) (ls : Array Slot), (xDrawing_edges_L6 N n) x1 x2 x3 v_o_count c_o_kinds = some rv → va_P (dC, dI) clz [(q_o, .inr (1, f_Drawing q_o_kinds q_o_numbers v_o_count)), (q_o_kinds, .inl (k_o_kinds, 150, .inl c_o_kinds))] H → va_D A [(q_o, .inr (1, f_Drawing q_o_kinds q_o_numbers v_o_count)), (q_o_kinds, .inl (k_o_kinds, 150, .inl c_o_kinds))] → va_S A s.heap H locs → lv_has ls 4 [(0, .ref q_o), (1, .int x1), (2, .int x2), (3, .int x3)] → W p l e (headSpec w_xDrawing_edges ({ frames := 0, cells := 0, slots := 0, locals := 0 })).room s m args below meth c H locs 0 0 Q (F0 m 6 ls []) := by
    intro n
    induction n with
    | zero => intro x1 x2 x3 H locs ls hf hP hD hS hl; have hf : none = some rv := hf; cases hf
    | succ n ih => exact hB6 (xDrawing_edges_L6 N n) ih
  rw [xDrawing_edges] at hf
  refine lv_iconst (pc := 0) (v := (0 : Int32)) hx hb d_xDrawing_edges_0 (by decide) ?_
  refine lv_istore_n (pc := 1) (lv' := [(1, .int (0 : Int32)), (0, .ref q_o)]) hx hb d_xDrawing_edges_1 rfl hl (by decide) rfl (fun ls hl => ?_)
  refine lv_iconst (pc := 2) (v := (0 : Int32)) hx hb d_xDrawing_edges_2 (by decide) ?_
  refine lv_istore_n (pc := 3) (lv' := [(2, .int (0 : Int32)), (1, .int (0 : Int32)), (0, .ref q_o)]) hx hb d_xDrawing_edges_3 rfl hl (by decide) rfl (fun ls hl => ?_)
  refine lv_iconst (pc := 4) (v := (0 : Int32)) hx hb d_xDrawing_edges_4 (by decide) ?_
  refine lv_istore_n (pc := 5) (lv' := [(3, .int (0 : Int32)), (2, .int (0 : Int32)), (1, .int (0 : Int32)), (0, .ref q_o)]) hx hb d_xDrawing_edges_5 rfl hl (by decide) rfl (fun ls hl => ?_)
  exact hL6 N (0 : Int32) (0 : Int32) (0 : Int32) _ _ _ hf hP hD hS (lv_sub hl [3, 2, 1, 0] rfl)
set_option maxHeartbeats 4000000 in
set_option maxRecDepth 100000 in
theorem ct_xMatrices_startOver (l : Launch) (dC : Nat → ClassId) (dI : Nat → Nat → Nat) (q_o : Nat) (q_o_rows : Nat) (k_o_rows : ClassId) (sz : Nat) (N : Nat) (v_o_depth : Int32) (c_o_rows : (Nat → Int64)) (v_o_depth_z : Int32) (c_o_rows_z : (Nat → Int64)) (hf : xMatrices_startOver N c_o_rows = some (v_o_depth_z, c_o_rows_z)) : Met l y_xMatrices_startOver w_xMatrices_startOver ({ frames := 1, cells := 0, slots := 0, locals := 24 }) (va_Pc [.ref q_o] (fun U => U.heap.size = sz ∧ va_P (dC, dI) clz [(q_o, .inr (2, f_Matrices q_o_rows v_o_depth)), (q_o_rows, .inl (k_o_rows, 54, .inr (.inl c_o_rows)))] U.heap ∧ va_K (dC, dI) clz [(k_o_rows, .long)] U ∧ va_D (fun _ => True) [(q_o, .inr (2, f_Matrices q_o_rows v_o_depth)), (q_o_rows, .inl (k_o_rows, 54, .inr (.inl c_o_rows)))])) (va_Qv (fun _ : Unit => True) (fun _ t => va_P (dC, dI) clz [(q_o, .inr (2, f_Matrices q_o_rows v_o_depth_z)), (q_o_rows, .inl (k_o_rows, 54, .inr (.inl c_o_rows_z)))] t.heap ∧ va_K (dC, dI) clz [(k_o_rows, .long)] t ∧ va_D (va_A [(q_o, .inr (2, f_Matrices q_o_rows v_o_depth)), (q_o_rows, .inl (k_o_rows, 54, .inr (.inl c_o_rows)))] sz) [(q_o, .inr (2, f_Matrices q_o_rows v_o_depth_z)), (q_o_rows, .inl (k_o_rows, 54, .inr (.inl c_o_rows_z)))]) (va_A [(q_o, .inr (2, f_Matrices q_o_rows v_o_depth)), (q_o_rows, .inl (k_o_rows, 54, .inr (.inl c_o_rows)))] sz)) 0 0 (va_A [(q_o, .inr (2, f_Matrices q_o_rows v_o_depth)), (q_o_rows, .inl (k_o_rows, 54, .inr (.inl c_o_rows)))] sz) := by
  refine Met.ofW (cc := prog_4_method_2_code) (maxL := 1) (ret := none) (by decide +kernel) rfl ?_
  intro p e s m args below meth c s₁ B hml hv
  obtain ⟨hargs, hsz, hP, hK, hD0⟩ := hv
  have hx := B.exec
  have hb := B.bytes
  have hr := B.returns
  have hts := atoms_spec (ws := w_xMatrices_startOver) B.pre
  have hown : s.vm.findClass "PathTexts$Matrices" = some m.cls := findClass_of_methodNamed B.named
  have hlocks := B.notSynchronized
  subst hsz
  have hD := hD0.self (sz := s.heap.size)
  generalize hAe : va_A [(q_o, .inr (2, f_Matrices q_o_rows v_o_depth)), (q_o_rows, .inl (k_o_rows, 54, .inr (.inl c_o_rows)))] s.heap.size = A at hD ⊢
  have hA : ∀ q : Nat, s.heap.size ≤ q → A q := fun q h => by rw [← hAe]; exact Or.inr h
  clear hAe hD0
  have hS : va_S A s.heap s.heap [] := va_S.rf
  have hl := lv_entry ([.ref q_o]) (n := 1) (Nat.le_of_ble_eq_true rfl)
  have hent : entryFrame m args 1 = F0 m 0 (lg_sl ([.ref q_o]) ++ List.replicate (1 - (lg_sl ([.ref q_o])).length) Slot.unset).toArray [] := by rw [hargs, lg_entry_eq]
  rw [hent]
  clear hent hargs
  generalize (lg_sl ([.ref q_o]) ++ List.replicate (1 - (lg_sl ([.ref q_o])).length) Slot.unset).toArray = ls at hl ⊢
  have hl : lv_has ls 1 [(0, .ref q_o)] := hl
  suffices key : ∀ Q : State → Prop, (∀ (pc : Nat) (H : Heap) (locs : List Loc) (ls : Array Slot), decode prog_4_method_2_code pc = .ok (.return_, 1) → va_P (dC, dI) clz [(q_o, .inr (2, f_Matrices q_o_rows v_o_depth_z)), (q_o_rows, .inl (k_o_rows, 54, .inr (.inl c_o_rows_z)))] H → va_D A [(q_o, .inr (2, f_Matrices q_o_rows v_o_depth_z)), (q_o_rows, .inl (k_o_rows, 54, .inr (.inl c_o_rows_z)))] → va_S A s.heap H locs → W p l e (headSpec w_xMatrices_startOver ({ frames := 1, cells := 0, slots := 0, locals := 24 })).room s m args below meth c H locs 0 0 Q (F0 m pc ls [])) → W p l e (headSpec w_xMatrices_startOver ({ frames := 1, cells := 0, slots := 0, locals := 24 })).room s m args below meth c s.heap [] 0 0 Q (F0 m 0 ls []) from key _ (fun pc H locs ls hd hP hD hS => W.vret hx hb hr (fun t ht hW => ⟨⟨(), rfl, trivial, by rw [ht]; exact hP, va_K.moved hW.alike hK, hD⟩, hS.F ht⟩) hS.2.2 hd)
  intro Q hRet
  rw [xMatrices_startOver] at hf
  refine lv_aload_n (pc := 0) hx hb d_xMatrices_startOver_0 rfl (lv_at hl 0 rfl) ?_
  refine lv_iconst (pc := 1) (v := (0 : Int32)) hx hb d_xMatrices_startOver_1 (by decide) ?_
  refine kx_put (pc := 2) (D := (dC, dI)) (ci := 2) (v := .int (0 : Int32)) (ty := .int) (C := "PathTexts$Matrices") (T := F_Matrices) (N := 2) hx hb hts (fun w h => List.mem_cons_of_mem _ (in_Matrices w h)) t_Matrices tk_Matrices n_Matrices hown hK hP hD hS 0 rfl rfl 1 (by decide) (hts _ (List.mem_cons_of_mem _ kw_63)) (fun _ h9 => h9) rfl (tk_Matrices 1 (by decide)) rfl rfl fl_Matrices_1 fs_Matrices_1 (ws' := [(q_o, .inr (2, f_Matrices q_o_rows (0 : Int32))), (q_o_rows, .inl (k_o_rows, 54, .inr (.inl c_o_rows)))]) rfl d_xMatrices_startOver_2 (fun H locs hP hD hS => ?_)
  refine lv_aload_n (pc := 5) hx hb d_xMatrices_startOver_5 rfl (lv_at hl 0 rfl) ?_
  refine va_get (pc := 6) (D := (dC, dI)) (ci := 2) (v := .ref q_o_rows) (C := "PathTexts$Matrices") (T := F_Matrices) (N := 2) hx hb hts (fun w h => List.mem_cons_of_mem _ (in_Matrices w h)) hown hK hP 0 rfl rfl 0 (by decide) (hts _ (List.mem_cons_of_mem _ kw_62)) (fun _ h9 => h9) fg_Matrices_0 d_xMatrices_startOver_6 ?_
  refine lv_lconst (pc := 9) (v := (0 : Int64)) hx hb d_xMatrices_startOver_9 (by decide) ?_
  obtain ⟨c_o_rows_10, hz, hf⟩ := kb1_some hf
  have hPc := hP.sub (ws' := [(q_o_rows, .inl (k_o_rows, 54, .inr (.inl c_o_rows)))]) [1] rfl
  have hDc := hD.sub (ws' := [(q_o_rows, .inl (k_o_rows, 54, .inr (.inl c_o_rows)))]) [1] (by decide) rfl
  have hKc := hK.sub (tys' := [(k_o_rows, .long)]) [0] rfl
  have hFc := va_free (wc := [(q_o_rows, .inl (k_o_rows, 54, .inr (.inl c_o_rows)))]) hD hS hA [1] rfl
  refine va_callv (pc := 10) (va_runS (As := [.ref q_o_rows, .long (0 : Int64)]) (rest := []) ⟨hx, hb, hml, hown, hts⟩ (ct_jArrays_fillJ l dC dI q_o_rows k_o_rows _ N 54 (0 : Int64) c_o_rows c_o_rows_10 hz) (va_cwS 2 hts (kw_in3 kw_220 kw_221 kw_14 kw_222) rfl rfl rfl (by decide +kernel) ⟨Nat.le_of_ble_eq_true rfl, Nat.le_of_ble_eq_true rfl⟩) (kx_pre hPc hKc hDc) rfl rfl hl.1 rfl (lv_room (Nat.le_of_ble_eq_true rfl)) d_xMatrices_startOver_10 ⟨Nat.le_of_ble_eq_true rfl, Nat.le_of_ble_eq_true rfl⟩) hS (fun q _ h => hFc q h) hFc (fun u t H1 locs ht hvm hw hB hz1 hk1 hS => ?_)
  obtain ⟨hP1, hK1, hD1⟩ := hB
  rw [ht] at hP1
  obtain ⟨hP, hD⟩ := va_join (wr := [(q_o, .inr (2, f_Matrices q_o_rows (0 : Int32)))]) (w1 := [(q_o_rows, .inl (k_o_rows, 54, .inr (.inl c_o_rows_10)))]) hP hD [1] [0] rfl rfl (by decide) (by decide) hk1 hFc hP1 hD1
  have hP := hP.sub (ws' := [(q_o, .inr (2, f_Matrices q_o_rows (0 : Int32))), (q_o_rows, .inl (k_o_rows, 54, .inr (.inl c_o_rows_10)))]) [0, 1] rfl
  have hD := hD.sub (ws' := [(q_o, .inr (2, f_Matrices q_o_rows (0 : Int32))), (q_o_rows, .inl (k_o_rows, 54, .inr (.inl c_o_rows_10)))]) [0, 1] (by decide) rfl
  clear hP1 hK1 hD1 hk1 hPc hDc hKc hFc hz1 hvm ht hz
  generalize H1 = H at hP hS ⊢
  refine lv_aload_n (pc := 13) hx hb d_xMatrices_startOver_13 rfl (lv_at hl 0 rfl) ?_
  refine va_get (pc := 14) (D := (dC, dI)) (ci := 2) (v := .ref q_o_rows) (C := "PathTexts$Matrices") (T := F_Matrices) (N := 2) hx hb hts (fun w h => List.mem_cons_of_mem _ (in_Matrices w h)) hown hK hP 0 rfl rfl 0 (by decide) (hts _ (List.mem_cons_of_mem _ kw_62)) (fun _ h9 => h9) fg_Matrices_0 d_xMatrices_startOver_14 ?_
  refine lv_iconst (pc := 17) (v := (0 : Int32)) hx hb d_xMatrices_startOver_17 (by decide) ?_
  refine lv_ldc2 (pc := 18) hx hb hown (hts _ (List.mem_cons_of_mem _ kw_223)) d_xMatrices_startOver_18 ?_
  refine kx_last (pc := 21) (ws' := [(q_o, .inr (2, f_Matrices q_o_rows (0 : Int32))), (q_o_rows, .inl (k_o_rows, 54, .inr (.inl (vp_updL c_o_rows_10 ((0 : Int32)).toNatClampNeg (256 : Int64)))))]) hx hb hK hP hD hS 1 0 rfl rfl (ki_in (by decide)) rfl d_xMatrices_startOver_21 (fun H locs hP hD hS => ?_)
  refine lv_aload_n (pc := 22) hx hb d_xMatrices_startOver_22 rfl (lv_at hl 0 rfl) ?_
  refine va_get (pc := 23) (D := (dC, dI)) (ci := 2) (v := .ref q_o_rows) (C := "PathTexts$Matrices") (T := F_Matrices) (N := 2) hx hb hts (fun w h => List.mem_cons_of_mem _ (in_Matrices w h)) hown hK hP 0 rfl rfl 0 (by decide) (hts _ (List.mem_cons_of_mem _ kw_62)) (fun _ h9 => h9) fg_Matrices_0 d_xMatrices_startOver_23 ?_
  refine lv_iconst (pc := 26) (v := (3 : Int32)) hx hb d_xMatrices_startOver_26 (by decide) ?_
  refine lv_ldc2 (pc := 27) hx hb hown (hts _ (List.mem_cons_of_mem _ kw_223)) d_xMatrices_startOver_27 ?_
  refine kx_last (pc := 30) (ws' := [(q_o, .inr (2, f_Matrices q_o_rows (0 : Int32))), (q_o_rows, .inl (k_o_rows, 54, .inr (.inl (vp_updL (vp_updL c_o_rows_10 ((0 : Int32)).toNatClampNeg (256 : Int64)) ((3 : Int32)).toNatClampNeg (256 : Int64)))))]) hx hb hK hP hD hS 1 0 rfl rfl (ki_in (by decide)) rfl d_xMatrices_startOver_30 (fun H locs hP hD hS => ?_)
  obtain ⟨e_0, e_1⟩ := kr2 hf
  exact hRet 31 _ _ _ d_xMatrices_startOver_31 (by rw [← e_0, ← e_1]; exact hP) (by rw [← e_0, ← e_1]; exact hD) hS
set_option maxHeartbeats 4000000 in
set_option maxRecDepth 100000 in
theorem ct_xMatrices_isFull (l : Launch) (dC : Nat → ClassId) (dI : Nat → Nat → Nat) (q_o : Nat) (q_o_rows : Nat) (sz : Nat) (v_o_depth : Int32) (rv : Int32) (hf : xMatrices_isFull v_o_depth = some rv) : Met l y_xMatrices_isFull w_xMatrices_isFull ({ frames := 0, cells := 0, slots := 0, locals := 0 }) (va_Pc [.ref q_o] (fun U => U.heap.size = sz ∧ va_P (dC, dI) clz [(q_o, .inr (2, f_Matrices q_o_rows v_o_depth))] U.heap ∧ va_K (dC, dI) clz [] U ∧ va_D (fun _ => True) [(q_o, .inr (2, f_Matrices q_o_rows v_o_depth))])) (va_Qi (fun (r9 : Int32) (_ : Unit) => r9 = rv) (fun _ t => va_P (dC, dI) clz [(q_o, .inr (2, f_Matrices q_o_rows v_o_depth))] t.heap ∧ va_K (dC, dI) clz [] t ∧ va_D (va_A [(q_o, .inr (2, f_Matrices q_o_rows v_o_depth))] sz) [(q_o, .inr (2, f_Matrices q_o_rows v_o_depth))]) (va_A [(q_o, .inr (2, f_Matrices q_o_rows v_o_depth))] sz)) 0 0 (va_A [(q_o, .inr (2, f_Matrices q_o_rows v_o_depth))] sz) := by
  refine Met.ofW (cc := prog_4_method_3_code) (maxL := 1) (ret := (some .boolean)) (by decide +kernel) rfl ?_
  intro p e s m args below meth c s₁ B hml hv
  obtain ⟨hargs, hsz, hP, hK, hD0⟩ := hv
  have hx := B.exec
  have hb := B.bytes
  have hr := B.returns
  have hts := atoms_spec (ws := w_xMatrices_isFull) B.pre
  have hown : s.vm.findClass "PathTexts$Matrices" = some m.cls := findClass_of_methodNamed B.named
  have hlocks := B.notSynchronized
  subst hsz
  have hD := hD0.self (sz := s.heap.size)
  generalize hAe : va_A [(q_o, .inr (2, f_Matrices q_o_rows v_o_depth))] s.heap.size = A at hD ⊢
  have hA : ∀ q : Nat, s.heap.size ≤ q → A q := fun q h => by rw [← hAe]; exact Or.inr h
  clear hAe hD0
  have hS : va_S A s.heap s.heap [] := va_S.rf
  have hl := lv_entry ([.ref q_o]) (n := 1) (Nat.le_of_ble_eq_true rfl)
  have hent : entryFrame m args 1 = F0 m 0 (lg_sl ([.ref q_o]) ++ List.replicate (1 - (lg_sl ([.ref q_o])).length) Slot.unset).toArray [] := by rw [hargs, lg_entry_eq]
  rw [hent]
  clear hent hargs
  generalize (lg_sl ([.ref q_o]) ++ List.replicate (1 - (lg_sl ([.ref q_o])).length) Slot.unset).toArray = ls at hl ⊢
  have hl : lv_has ls 1 [(0, .ref q_o)] := hl
  suffices key : ∀ Q : State → Prop, (∀ (hn9 : narrow .boolean (.int rv) = .int rv) (pc : Nat) (H : Heap) (locs : List Loc) (ls : Array Slot), decode prog_4_method_3_code pc = .ok (.ireturn, 1) → va_P (dC, dI) clz [(q_o, .inr (2, f_Matrices q_o_rows v_o_depth))] H → va_D A [(q_o, .inr (2, f_Matrices q_o_rows v_o_depth))] → va_S A s.heap H locs → W p l e (headSpec w_xMatrices_isFull ({ frames := 0, cells := 0, slots := 0, locals := 0 })).room s m args below meth c H locs 0 0 Q (F0 m pc ls [.int rv])) → W p l e (headSpec w_xMatrices_isFull ({ frames := 0, cells := 0, slots := 0, locals := 0 })).room s m args below meth c s.heap [] 0 0 Q (F0 m 0 ls []) from key _ (fun hn9 pc H locs ls hd hP hD hS => W.zret hx hb hr hn9 (fun t ht hW => ⟨⟨rv, (), rfl, rfl, by rw [ht]; exact hP, va_K.moved hW.alike hK, hD⟩, hS.F ht⟩) hS.2.2 hd)
  intro Q hRet
  rw [xMatrices_isFull] at hf
  refine lv_aload_n (pc := 0) hx hb d_xMatrices_isFull_0 rfl (lv_at hl 0 rfl) ?_
  refine va_get (pc := 1) (D := (dC, dI)) (ci := 2) (v := .int v_o_depth) (C := "PathTexts$Matrices") (T := F_Matrices) (N := 2) hx hb hts (fun w h => List.mem_cons_of_mem _ (in_Matrices w h)) hown hK hP 0 rfl rfl 1 (by decide) (hts _ (List.mem_cons_of_mem _ kw_63)) (fun _ h9 => h9) fg_Matrices_1 d_xMatrices_isFull_1 ?_
  refine lv_if_lt (pc := 4) (tgt := 16) hx hb d_xMatrices_isFull_4 (by decide) (fun hc => ?_) (fun hc => ?_)
  · rw [if_pos hc] at hf
    refine lv_iconst (pc := 16) (v := (1 : Int32)) hx hb d_xMatrices_isFull_16 (by decide) ?_
    refine lv_goto (pc := 17) (tgt := 21) hx hb d_xMatrices_isFull_17 (by decide) ?_
    have e_0 := kr1 hf
    rw [e_0]
    exact hRet (by rw [← e_0]; exact (by decide)) 21 _ _ _ d_xMatrices_isFull_21 hP hD hS
  · rw [if_neg hc] at hf
    refine lv_aload_n (pc := 7) hx hb d_xMatrices_isFull_7 rfl (lv_at hl 0 rfl) ?_
    refine va_get (pc := 8) (D := (dC, dI)) (ci := 2) (v := .int v_o_depth) (C := "PathTexts$Matrices") (T := F_Matrices) (N := 2) hx hb hts (fun w h => List.mem_cons_of_mem _ (in_Matrices w h)) hown hK hP 0 rfl rfl 1 (by decide) (hts _ (List.mem_cons_of_mem _ kw_63)) (fun _ h9 => h9) fg_Matrices_1 d_xMatrices_isFull_8 ?_
    refine lv_bipush (pc := 11) (v := (8 : Int32)) hx hb d_xMatrices_isFull_11 (by decide) ?_
    refine lv_icmp_lt (pc := 13) (tgt := 20) hx hb d_xMatrices_isFull_13 (by decide) (fun hc => ?_) (fun hc => ?_)
    · rw [if_pos hc] at hf
      refine lv_iconst (pc := 20) (v := (0 : Int32)) hx hb d_xMatrices_isFull_20 (by decide) ?_
      have e_0 := kr1 hf
      rw [e_0]
      exact hRet (by rw [← e_0]; exact (by decide)) 21 _ _ _ d_xMatrices_isFull_21 hP hD hS
    · rw [if_neg hc] at hf
      refine lv_iconst (pc := 16) (v := (1 : Int32)) hx hb d_xMatrices_isFull_16 (by decide) ?_
      refine lv_goto (pc := 17) (tgt := 21) hx hb d_xMatrices_isFull_17 (by decide) ?_
      have e_0 := kr1 hf
      rw [e_0]
      exact hRet (by rw [← e_0]; exact (by decide)) 21 _ _ _ d_xMatrices_isFull_21 hP hD hS
set_option maxHeartbeats 4000000 in
set_option maxRecDepth 100000 in
theorem ct_xMatrices_shut (l : Launch) (dC : Nat → ClassId) (dI : Nat → Nat → Nat) (q_o : Nat) (q_o_rows : Nat) (sz : Nat) (v_o_depth : Int32) (rv : Int32) (v_o_depth_z : Int32) (hf : xMatrices_shut v_o_depth = some (rv, v_o_depth_z)) : Met l y_xMatrices_shut w_xMatrices_shut ({ frames := 0, cells := 0, slots := 0, locals := 0 }) (va_Pc [.ref q_o] (fun U => U.heap.size = sz ∧ va_P (dC, dI) clz [(q_o, .inr (2, f_Matrices q_o_rows v_o_depth))] U.heap ∧ va_K (dC, dI) clz [] U ∧ va_D (fun _ => True) [(q_o, .inr (2, f_Matrices q_o_rows v_o_depth))])) (va_Qi (fun (r9 : Int32) (_ : Unit) => r9 = rv) (fun _ t => va_P (dC, dI) clz [(q_o, .inr (2, f_Matrices q_o_rows v_o_depth_z))] t.heap ∧ va_K (dC, dI) clz [] t ∧ va_D (va_A [(q_o, .inr (2, f_Matrices q_o_rows v_o_depth))] sz) [(q_o, .inr (2, f_Matrices q_o_rows v_o_depth_z))]) (va_A [(q_o, .inr (2, f_Matrices q_o_rows v_o_depth))] sz)) 0 0 (va_A [(q_o, .inr (2, f_Matrices q_o_rows v_o_depth))] sz) := by
  refine Met.ofW (cc := prog_4_method_5_code) (maxL := 1) (ret := (some .boolean)) (by decide +kernel) rfl ?_
  intro p e s m args below meth c s₁ B hml hv
  obtain ⟨hargs, hsz, hP, hK, hD0⟩ := hv
  have hx := B.exec
  have hb := B.bytes
  have hr := B.returns
  have hts := atoms_spec (ws := w_xMatrices_shut) B.pre
  have hown : s.vm.findClass "PathTexts$Matrices" = some m.cls := findClass_of_methodNamed B.named
  have hlocks := B.notSynchronized
  subst hsz
  have hD := hD0.self (sz := s.heap.size)
  generalize hAe : va_A [(q_o, .inr (2, f_Matrices q_o_rows v_o_depth))] s.heap.size = A at hD ⊢
  have hA : ∀ q : Nat, s.heap.size ≤ q → A q := fun q h => by rw [← hAe]; exact Or.inr h
  clear hAe hD0
  have hS : va_S A s.heap s.heap [] := va_S.rf
  have hl := lv_entry ([.ref q_o]) (n := 1) (Nat.le_of_ble_eq_true rfl)
  have hent : entryFrame m args 1 = F0 m 0 (lg_sl ([.ref q_o]) ++ List.replicate (1 - (lg_sl ([.ref q_o])).length) Slot.unset).toArray [] := by rw [hargs, lg_entry_eq]
  rw [hent]
  clear hent hargs
  generalize (lg_sl ([.ref q_o]) ++ List.replicate (1 - (lg_sl ([.ref q_o])).length) Slot.unset).toArray = ls at hl ⊢
  have hl : lv_has ls 1 [(0, .ref q_o)] := hl
  suffices key : ∀ Q : State → Prop, (∀ (hn9 : narrow .boolean (.int rv) = .int rv) (pc : Nat) (H : Heap) (locs : List Loc) (ls : Array Slot), decode prog_4_method_5_code pc = .ok (.ireturn, 1) → va_P (dC, dI) clz [(q_o, .inr (2, f_Matrices q_o_rows v_o_depth_z))] H → va_D A [(q_o, .inr (2, f_Matrices q_o_rows v_o_depth_z))] → va_S A s.heap H locs → W p l e (headSpec w_xMatrices_shut ({ frames := 0, cells := 0, slots := 0, locals := 0 })).room s m args below meth c H locs 0 0 Q (F0 m pc ls [.int rv])) → W p l e (headSpec w_xMatrices_shut ({ frames := 0, cells := 0, slots := 0, locals := 0 })).room s m args below meth c s.heap [] 0 0 Q (F0 m 0 ls []) from key _ (fun hn9 pc H locs ls hd hP hD hS => W.zret hx hb hr hn9 (fun t ht hW => ⟨⟨rv, (), rfl, rfl, by rw [ht]; exact hP, va_K.moved hW.alike hK, hD⟩, hS.F ht⟩) hS.2.2 hd)
  intro Q hRet
  rw [xMatrices_shut] at hf
  refine lv_aload_n (pc := 0) hx hb d_xMatrices_shut_0 rfl (lv_at hl 0 rfl) ?_
  refine va_get (pc := 1) (D := (dC, dI)) (ci := 2) (v := .int v_o_depth) (C := "PathTexts$Matrices") (T := F_Matrices) (N := 2) hx hb hts (fun w h => List.mem_cons_of_mem _ (in_Matrices w h)) hown hK hP 0 rfl rfl 1 (by decide) (hts _ (List.mem_cons_of_mem _ kw_63)) (fun _ h9 => h9) fg_Matrices_1 d_xMatrices_shut_1 ?_
  refine lv_if_gt (pc := 4) (tgt := 9) hx hb d_xMatrices_shut_4 (by decide) (fun hc => ?_) (fun hc => ?_)
  · rw [if_pos hc] at hf
    refine lv_aload_n (pc := 9) hx hb d_xMatrices_shut_9 rfl (lv_at hl 0 rfl) ?_
    refine lv_dup (pc := 10) hx hb d_xMatrices_shut_10 rfl ?_
    refine va_get (pc := 11) (D := (dC, dI)) (ci := 2) (v := .int v_o_depth) (C := "PathTexts$Matrices") (T := F_Matrices) (N := 2) hx hb hts (fun w h => List.mem_cons_of_mem _ (in_Matrices w h)) hown hK hP 0 rfl rfl 1 (by decide) (hts _ (List.mem_cons_of_mem _ kw_63)) (fun _ h9 => h9) fg_Matrices_1 d_xMatrices_shut_11 ?_
    refine lv_iconst (pc := 14) (v := (1 : Int32)) hx hb d_xMatrices_shut_14 (by decide) ?_
    refine lv_isub (pc := 15) hx hb d_xMatrices_shut_15 ?_
    refine kx_put (pc := 16) (D := (dC, dI)) (ci := 2) (v := .int (v_o_depth - (1 : Int32))) (ty := .int) (C := "PathTexts$Matrices") (T := F_Matrices) (N := 2) hx hb hts (fun w h => List.mem_cons_of_mem _ (in_Matrices w h)) t_Matrices tk_Matrices n_Matrices hown hK hP hD hS 0 rfl rfl 1 (by decide) (hts _ (List.mem_cons_of_mem _ kw_63)) (fun _ h9 => h9) rfl (tk_Matrices 1 (by decide)) rfl rfl fl_Matrices_1 fs_Matrices_1 (ws' := [(q_o, .inr (2, f_Matrices q_o_rows (v_o_depth - (1 : Int32))))]) rfl d_xMatrices_shut_16 (fun H locs hP hD hS => ?_)
    refine lv_iconst (pc := 19) (v := (1 : Int32)) hx hb d_xMatrices_shut_19 (by decide) ?_
    obtain ⟨e_0, e_1⟩ := kr2 hf
    rw [e_0]
    exact hRet (by rw [← e_0]; exact (by decide)) 20 _ _ _ d_xMatrices_shut_20 (by rw [← e_1]; exact hP) (by rw [← e_1]; exact hD) hS
  · rw [if_neg hc] at hf
    refine lv_iconst (pc := 7) (v := (0 : Int32)) hx hb d_xMatrices_shut_7 (by decide) ?_
    obtain ⟨e_0, e_1⟩ := kr2 hf
    rw [e_0]
    exact hRet (by rw [← e_0]; exact (by decide)) 8 _ _ _ d_xMatrices_shut_8 (by rw [← e_1]; exact hP) (by rw [← e_1]; exact hD) hS
set_option maxHeartbeats 4000000 in
set_option maxRecDepth 100000 in
theorem ct_xMatrices_across (l : Launch) (dC : Nat → ClassId) (dI : Nat → Nat → Nat) (q_o : Nat) (q_o_rows : Nat) (k_o_rows : ClassId) (sz : Nat) (tt : Nat) (x1 : Int64) (x3 : Int64) (x5 : Int32) (x6 : Int32) (v_o_depth : Int32) (c_o_rows : (Nat → Int64)) (rv : Int64) (hf : xMatrices_across x1 x3 x5 x6 v_o_depth c_o_rows = some rv) : Met l y_xMatrices_across w_xMatrices_across ({ frames := 2, cells := 0, slots := 0, locals := 48 }) (va_Pc [.ref q_o, .long x1, .long x3, .int x5, .int x6] (fun U => U.heap.size = sz ∧ va_P (dC, dI) clz [(q_o, .inr (2, f_Matrices q_o_rows v_o_depth)), (q_o_rows, .inl (k_o_rows, 54, .inr (.inl c_o_rows)))] U.heap ∧ va_K (dC, dI) clz [(k_o_rows, .long)] U ∧ va_D (fun _ => True) [(q_o, .inr (2, f_Matrices q_o_rows v_o_depth)), (q_o_rows, .inl (k_o_rows, 54, .inr (.inl c_o_rows)))] ∧ ke tt (va_A [(q_o, .inr (2, f_Matrices q_o_rows v_o_depth)), (q_o_rows, .inl (k_o_rows, 54, .inr (.inl c_o_rows)))] sz) U)) (va_Ql (fun (r9 : Int64) (_ : Unit) => r9 = rv) (fun _ t => va_P (dC, dI) clz [(q_o, .inr (2, f_Matrices q_o_rows v_o_depth)), (q_o_rows, .inl (k_o_rows, 54, .inr (.inl c_o_rows)))] t.heap ∧ va_K (dC, dI) clz [(k_o_rows, .long)] t ∧ va_D (va_A [(q_o, .inr (2, f_Matrices q_o_rows v_o_depth)), (q_o_rows, .inl (k_o_rows, 54, .inr (.inl c_o_rows)))] sz) [(q_o, .inr (2, f_Matrices q_o_rows v_o_depth)), (q_o_rows, .inl (k_o_rows, 54, .inr (.inl c_o_rows)))]) (va_A [(q_o, .inr (2, f_Matrices q_o_rows v_o_depth)), (q_o_rows, .inl (k_o_rows, 54, .inr (.inl c_o_rows)))] sz)) 0 0 (va_A [(q_o, .inr (2, f_Matrices q_o_rows v_o_depth)), (q_o_rows, .inl (k_o_rows, 54, .inr (.inl c_o_rows)))] sz) := by
  refine Met.ofW (cc := prog_4_method_6_code) (maxL := 10) (ret := (some .long)) (by decide +kernel) rfl ?_
  intro p e s m args below meth c s₁ B hml hv
  obtain ⟨hargs, hsz, hP, hK, hD0, hE⟩ := hv
  have hx := B.exec
  have hb := B.bytes
  have hr := B.returns
  have hts := atoms_spec (ws := w_xMatrices_across) B.pre
  have hown : s.vm.findClass "PathTexts$Matrices" = some m.cls := findClass_of_methodNamed B.named
  have hlocks := B.notSynchronized
  subst hsz
  have hD := hD0.self (sz := s.heap.size)
  generalize hAe : va_A [(q_o, .inr (2, f_Matrices q_o_rows v_o_depth)), (q_o_rows, .inl (k_o_rows, 54, .inr (.inl c_o_rows)))] s.heap.size = A at hD hE ⊢
  have hA : ∀ q : Nat, s.heap.size ≤ q → A q := fun q h => by rw [← hAe]; exact Or.inr h
  clear hAe hD0
  have hS : va_S A s.heap s.heap [] := va_S.rf
  have hl := lv_entry ([.ref q_o, .long x1, .long x3, .int x5, .int x6]) (n := 10) (Nat.le_of_ble_eq_true rfl)
  have hent : entryFrame m args 10 = F0 m 0 (lg_sl ([.ref q_o, .long x1, .long x3, .int x5, .int x6]) ++ List.replicate (10 - (lg_sl ([.ref q_o, .long x1, .long x3, .int x5, .int x6])).length) Slot.unset).toArray [] := by rw [hargs, lg_entry_eq]
  rw [hent]
  clear hent hargs
  generalize (lg_sl ([.ref q_o, .long x1, .long x3, .int x5, .int x6]) ++ List.replicate (10 - (lg_sl ([.ref q_o, .long x1, .long x3, .int x5, .int x6])).length) Slot.unset).toArray = ls at hl ⊢
  have hl : lv_has ls 10 [(0, .ref q_o), (1, .long x1), (3, .long x3), (5, .int x5), (6, .int x6)] := hl
  suffices key : ∀ Q : State → Prop, (∀ (pc : Nat) (H : Heap) (locs : List Loc) (ls : Array Slot), decode prog_4_method_6_code pc = .ok (.lreturn, 1) → va_P (dC, dI) clz [(q_o, .inr (2, f_Matrices q_o_rows v_o_depth)), (q_o_rows, .inl (k_o_rows, 54, .inr (.inl c_o_rows)))] H → va_D A [(q_o, .inr (2, f_Matrices q_o_rows v_o_depth)), (q_o_rows, .inl (k_o_rows, 54, .inr (.inl c_o_rows)))] → va_S A s.heap H locs → W p l e (headSpec w_xMatrices_across ({ frames := 2, cells := 0, slots := 0, locals := 48 })).room s m args below meth c H locs 0 0 Q (F0 m pc ls [.long rv])) → W p l e (headSpec w_xMatrices_across ({ frames := 2, cells := 0, slots := 0, locals := 48 })).room s m args below meth c s.heap [] 0 0 Q (F0 m 0 ls []) from key _ (fun pc H locs ls hd hP hD hS => W.lret hx hb hr (fun t ht hW => ⟨⟨rv, (), rfl, rfl, by rw [ht]; exact hP, va_K.moved hW.alike hK, hD⟩, hS.F ht⟩) hS.2.2 hd)
  intro Q hRet
  rw [xMatrices_across] at hf
  refine lv_aload_n (pc := 0) hx hb d_xMatrices_across_0 rfl (lv_at hl 0 rfl) ?_
  refine va_get (pc := 1) (D := (dC, dI)) (ci := 2) (v := .int v_o_depth) (C := "PathTexts$Matrices") (T := F_Matrices) (N := 2) hx hb hts (fun w h => List.mem_cons_of_mem _ (in_Matrices w h)) hown hK hP 0 rfl rfl 1 (by decide) (hts _ (List.mem_cons_of_mem _ kw_63)) (fun _ h9 => h9) fg_Matrices_1 d_xMatrices_across_1 ?_
  refine lv_bipush (pc := 4) (v := (6 : Int32)) hx hb d_xMatrices_across_4 (by decide) ?_
  refine lv_imul (pc := 6) hx hb d_xMatrices_across_6 ?_
  refine lv_iload (pc := 7) hx hb d_xMatrices_across_7 (lv_at hl 3 rfl) ?_
  refine lv_iadd (pc := 9) hx hb d_xMatrices_across_9 ?_
  refine lv_istore (pc := 10) (lv' := [(7, .int ((v_o_depth * (6 : Int32)) + x5)), (0, .ref q_o), (1, .long x1), (3, .long x3), (5, .int x5), (6, .int x6)]) hx hb d_xMatrices_across_10 hl (by decide) rfl (fun ls hl => ?_)
  refine lv_iload (pc := 12) hx hb d_xMatrices_across_12 (lv_at hl 0 rfl) ?_
  refine lv_if_lt (pc := 14) (tgt := 29) hx hb d_xMatrices_across_14 (by decide) (fun hc => ?_) (fun hc => ?_)
  · rw [if_pos hc] at hf
    refine lv_lconst (pc := 29) (v := (0 : Int64)) hx hb d_xMatrices_across_29 (by decide) ?_
    have e_0 := kr1 hf
    rw [e_0]
    exact hRet 30 _ _ _ d_xMatrices_across_30 hP hD hS
  · rw [if_neg hc] at hf
    refine lv_iload (pc := 17) hx hb d_xMatrices_across_17 (lv_at hl 0 rfl) ?_
    refine lv_iconst (pc := 19) (v := (4 : Int32)) hx hb d_xMatrices_across_19 (by decide) ?_
    refine lv_iadd (pc := 20) hx hb d_xMatrices_across_20 ?_
    refine lv_aload_n (pc := 21) hx hb d_xMatrices_across_21 rfl (lv_at hl 1 rfl) ?_
    refine va_get (pc := 22) (D := (dC, dI)) (ci := 2) (v := .ref q_o_rows) (C := "PathTexts$Matrices") (T := F_Matrices) (N := 2) hx hb hts (fun w h => List.mem_cons_of_mem _ (in_Matrices w h)) hown hK hP 0 rfl rfl 0 (by decide) (hts _ (List.mem_cons_of_mem _ kw_62)) (fun _ h9 => h9) fg_Matrices_0 d_xMatrices_across_22 ?_
    refine va_alen (pc := 25) hx hb hK hP 1 0 rfl rfl (v := (54 : Int32)) rfl d_xMatrices_across_25 ?_
    refine lv_icmp_lt (pc := 26) (tgt := 31) hx hb d_xMatrices_across_26 (by decide) (fun hc => ?_) (fun hc => ?_)
    · rw [if_pos hc] at hf
      refine lv_aload_n (pc := 31) hx hb d_xMatrices_across_31 rfl (lv_at hl 1 rfl) ?_
      refine va_get (pc := 32) (D := (dC, dI)) (ci := 2) (v := .ref q_o_rows) (C := "PathTexts$Matrices") (T := F_Matrices) (N := 2) hx hb hts (fun w h => List.mem_cons_of_mem _ (in_Matrices w h)) hown hK hP 0 rfl rfl 0 (by decide) (hts _ (List.mem_cons_of_mem _ kw_62)) (fun _ h9 => h9) fg_Matrices_0 d_xMatrices_across_32 ?_
      refine lv_iload (pc := 35) hx hb d_xMatrices_across_35 (lv_at hl 0 rfl) ?_
      obtain ⟨hg1, hf⟩ := kg_some hf
      refine va_lald (pc := 37) hx hb hK hP 1 0 rfl rfl (ki_in hg1) d_xMatrices_across_37 ?_
      refine lv_lload_n (pc := 38) hx hb d_xMatrices_across_38 rfl (lv_at hl 2 rfl) ?_
      refine lv_lmul (pc := 39) hx hb d_xMatrices_across_39 ?_
      refine lv_aload_n (pc := 40) hx hb d_xMatrices_across_40 rfl (lv_at hl 1 rfl) ?_
      refine va_get (pc := 41) (D := (dC, dI)) (ci := 2) (v := .ref q_o_rows) (C := "PathTexts$Matrices") (T := F_Matrices) (N := 2) hx hb hts (fun w h => List.mem_cons_of_mem _ (in_Matrices w h)) hown hK hP 0 rfl rfl 0 (by decide) (hts _ (List.mem_cons_of_mem _ kw_62)) (fun _ h9 => h9) fg_Matrices_0 d_xMatrices_across_41 ?_
      refine lv_iload (pc := 44) hx hb d_xMatrices_across_44 (lv_at hl 0 rfl) ?_
      refine lv_iconst (pc := 46) (v := (2 : Int32)) hx hb d_xMatrices_across_46 (by decide) ?_
      refine lv_iadd (pc := 47) hx hb d_xMatrices_across_47 ?_
      obtain ⟨hg2, hf⟩ := kg_some hf
      refine va_lald (pc := 48) hx hb hK hP 1 0 rfl rfl (ki_in hg2) d_xMatrices_across_48 ?_
      refine lv_lload_n (pc := 49) hx hb d_xMatrices_across_49 rfl (lv_at hl 3 rfl) ?_
      refine lv_lmul (pc := 50) hx hb d_xMatrices_across_50 ?_
      refine lv_ladd (pc := 51) hx hb d_xMatrices_across_51 ?_
      refine lv_ldc2 (pc := 52) hx hb hown (hts _ (List.mem_cons_of_mem _ kw_223)) d_xMatrices_across_52 ?_
      obtain ⟨r55, hz, hf⟩ := kb1_some hf
      have hPc := hP.sub (ws' := []) [] rfl
      have hDc := hD.sub (ws' := []) [] (by decide) rfl
      have hKc := hK.sub (tys' := []) [] rfl
      have hFc := va_free (wc := []) hD hS hA [] rfl
      refine va_calll (pc := 55) (va_runSN (As := [.long (((c_o_rows (((v_o_depth * (6 : Int32)) + x5)).toNatClampNeg) * x1) + ((c_o_rows ((((v_o_depth * (6 : Int32)) + x5) + (2 : Int32))).toNatClampNeg) * x3)), .long (256 : Int64)]) (rest := []) ⟨hx, hb, hml, hown, hts⟩ (ct_xP_nearest l dC dI _ (((c_o_rows (((v_o_depth * (6 : Int32)) + x5)).toNatClampNeg) * x1) + ((c_o_rows ((((v_o_depth * (6 : Int32)) + x5) + (2 : Int32))).toNatClampNeg) * x3)) (256 : Int64) r55 hz) ⟨va_cnB 2 hts (kw_in kw_265) rfl rfl rfl (hE.1 _ kn_7) (hts _ (List.mem_cons_of_mem _ kw_1)) (by decide +kernel) ⟨Nat.le_of_ble_eq_true rfl, Nat.le_of_ble_eq_true rfl⟩, hts _ (List.mem_cons_of_mem _ kw_264), trivial⟩ (kx_pre hPc hKc hDc) rfl rfl hl.1 rfl (lv_room (Nat.le_of_ble_eq_true rfl)) d_xMatrices_across_55 ⟨Nat.le_of_ble_eq_true rfl, Nat.le_of_ble_eq_true rfl⟩) hS (fun q _ h => hFc q h) hFc (fun r9 u t H1 locs ht hvm hw hB hz1 hk1 hS => ?_)
      obtain ⟨hP1, hK1, hD1⟩ := hB
      rw [ht] at hP1
      have hw := hw.symm
      subst hw
      obtain ⟨hP, hD⟩ := va_join (wr := [(q_o, .inr (2, f_Matrices q_o_rows v_o_depth)), (q_o_rows, .inl (k_o_rows, 54, .inr (.inl c_o_rows)))]) (w1 := []) hP hD [] [0, 1] rfl rfl (by decide) (by decide) hk1 hFc hP1 hD1
      have hP := hP.sub (ws' := [(q_o, .inr (2, f_Matrices q_o_rows v_o_depth)), (q_o_rows, .inl (k_o_rows, 54, .inr (.inl c_o_rows)))]) [0, 1] rfl
      have hD := hD.sub (ws' := [(q_o, .inr (2, f_Matrices q_o_rows v_o_depth)), (q_o_rows, .inl (k_o_rows, 54, .inr (.inl c_o_rows)))]) [0, 1] (by decide) rfl
      clear hP1 hK1 hD1 hk1 hPc hDc hKc hFc hz1 hvm ht hz
      generalize H1 = H at hP hS ⊢
      refine lv_lstore (pc := 58) (lv' := [(8, .long r55), (7, .int ((v_o_depth * (6 : Int32)) + x5)), (0, .ref q_o), (1, .long x1), (3, .long x3), (5, .int x5), (6, .int x6)]) hx hb d_xMatrices_across_58 hl (by decide) rfl (fun ls hl => ?_)
      refine lv_iload (pc := 60) hx hb d_xMatrices_across_60 (lv_at hl 6 rfl) ?_
      refine lv_if_eq (pc := 62) (tgt := 80) hx hb d_xMatrices_across_62 (by decide) (fun hc => ?_) (fun hc => ?_)
      · rw [if_pos hc] at hf
        refine lv_lload (pc := 80) hx hb d_xMatrices_across_80 (lv_at hl 0 rfl) ?_
        have e_0 := kr1 hf
        rw [e_0]
        exact hRet 82 _ _ _ d_xMatrices_across_82 hP hD hS
      · rw [if_neg hc] at hf
        refine lv_lload (pc := 65) hx hb d_xMatrices_across_65 (lv_at hl 0 rfl) ?_
        refine lv_aload_n (pc := 67) hx hb d_xMatrices_across_67 rfl (lv_at hl 2 rfl) ?_
        refine va_get (pc := 68) (D := (dC, dI)) (ci := 2) (v := .ref q_o_rows) (C := "PathTexts$Matrices") (T := F_Matrices) (N := 2) hx hb hts (fun w h => List.mem_cons_of_mem _ (in_Matrices w h)) hown hK hP 0 rfl rfl 0 (by decide) (hts _ (List.mem_cons_of_mem _ kw_62)) (fun _ h9 => h9) fg_Matrices_0 d_xMatrices_across_68 ?_
        refine lv_iload (pc := 71) hx hb d_xMatrices_across_71 (lv_at hl 1 rfl) ?_
        refine lv_iconst (pc := 73) (v := (4 : Int32)) hx hb d_xMatrices_across_73 (by decide) ?_
        refine lv_iadd (pc := 74) hx hb d_xMatrices_across_74 ?_
        obtain ⟨hg3, hf⟩ := kg_some hf
        refine va_lald (pc := 75) hx hb hK hP 1 0 rfl rfl (ki_in hg3) d_xMatrices_across_75 ?_
        refine lv_ladd (pc := 76) hx hb d_xMatrices_across_76 ?_
        refine lv_goto (pc := 77) (tgt := 82) hx hb d_xMatrices_across_77 (by decide) ?_
        have e_0 := kr1 hf
        rw [e_0]
        exact hRet 82 _ _ _ d_xMatrices_across_82 hP hD hS
    · rw [if_neg hc] at hf
      refine lv_lconst (pc := 29) (v := (0 : Int64)) hx hb d_xMatrices_across_29 (by decide) ?_
      have e_0 := kr1 hf
      rw [e_0]
      exact hRet 30 _ _ _ d_xMatrices_across_30 hP hD hS
set_option maxHeartbeats 4000000 in
set_option maxRecDepth 100000 in
theorem ct_xPen_standAtZero (l : Launch) (dC : Nat → ClassId) (dI : Nat → Nat → Nat) (q_o : Nat) (q_o_matrices : Nat) (q_o_points : Nat) (q_o_drawn : Nat) (sz : Nat) (v_o_x : Int64) (v_o_y : Int64) (v_o_startX : Int64) (v_o_startY : Int64) (v_o_controlX : Int64) (v_o_controlY : Int64) (v_o_controlFor : Int32) (v_o_x_z : Int64) (v_o_y_z : Int64) (v_o_controlFor_z : Int32) (hf : xPen_standAtZero = some (v_o_x_z, v_o_y_z, v_o_controlFor_z)) : Met l y_xPen_standAtZero w_xPen_standAtZero ({ frames := 0, cells := 0, slots := 0, locals := 0 }) (va_Pc [.ref q_o] (fun U => U.heap.size = sz ∧ va_P (dC, dI) clz [(q_o, .inr (3, f_Pen q_o_matrices q_o_points q_o_drawn v_o_x v_o_y v_o_startX v_o_startY v_o_controlX v_o_controlY v_o_controlFor))] U.heap ∧ va_K (dC, dI) clz [] U ∧ va_D (fun _ => True) [(q_o, .inr (3, f_Pen q_o_matrices q_o_points q_o_drawn v_o_x v_o_y v_o_startX v_o_startY v_o_controlX v_o_controlY v_o_controlFor))])) (va_Qv (fun _ : Unit => True) (fun _ t => va_P (dC, dI) clz [(q_o, .inr (3, f_Pen q_o_matrices q_o_points q_o_drawn v_o_x_z v_o_y_z v_o_startX v_o_startY v_o_controlX v_o_controlY v_o_controlFor_z))] t.heap ∧ va_K (dC, dI) clz [] t ∧ va_D (va_A [(q_o, .inr (3, f_Pen q_o_matrices q_o_points q_o_drawn v_o_x v_o_y v_o_startX v_o_startY v_o_controlX v_o_controlY v_o_controlFor))] sz) [(q_o, .inr (3, f_Pen q_o_matrices q_o_points q_o_drawn v_o_x_z v_o_y_z v_o_startX v_o_startY v_o_controlX v_o_controlY v_o_controlFor_z))]) (va_A [(q_o, .inr (3, f_Pen q_o_matrices q_o_points q_o_drawn v_o_x v_o_y v_o_startX v_o_startY v_o_controlX v_o_controlY v_o_controlFor))] sz)) 0 0 (va_A [(q_o, .inr (3, f_Pen q_o_matrices q_o_points q_o_drawn v_o_x v_o_y v_o_startX v_o_startY v_o_controlX v_o_controlY v_o_controlFor))] sz) := by
  refine Met.ofW (cc := prog_5_method_2_code) (maxL := 1) (ret := none) (by decide +kernel) rfl ?_
  intro p e s m args below meth c s₁ B hml hv
  obtain ⟨hargs, hsz, hP, hK, hD0⟩ := hv
  have hx := B.exec
  have hb := B.bytes
  have hr := B.returns
  have hts := atoms_spec (ws := w_xPen_standAtZero) B.pre
  have hown : s.vm.findClass "PathTexts$Pen" = some m.cls := findClass_of_methodNamed B.named
  have hlocks := B.notSynchronized
  subst hsz
  have hD := hD0.self (sz := s.heap.size)
  generalize hAe : va_A [(q_o, .inr (3, f_Pen q_o_matrices q_o_points q_o_drawn v_o_x v_o_y v_o_startX v_o_startY v_o_controlX v_o_controlY v_o_controlFor))] s.heap.size = A at hD ⊢
  have hA : ∀ q : Nat, s.heap.size ≤ q → A q := fun q h => by rw [← hAe]; exact Or.inr h
  clear hAe hD0
  have hS : va_S A s.heap s.heap [] := va_S.rf
  have hl := lv_entry ([.ref q_o]) (n := 1) (Nat.le_of_ble_eq_true rfl)
  have hent : entryFrame m args 1 = F0 m 0 (lg_sl ([.ref q_o]) ++ List.replicate (1 - (lg_sl ([.ref q_o])).length) Slot.unset).toArray [] := by rw [hargs, lg_entry_eq]
  rw [hent]
  clear hent hargs
  generalize (lg_sl ([.ref q_o]) ++ List.replicate (1 - (lg_sl ([.ref q_o])).length) Slot.unset).toArray = ls at hl ⊢
  have hl : lv_has ls 1 [(0, .ref q_o)] := hl
  suffices key : ∀ Q : State → Prop, (∀ (pc : Nat) (H : Heap) (locs : List Loc) (ls : Array Slot), decode prog_5_method_2_code pc = .ok (.return_, 1) → va_P (dC, dI) clz [(q_o, .inr (3, f_Pen q_o_matrices q_o_points q_o_drawn v_o_x_z v_o_y_z v_o_startX v_o_startY v_o_controlX v_o_controlY v_o_controlFor_z))] H → va_D A [(q_o, .inr (3, f_Pen q_o_matrices q_o_points q_o_drawn v_o_x_z v_o_y_z v_o_startX v_o_startY v_o_controlX v_o_controlY v_o_controlFor_z))] → va_S A s.heap H locs → W p l e (headSpec w_xPen_standAtZero ({ frames := 0, cells := 0, slots := 0, locals := 0 })).room s m args below meth c H locs 0 0 Q (F0 m pc ls [])) → W p l e (headSpec w_xPen_standAtZero ({ frames := 0, cells := 0, slots := 0, locals := 0 })).room s m args below meth c s.heap [] 0 0 Q (F0 m 0 ls []) from key _ (fun pc H locs ls hd hP hD hS => W.vret hx hb hr (fun t ht hW => ⟨⟨(), rfl, trivial, by rw [ht]; exact hP, va_K.moved hW.alike hK, hD⟩, hS.F ht⟩) hS.2.2 hd)
  intro Q hRet
  rw [xPen_standAtZero] at hf
  refine lv_aload_n (pc := 0) hx hb d_xPen_standAtZero_0 rfl (lv_at hl 0 rfl) ?_
  refine lv_lconst (pc := 1) (v := (0 : Int64)) hx hb d_xPen_standAtZero_1 (by decide) ?_
  refine kx_put (pc := 2) (D := (dC, dI)) (ci := 3) (v := .long (0 : Int64)) (ty := .long) (C := "PathTexts$Pen") (T := F_Pen) (N := 10) hx hb hts (fun w h => List.mem_cons_of_mem _ (in_Pen w h)) t_Pen tk_Pen n_Pen hown hK hP hD hS 0 rfl rfl 3 (by decide) (hts _ (List.mem_cons_of_mem _ kw_75)) (fun _ h9 => h9) rfl (tk_Pen 3 (by decide)) rfl rfl fl_Pen_3 fs_Pen_3 (ws' := [(q_o, .inr (3, f_Pen q_o_matrices q_o_points q_o_drawn (0 : Int64) v_o_y v_o_startX v_o_startY v_o_controlX v_o_controlY v_o_controlFor))]) rfl d_xPen_standAtZero_2 (fun H locs hP hD hS => ?_)
  refine lv_aload_n (pc := 5) hx hb d_xPen_standAtZero_5 rfl (lv_at hl 0 rfl) ?_
  refine lv_lconst (pc := 6) (v := (0 : Int64)) hx hb d_xPen_standAtZero_6 (by decide) ?_
  refine kx_put (pc := 7) (D := (dC, dI)) (ci := 3) (v := .long (0 : Int64)) (ty := .long) (C := "PathTexts$Pen") (T := F_Pen) (N := 10) hx hb hts (fun w h => List.mem_cons_of_mem _ (in_Pen w h)) t_Pen tk_Pen n_Pen hown hK hP hD hS 0 rfl rfl 4 (by decide) (hts _ (List.mem_cons_of_mem _ kw_76)) (fun _ h9 => h9) rfl (tk_Pen 4 (by decide)) rfl rfl fl_Pen_4 fs_Pen_4 (ws' := [(q_o, .inr (3, f_Pen q_o_matrices q_o_points q_o_drawn (0 : Int64) (0 : Int64) v_o_startX v_o_startY v_o_controlX v_o_controlY v_o_controlFor))]) rfl d_xPen_standAtZero_7 (fun H locs hP hD hS => ?_)
  refine lv_aload_n (pc := 10) hx hb d_xPen_standAtZero_10 rfl (lv_at hl 0 rfl) ?_
  refine lv_iconst (pc := 11) (v := (0 : Int32)) hx hb d_xPen_standAtZero_11 (by decide) ?_
  refine kx_put (pc := 12) (D := (dC, dI)) (ci := 3) (v := .int (0 : Int32)) (ty := .char) (C := "PathTexts$Pen") (T := F_Pen) (N := 10) hx hb hts (fun w h => List.mem_cons_of_mem _ (in_Pen w h)) t_Pen tk_Pen n_Pen hown hK hP hD hS 0 rfl rfl 9 (by decide) (hts _ (List.mem_cons_of_mem _ kw_81)) (fun _ h9 => h9) rfl (tk_Pen 9 (by decide)) (by decide) (by decide) fl_Pen_9 fs_Pen_9 (ws' := [(q_o, .inr (3, f_Pen q_o_matrices q_o_points q_o_drawn (0 : Int64) (0 : Int64) v_o_startX v_o_startY v_o_controlX v_o_controlY (0 : Int32)))]) rfl d_xPen_standAtZero_12 (fun H locs hP hD hS => ?_)
  obtain ⟨e_0, e_1, e_2⟩ := kr3 hf
  exact hRet 15 _ _ _ d_xPen_standAtZero_15 (by rw [← e_0, ← e_1, ← e_2]; exact hP) (by rw [← e_0, ← e_1, ← e_2]; exact hD) hS
set_option maxHeartbeats 4000000 in
set_option maxRecDepth 100000 in
theorem ct_xPen_takePoints (l : Launch) (dC : Nat → ClassId) (dI : Nat → Nat → Nat) (q_o : Nat) (q_o_matrices : Nat) (q_o_points : Nat) (q_o_drawn : Nat) (q_p2 : Nat) (k_o_points : ClassId) (k_p2 : ClassId) (sz : Nat) (N : Nat) (x1 : Int32) (v_o_x : Int64) (v_o_y : Int64) (v_o_startX : Int64) (v_o_startY : Int64) (v_o_controlX : Int64) (v_o_controlY : Int64) (v_o_controlFor : Int32) (c_o_points : (Nat → Int64)) (c_p2 : (Nat → Int64)) (c_o_points_z : (Nat → Int64)) (hf : xPen_takePoints N x1 v_o_x v_o_y c_o_points c_p2 = some c_o_points_z) : Met l y_xPen_takePoints w_xPen_takePoints ({ frames := 0, cells := 0, slots := 0, locals := 0 }) (va_Pc [.ref q_o, .int x1, .ref q_p2] (fun U => U.heap.size = sz ∧ va_P (dC, dI) clz [(q_o, .inr (3, f_Pen q_o_matrices q_o_points q_o_drawn v_o_x v_o_y v_o_startX v_o_startY v_o_controlX v_o_controlY v_o_controlFor)), (q_o_points, .inl (k_o_points, 6, .inr (.inl c_o_points))), (q_p2, .inl (k_p2, 6, .inr (.inl c_p2)))] U.heap ∧ va_K (dC, dI) clz [(k_o_points, .long), (k_p2, .long)] U ∧ va_D (fun _ => True) [(q_o, .inr (3, f_Pen q_o_matrices q_o_points q_o_drawn v_o_x v_o_y v_o_startX v_o_startY v_o_controlX v_o_controlY v_o_controlFor)), (q_o_points, .inl (k_o_points, 6, .inr (.inl c_o_points))), (q_p2, .inl (k_p2, 6, .inr (.inl c_p2)))])) (va_Qv (fun _ : Unit => True) (fun _ t => va_P (dC, dI) clz [(q_o, .inr (3, f_Pen q_o_matrices q_o_points q_o_drawn v_o_x v_o_y v_o_startX v_o_startY v_o_controlX v_o_controlY v_o_controlFor)), (q_o_points, .inl (k_o_points, 6, .inr (.inl c_o_points_z))), (q_p2, .inl (k_p2, 6, .inr (.inl c_p2)))] t.heap ∧ va_K (dC, dI) clz [(k_o_points, .long), (k_p2, .long)] t ∧ va_D (va_A [(q_o, .inr (3, f_Pen q_o_matrices q_o_points q_o_drawn v_o_x v_o_y v_o_startX v_o_startY v_o_controlX v_o_controlY v_o_controlFor)), (q_o_points, .inl (k_o_points, 6, .inr (.inl c_o_points))), (q_p2, .inl (k_p2, 6, .inr (.inl c_p2)))] sz) [(q_o, .inr (3, f_Pen q_o_matrices q_o_points q_o_drawn v_o_x v_o_y v_o_startX v_o_startY v_o_controlX v_o_controlY v_o_controlFor)), (q_o_points, .inl (k_o_points, 6, .inr (.inl c_o_points_z))), (q_p2, .inl (k_p2, 6, .inr (.inl c_p2)))]) (va_A [(q_o, .inr (3, f_Pen q_o_matrices q_o_points q_o_drawn v_o_x v_o_y v_o_startX v_o_startY v_o_controlX v_o_controlY v_o_controlFor)), (q_o_points, .inl (k_o_points, 6, .inr (.inl c_o_points))), (q_p2, .inl (k_p2, 6, .inr (.inl c_p2)))] sz)) 0 0 (va_A [(q_o, .inr (3, f_Pen q_o_matrices q_o_points q_o_drawn v_o_x v_o_y v_o_startX v_o_startY v_o_controlX v_o_controlY v_o_controlFor)), (q_o_points, .inl (k_o_points, 6, .inr (.inl c_o_points))), (q_p2, .inl (k_p2, 6, .inr (.inl c_p2)))] sz) := by
  refine Met.ofW (cc := prog_5_method_4_code) (maxL := 6) (ret := none) (by decide +kernel) rfl ?_
  intro p e s m args below meth c s₁ B hml hv
  obtain ⟨hargs, hsz, hP, hK, hD0⟩ := hv
  have hx := B.exec
  have hb := B.bytes
  have hr := B.returns
  have hts := atoms_spec (ws := w_xPen_takePoints) B.pre
  have hown : s.vm.findClass "PathTexts$Pen" = some m.cls := findClass_of_methodNamed B.named
  have hlocks := B.notSynchronized
  subst hsz
  have hD := hD0.self (sz := s.heap.size)
  generalize hAe : va_A [(q_o, .inr (3, f_Pen q_o_matrices q_o_points q_o_drawn v_o_x v_o_y v_o_startX v_o_startY v_o_controlX v_o_controlY v_o_controlFor)), (q_o_points, .inl (k_o_points, 6, .inr (.inl c_o_points))), (q_p2, .inl (k_p2, 6, .inr (.inl c_p2)))] s.heap.size = A at hD ⊢
  have hA : ∀ q : Nat, s.heap.size ≤ q → A q := fun q h => by rw [← hAe]; exact Or.inr h
  clear hAe hD0
  have hS : va_S A s.heap s.heap [] := va_S.rf
  have hl := lv_entry ([.ref q_o, .int x1, .ref q_p2]) (n := 6) (Nat.le_of_ble_eq_true rfl)
  have hent : entryFrame m args 6 = F0 m 0 (lg_sl ([.ref q_o, .int x1, .ref q_p2]) ++ List.replicate (6 - (lg_sl ([.ref q_o, .int x1, .ref q_p2])).length) Slot.unset).toArray [] := by rw [hargs, lg_entry_eq]
  rw [hent]
  clear hent hargs
  generalize (lg_sl ([.ref q_o, .int x1, .ref q_p2]) ++ List.replicate (6 - (lg_sl ([.ref q_o, .int x1, .ref q_p2])).length) Slot.unset).toArray = ls at hl ⊢
  have hl : lv_has ls 6 [(0, .ref q_o), (1, .int x1), (2, .ref q_p2)] := hl
  suffices key : ∀ Q : State → Prop, (∀ (pc : Nat) (H : Heap) (locs : List Loc) (ls : Array Slot), decode prog_5_method_4_code pc = .ok (.return_, 1) → va_P (dC, dI) clz [(q_o, .inr (3, f_Pen q_o_matrices q_o_points q_o_drawn v_o_x v_o_y v_o_startX v_o_startY v_o_controlX v_o_controlY v_o_controlFor)), (q_o_points, .inl (k_o_points, 6, .inr (.inl c_o_points_z))), (q_p2, .inl (k_p2, 6, .inr (.inl c_p2)))] H → va_D A [(q_o, .inr (3, f_Pen q_o_matrices q_o_points q_o_drawn v_o_x v_o_y v_o_startX v_o_startY v_o_controlX v_o_controlY v_o_controlFor)), (q_o_points, .inl (k_o_points, 6, .inr (.inl c_o_points_z))), (q_p2, .inl (k_p2, 6, .inr (.inl c_p2)))] → va_S A s.heap H locs → W p l e (headSpec w_xPen_takePoints ({ frames := 0, cells := 0, slots := 0, locals := 0 })).room s m args below meth c H locs 0 0 Q (F0 m pc ls [])) → W p l e (headSpec w_xPen_takePoints ({ frames := 0, cells := 0, slots := 0, locals := 0 })).room s m args below meth c s.heap [] 0 0 Q (F0 m 0 ls []) from key _ (fun pc H locs ls hd hP hD hS => W.vret hx hb hr (fun t ht hW => ⟨⟨(), rfl, trivial, by rw [ht]; exact hP, va_K.moved hW.alike hK, hD⟩, hS.F ht⟩) hS.2.2 hd)
  intro Q hRet
  have hb54 : ∀ (k2 : Int32 → Int32 → Int64 → Int64 → (Nat → Int64) → (Nat → Int64) → Option ((Nat → Int64))), (∀ (x1 : Int32) (x3 : Int32) (c_o_points : (Nat → Int64)) (H : Heap) (locs : List Loc) (ls : Array Slot), k2 x1 x3 v_o_x v_o_y c_o_points c_p2 = some c_o_points_z → va_P (dC, dI) clz [(q_o, .inr (3, f_Pen q_o_matrices q_o_points q_o_drawn v_o_x v_o_y v_o_startX v_o_startY v_o_controlX v_o_controlY v_o_controlFor)), (q_o_points, .inl (k_o_points, 6, .inr (.inl c_o_points))), (q_p2, .inl (k_p2, 6, .inr (.inl c_p2)))] H → va_D A [(q_o, .inr (3, f_Pen q_o_matrices q_o_points q_o_drawn v_o_x v_o_y v_o_startX v_o_startY v_o_controlX v_o_controlY v_o_controlFor)), (q_o_points, .inl (k_o_points, 6, .inr (.inl c_o_points))), (q_p2, .inl (k_p2, 6, .inr (.inl c_p2)))] → va_S A s.heap H locs → lv_has ls 6 [(0, .ref q_o), (1, .int x1), (2, .ref q_p2), (3, .int x3)] → W p l e (headSpec w_xPen_takePoints ({ frames := 0, cells := 0, slots := 0, locals := 0 })).room s m args below meth c H locs 0 0 Q (F0 m 2 ls [])) → ∀ (x1 : Int32) (x3 : Int32) (s1 : Int32) (s2 : Int64) (c_o_points : (Nat → Int64)) (H : Heap) (locs : List Loc) (ls : Array Slot), xPen_takePoints_b54 N k2 x1 x3 s1 s2 v_o_x v_o_y c_o_points c_p2 = some c_o_points_z → va_P (dC, dI) clz [(q_o, .inr (3, f_Pen q_o_matrices q_o_points q_o_drawn v_o_x v_o_y v_o_startX v_o_startY v_o_controlX v_o_controlY v_o_controlFor)), (q_o_points, .inl (k_o_points, 6, .inr (.inl c_o_points))), (q_p2, .inl (k_p2, 6, .inr (.inl c_p2)))] H → va_D A [(q_o, .inr (3, f_Pen q_o_matrices q_o_points q_o_drawn v_o_x v_o_y v_o_startX v_o_startY v_o_controlX v_o_controlY v_o_controlFor)), (q_o_points, .inl (k_o_points, 6, .inr (.inl c_o_points))), (q_p2, .inl (k_p2, 6, .inr (.inl c_p2)))] → va_S A s.heap H locs → lv_has ls 6 [(0, .ref q_o), (1, .int x1), (2, .ref q_p2), (3, .int x3)] → W p l e (headSpec w_xPen_takePoints ({ frames := 0, cells := 0, slots := 0, locals := 0 })).room s m args below meth c H locs 0 0 Q (F0 m 54 ls [.long s2, .int s1, .ref q_o_points]) := by
    intro k2 hk2
    intro x1 x3 s1 s2 c_o_points H locs ls hf hP hD hS hl
    rw [xPen_takePoints_b54] at hf
    obtain ⟨hg1, hf⟩ := kg_some hf
    refine kx_last (pc := 54) (ws' := [(q_o, .inr (3, f_Pen q_o_matrices q_o_points q_o_drawn v_o_x v_o_y v_o_startX v_o_startY v_o_controlX v_o_controlY v_o_controlFor)), (q_o_points, .inl (k_o_points, 6, .inr (.inl (vp_updL c_o_points (s1).toNatClampNeg s2)))), (q_p2, .inl (k_p2, 6, .inr (.inl c_p2)))]) hx hb hK hP hD hS 1 0 rfl rfl (ki_in hg1) rfl d_xPen_takePoints_54 (fun H locs hP hD hS => ?_)
    refine lv_iinc (pc := 55) (v := (x3 + (1 : Int32))) (lv' := [(3, .int (x3 + (1 : Int32))), (0, .ref q_o), (1, .int x1), (2, .ref q_p2)]) hx hb d_xPen_takePoints_55 hl (k := 3) rfl rfl (by decide) rfl (fun ls hl => ?_)
    refine lv_goto (pc := 58) (tgt := 2) hx hb d_xPen_takePoints_58 (by decide) ?_
    exact hk2 x1 (x3 + (1 : Int32)) (vp_updL c_o_points (s1).toNatClampNeg s2) _ _ _ hf hP hD hS (lv_sub hl [1, 2, 3, 0] rfl)
  have hb31 : ∀ (k2 : Int32 → Int32 → Int64 → Int64 → (Nat → Int64) → (Nat → Int64) → Option ((Nat → Int64))), (∀ (x1 : Int32) (x3 : Int32) (c_o_points : (Nat → Int64)) (H : Heap) (locs : List Loc) (ls : Array Slot), k2 x1 x3 v_o_x v_o_y c_o_points c_p2 = some c_o_points_z → va_P (dC, dI) clz [(q_o, .inr (3, f_Pen q_o_matrices q_o_points q_o_drawn v_o_x v_o_y v_o_startX v_o_startY v_o_controlX v_o_controlY v_o_controlFor)), (q_o_points, .inl (k_o_points, 6, .inr (.inl c_o_points))), (q_p2, .inl (k_p2, 6, .inr (.inl c_p2)))] H → va_D A [(q_o, .inr (3, f_Pen q_o_matrices q_o_points q_o_drawn v_o_x v_o_y v_o_startX v_o_startY v_o_controlX v_o_controlY v_o_controlFor)), (q_o_points, .inl (k_o_points, 6, .inr (.inl c_o_points))), (q_p2, .inl (k_p2, 6, .inr (.inl c_p2)))] → va_S A s.heap H locs → lv_has ls 6 [(0, .ref q_o), (1, .int x1), (2, .ref q_p2), (3, .int x3)] → W p l e (headSpec w_xPen_takePoints ({ frames := 0, cells := 0, slots := 0, locals := 0 })).room s m args below meth c H locs 0 0 Q (F0 m 2 ls [])) → ∀ (x1 : Int32) (x3 : Int32) (s0 : Int64) (c_o_points : (Nat → Int64)) (H : Heap) (locs : List Loc) (ls : Array Slot), xPen_takePoints_b31 N k2 x1 x3 s0 v_o_x v_o_y c_o_points c_p2 = some c_o_points_z → va_P (dC, dI) clz [(q_o, .inr (3, f_Pen q_o_matrices q_o_points q_o_drawn v_o_x v_o_y v_o_startX v_o_startY v_o_controlX v_o_controlY v_o_controlFor)), (q_o_points, .inl (k_o_points, 6, .inr (.inl c_o_points))), (q_p2, .inl (k_p2, 6, .inr (.inl c_p2)))] H → va_D A [(q_o, .inr (3, f_Pen q_o_matrices q_o_points q_o_drawn v_o_x v_o_y v_o_startX v_o_startY v_o_controlX v_o_controlY v_o_controlFor)), (q_o_points, .inl (k_o_points, 6, .inr (.inl c_o_points))), (q_p2, .inl (k_p2, 6, .inr (.inl c_p2)))] → va_S A s.heap H locs → lv_has ls 6 [(0, .ref q_o), (1, .int x1), (2, .ref q_p2), (3, .int x3)] → W p l e (headSpec w_xPen_takePoints ({ frames := 0, cells := 0, slots := 0, locals := 0 })).room s m args below meth c H locs 0 0 Q (F0 m 31 ls [.long s0]) := by
    intro k2 hk2
    intro x1 x3 s0 c_o_points H locs ls hf hP hD hS hl
    rw [xPen_takePoints_b31] at hf
    refine lv_lstore (pc := 31) (lv' := [(4, .long s0), (0, .ref q_o), (1, .int x1), (2, .ref q_p2), (3, .int x3)]) hx hb d_xPen_takePoints_31 hl (by decide) rfl (fun ls hl => ?_)
    refine lv_aload_n (pc := 33) hx hb d_xPen_takePoints_33 rfl (lv_at hl 1 rfl) ?_
    refine va_get (pc := 34) (D := (dC, dI)) (ci := 3) (v := .ref q_o_points) (C := "PathTexts$Pen") (T := F_Pen) (N := 10) hx hb hts (fun w h => List.mem_cons_of_mem _ (in_Pen w h)) hown hK hP 0 rfl rfl 1 (by decide) (hts _ (List.mem_cons_of_mem _ kw_73)) (fun _ h9 => h9) fg_Pen_1 d_xPen_takePoints_34 ?_
    refine lv_iload_n (pc := 37) hx hb d_xPen_takePoints_37 rfl (lv_at hl 4 rfl) ?_
    refine lv_iload_n (pc := 38) hx hb d_xPen_takePoints_38 rfl (lv_at hl 2 rfl) ?_
    refine lv_if_eq (pc := 39) (tgt := 51) hx hb d_xPen_takePoints_39 (by decide) (fun hc => ?_) (fun hc => ?_)
    · rw [if_pos hc] at hf
      refine lv_aload_n (pc := 51) hx hb d_xPen_takePoints_51 rfl (lv_at hl 3 rfl) ?_
      refine lv_iload_n (pc := 52) hx hb d_xPen_takePoints_52 rfl (lv_at hl 4 rfl) ?_
      obtain ⟨hg2, hf⟩ := kg_some hf
      refine va_lald (pc := 53) hx hb hK hP 2 1 rfl rfl (ki_in hg2) d_xPen_takePoints_53 ?_
      exact hb54 k2 hk2 x1 x3 x3 (c_p2 (x3).toNatClampNeg) c_o_points _ _ _ hf hP hD hS (lv_sub hl [1, 2, 3, 4] rfl)
    · rw [if_neg hc] at hf
      refine lv_lload (pc := 42) hx hb d_xPen_takePoints_42 (lv_at hl 0 rfl) ?_
      refine lv_aload_n (pc := 44) hx hb d_xPen_takePoints_44 rfl (lv_at hl 3 rfl) ?_
      refine lv_iload_n (pc := 45) hx hb d_xPen_takePoints_45 rfl (lv_at hl 4 rfl) ?_
      obtain ⟨hg3, hf⟩ := kg_some hf
      refine va_lald (pc := 46) hx hb hK hP 2 1 rfl rfl (ki_in hg3) d_xPen_takePoints_46 ?_
      refine lv_ladd (pc := 47) hx hb d_xPen_takePoints_47 ?_
      refine lv_goto (pc := 48) (tgt := 54) hx hb d_xPen_takePoints_48 (by decide) ?_
      exact hb54 k2 hk2 x1 x3 x3 (s0 + (c_p2 (x3).toNatClampNeg)) c_o_points _ _ _ hf hP hD hS (lv_sub hl [1, 2, 3, 4] rfl)
  have hB2 : ∀ (k2 : Int32 → Int32 → Int64 → Int64 → (Nat → Int64) → (Nat → Int64) → Option ((Nat → Int64))), (∀ (x1 : Int32) (x3 : Int32) (c_o_points : (Nat → Int64)) (H : Heap) (locs : List Loc) (ls : Array Slot), k2 x1 x3 v_o_x v_o_y c_o_points c_p2 = some c_o_points_z → va_P (dC, dI) clz [(q_o, .inr (3, f_Pen q_o_matrices q_o_points q_o_drawn v_o_x v_o_y v_o_startX v_o_startY v_o_controlX v_o_controlY v_o_controlFor)), (q_o_points, .inl (k_o_points, 6, .inr (.inl c_o_points))), (q_p2, .inl (k_p2, 6, .inr (.inl c_p2)))] H → va_D A [(q_o, .inr (3, f_Pen q_o_matrices q_o_points q_o_drawn v_o_x v_o_y v_o_startX v_o_startY v_o_controlX v_o_controlY v_o_controlFor)), (q_o_points, .inl (k_o_points, 6, .inr (.inl c_o_points))), (q_p2, .inl (k_p2, 6, .inr (.inl c_p2)))] → va_S A s.heap H locs → lv_has ls 6 [(0, .ref q_o), (1, .int x1), (2, .ref q_p2), (3, .int x3)] → W p l e (headSpec w_xPen_takePoints ({ frames := 0, cells := 0, slots := 0, locals := 0 })).room s m args below meth c H locs 0 0 Q (F0 m 2 ls [])) → ∀ (x1 : Int32) (x3 : Int32) (c_o_points : (Nat → Int64)) (H : Heap) (locs : List Loc) (ls : Array Slot), xPen_takePoints_B2 N k2 x1 x3 v_o_x v_o_y c_o_points c_p2 = some c_o_points_z → va_P (dC, dI) clz [(q_o, .inr (3, f_Pen q_o_matrices q_o_points q_o_drawn v_o_x v_o_y v_o_startX v_o_startY v_o_controlX v_o_controlY v_o_controlFor)), (q_o_points, .inl (k_o_points, 6, .inr (.inl c_o_points))), (q_p2, .inl (k_p2, 6, .inr (.inl c_p2)))] H → va_D A [(q_o, .inr (3, f_Pen q_o_matrices q_o_points q_o_drawn v_o_x v_o_y v_o_startX v_o_startY v_o_controlX v_o_controlY v_o_controlFor)), (q_o_points, .inl (k_o_points, 6, .inr (.inl c_o_points))), (q_p2, .inl (k_p2, 6, .inr (.inl c_p2)))] → va_S A s.heap H locs → lv_has ls 6 [(0, .ref q_o), (1, .int x1), (2, .ref q_p2), (3, .int x3)] → W p l e (headSpec w_xPen_takePoints ({ frames := 0, cells := 0, slots := 0, locals := 0 })).room s m args below meth c H locs 0 0 Q (F0 m 2 ls []) := by
    intro k2 hk2
    intro x1 x3 c_o_points H locs ls hf hP hD hS hl
    rw [xPen_takePoints_B2] at hf
    refine lv_iload_n (pc := 2) hx hb d_xPen_takePoints_2 rfl (lv_at hl 3 rfl) ?_
    refine lv_bipush (pc := 3) (v := (6 : Int32)) hx hb d_xPen_takePoints_3 (by decide) ?_
    refine lv_icmp_ge (pc := 5) (tgt := 61) hx hb d_xPen_takePoints_5 (by decide) (fun hc => ?_) (fun hc => ?_)
    · rw [if_pos hc] at hf
      have e_0 := kr1 hf
      exact hRet 61 _ _ _ d_xPen_takePoints_61 (by rw [← e_0]; exact hP) (by rw [← e_0]; exact hD) hS
    · rw [if_neg hc] at hf
      refine lv_iload_n (pc := 8) hx hb d_xPen_takePoints_8 rfl (lv_at hl 3 rfl) ?_
      refine lv_aload_n (pc := 9) hx hb d_xPen_takePoints_9 rfl (lv_at hl 2 rfl) ?_
      refine va_alen (pc := 10) hx hb hK hP 2 1 rfl rfl (v := (6 : Int32)) rfl d_xPen_takePoints_10 ?_
      refine lv_icmp_ge (pc := 11) (tgt := 61) hx hb d_xPen_takePoints_11 (by decide) (fun hc => ?_) (fun hc => ?_)
      · rw [if_pos hc] at hf
        have e_0 := kr1 hf
        exact hRet 61 _ _ _ d_xPen_takePoints_61 (by rw [← e_0]; exact hP) (by rw [← e_0]; exact hD) hS
      · rw [if_neg hc] at hf
        refine lv_iload_n (pc := 14) hx hb d_xPen_takePoints_14 rfl (lv_at hl 3 rfl) ?_
        refine lv_iconst (pc := 15) (v := (2 : Int32)) hx hb d_xPen_takePoints_15 (by decide) ?_
        refine lv_irem (pc := 16) hx hb d_xPen_takePoints_16 (by decide) ?_
        refine lv_if_ne (pc := 17) (tgt := 27) hx hb d_xPen_takePoints_17 (by decide) (fun hc => ?_) (fun hc => ?_)
        · rw [if_neg hc] at hf
          refine lv_aload_n (pc := 27) hx hb d_xPen_takePoints_27 rfl (lv_at hl 0 rfl) ?_
          refine va_get (pc := 28) (D := (dC, dI)) (ci := 3) (v := .long v_o_y) (C := "PathTexts$Pen") (T := F_Pen) (N := 10) hx hb hts (fun w h => List.mem_cons_of_mem _ (in_Pen w h)) hown hK hP 0 rfl rfl 4 (by decide) (hts _ (List.mem_cons_of_mem _ kw_76)) (fun _ h9 => h9) fg_Pen_4 d_xPen_takePoints_28 ?_
          exact hb31 k2 hk2 x1 x3 v_o_y c_o_points _ _ _ hf hP hD hS (lv_sub hl [0, 1, 2, 3] rfl)
        · rw [if_pos hc] at hf
          refine lv_aload_n (pc := 20) hx hb d_xPen_takePoints_20 rfl (lv_at hl 0 rfl) ?_
          refine va_get (pc := 21) (D := (dC, dI)) (ci := 3) (v := .long v_o_x) (C := "PathTexts$Pen") (T := F_Pen) (N := 10) hx hb hts (fun w h => List.mem_cons_of_mem _ (in_Pen w h)) hown hK hP 0 rfl rfl 3 (by decide) (hts _ (List.mem_cons_of_mem _ kw_75)) (fun _ h9 => h9) fg_Pen_3 d_xPen_takePoints_21 ?_
          refine lv_goto (pc := 24) (tgt := 31) hx hb d_xPen_takePoints_24 (by decide) ?_
          exact hb31 k2 hk2 x1 x3 v_o_x c_o_points _ _ _ hf hP hD hS (lv_sub hl [0, 1, 2, 3] rfl)
  have hL2 : ∀ n : Nat, ∀ (x1 : Int32) (x3 : Int32) (c_o_points : (Nat → Int64)) (H : Heap) (locs : List Loc) (ls : Array Slot), (xPen_takePoints_L2 N n) x1 x3 v_o_x v_o_y c_o_points c_p2 = some c_o_points_z → va_P (dC, dI) clz [(q_o, .inr (3, f_Pen q_o_matrices q_o_points q_o_drawn v_o_x v_o_y v_o_startX v_o_startY v_o_controlX v_o_controlY v_o_controlFor)), (q_o_points, .inl (k_o_points, 6, .inr (.inl c_o_points))), (q_p2, .inl (k_p2, 6, .inr (.inl c_p2)))] H → va_D A [(q_o, .inr (3, f_Pen q_o_matrices q_o_points q_o_drawn v_o_x v_o_y v_o_startX v_o_startY v_o_controlX v_o_controlY v_o_controlFor)), (q_o_points, .inl (k_o_points, 6, .inr (.inl c_o_points))), (q_p2, .inl (k_p2, 6, .inr (.inl c_p2)))] → va_S A s.heap H locs → lv_has ls 6 [(0, .ref q_o), (1, .int x1), (2, .ref q_p2), (3, .int x3)] → W p l e (headSpec w_xPen_takePoints ({ frames := 0, cells := 0, slots := 0, locals := 0 })).room s m args below meth c H locs 0 0 Q (F0 m 2 ls []) := by
    intro n
    induction n with
    | zero => intro x1 x3 c_o_points H locs ls hf hP hD hS hl; have hf : none = some c_o_points_z := hf; cases hf
    | succ n ih => exact hB2 (xPen_takePoints_L2 N n) ih
  rw [xPen_takePoints] at hf
  refine lv_iconst (pc := 0) (v := (0 : Int32)) hx hb d_xPen_takePoints_0 (by decide) ?_
  refine lv_istore_n (pc := 1) (lv' := [(3, .int (0 : Int32)), (0, .ref q_o), (1, .int x1), (2, .ref q_p2)]) hx hb d_xPen_takePoints_1 rfl hl (by decide) rfl (fun ls hl => ?_)
  exact hL2 N x1 (0 : Int32) c_o_points _ _ _ hf hP hD hS (lv_sub hl [1, 2, 3, 0] rfl)
set_option maxHeartbeats 4000000 in
set_option maxRecDepth 100000 in
theorem ct_xPen_putTurnedFirst (l : Launch) (dC : Nat → ClassId) (dI : Nat → Nat → Nat) (q_o : Nat) (q_o_matrices : Nat) (q_o_points : Nat) (q_o_drawn : Nat) (k_o_points : ClassId) (sz : Nat) (N : Nat) (x1 : Int32) (v_o_x : Int64) (v_o_y : Int64) (v_o_startX : Int64) (v_o_startY : Int64) (v_o_controlX : Int64) (v_o_controlY : Int64) (v_o_controlFor : Int32) (c_o_points : (Nat → Int64)) (c_o_points_z : (Nat → Int64)) (hf : xPen_putTurnedFirst N x1 v_o_x v_o_y v_o_controlX v_o_controlY c_o_points = some c_o_points_z) : Met l y_xPen_putTurnedFirst w_xPen_putTurnedFirst ({ frames := 0, cells := 0, slots := 0, locals := 0 }) (va_Pc [.ref q_o, .int x1] (fun U => U.heap.size = sz ∧ va_P (dC, dI) clz [(q_o, .inr (3, f_Pen q_o_matrices q_o_points q_o_drawn v_o_x v_o_y v_o_startX v_o_startY v_o_controlX v_o_controlY v_o_controlFor)), (q_o_points, .inl (k_o_points, 6, .inr (.inl c_o_points)))] U.heap ∧ va_K (dC, dI) clz [(k_o_points, .long)] U ∧ va_D (fun _ => True) [(q_o, .inr (3, f_Pen q_o_matrices q_o_points q_o_drawn v_o_x v_o_y v_o_startX v_o_startY v_o_controlX v_o_controlY v_o_controlFor)), (q_o_points, .inl (k_o_points, 6, .inr (.inl c_o_points)))])) (va_Qv (fun _ : Unit => True) (fun _ t => va_P (dC, dI) clz [(q_o, .inr (3, f_Pen q_o_matrices q_o_points q_o_drawn v_o_x v_o_y v_o_startX v_o_startY v_o_controlX v_o_controlY v_o_controlFor)), (q_o_points, .inl (k_o_points, 6, .inr (.inl c_o_points_z)))] t.heap ∧ va_K (dC, dI) clz [(k_o_points, .long)] t ∧ va_D (va_A [(q_o, .inr (3, f_Pen q_o_matrices q_o_points q_o_drawn v_o_x v_o_y v_o_startX v_o_startY v_o_controlX v_o_controlY v_o_controlFor)), (q_o_points, .inl (k_o_points, 6, .inr (.inl c_o_points)))] sz) [(q_o, .inr (3, f_Pen q_o_matrices q_o_points q_o_drawn v_o_x v_o_y v_o_startX v_o_startY v_o_controlX v_o_controlY v_o_controlFor)), (q_o_points, .inl (k_o_points, 6, .inr (.inl c_o_points_z)))]) (va_A [(q_o, .inr (3, f_Pen q_o_matrices q_o_points q_o_drawn v_o_x v_o_y v_o_startX v_o_startY v_o_controlX v_o_controlY v_o_controlFor)), (q_o_points, .inl (k_o_points, 6, .inr (.inl c_o_points)))] sz)) 0 0 (va_A [(q_o, .inr (3, f_Pen q_o_matrices q_o_points q_o_drawn v_o_x v_o_y v_o_startX v_o_startY v_o_controlX v_o_controlY v_o_controlFor)), (q_o_points, .inl (k_o_points, 6, .inr (.inl c_o_points)))] sz) := by
  refine Met.ofW (cc := prog_5_method_5_code) (maxL := 3) (ret := none) (by decide +kernel) rfl ?_
  intro p e s m args below meth c s₁ B hml hv
  obtain ⟨hargs, hsz, hP, hK, hD0⟩ := hv
  have hx := B.exec
  have hb := B.bytes
  have hr := B.returns
  have hts := atoms_spec (ws := w_xPen_putTurnedFirst) B.pre
  have hown : s.vm.findClass "PathTexts$Pen" = some m.cls := findClass_of_methodNamed B.named
  have hlocks := B.notSynchronized
  subst hsz
  have hD := hD0.self (sz := s.heap.size)
  generalize hAe : va_A [(q_o, .inr (3, f_Pen q_o_matrices q_o_points q_o_drawn v_o_x v_o_y v_o_startX v_o_startY v_o_controlX v_o_controlY v_o_controlFor)), (q_o_points, .inl (k_o_points, 6, .inr (.inl c_o_points)))] s.heap.size = A at hD ⊢
  have hA : ∀ q : Nat, s.heap.size ≤ q → A q := fun q h => by rw [← hAe]; exact Or.inr h
  clear hAe hD0
  have hS : va_S A s.heap s.heap [] := va_S.rf
  have hl := lv_entry ([.ref q_o, .int x1]) (n := 3) (Nat.le_of_ble_eq_true rfl)
  have hent : entryFrame m args 3 = F0 m 0 (lg_sl ([.ref q_o, .int x1]) ++ List.replicate (3 - (lg_sl ([.ref q_o, .int x1])).length) Slot.unset).toArray [] := by rw [hargs, lg_entry_eq]
  rw [hent]
  clear hent hargs
  generalize (lg_sl ([.ref q_o, .int x1]) ++ List.replicate (3 - (lg_sl ([.ref q_o, .int x1])).length) Slot.unset).toArray = ls at hl ⊢
  have hl : lv_has ls 3 [(0, .ref q_o), (1, .int x1)] := hl
  suffices key : ∀ Q : State → Prop, (∀ (pc : Nat) (H : Heap) (locs : List Loc) (ls : Array Slot), decode prog_5_method_5_code pc = .ok (.return_, 1) → va_P (dC, dI) clz [(q_o, .inr (3, f_Pen q_o_matrices q_o_points q_o_drawn v_o_x v_o_y v_o_startX v_o_startY v_o_controlX v_o_controlY v_o_controlFor)), (q_o_points, .inl (k_o_points, 6, .inr (.inl c_o_points_z)))] H → va_D A [(q_o, .inr (3, f_Pen q_o_matrices q_o_points q_o_drawn v_o_x v_o_y v_o_startX v_o_startY v_o_controlX v_o_controlY v_o_controlFor)), (q_o_points, .inl (k_o_points, 6, .inr (.inl c_o_points_z)))] → va_S A s.heap H locs → W p l e (headSpec w_xPen_putTurnedFirst ({ frames := 0, cells := 0, slots := 0, locals := 0 })).room s m args below meth c H locs 0 0 Q (F0 m pc ls [])) → W p l e (headSpec w_xPen_putTurnedFirst ({ frames := 0, cells := 0, slots := 0, locals := 0 })).room s m args below meth c s.heap [] 0 0 Q (F0 m 0 ls []) from key _ (fun pc H locs ls hd hP hD hS => W.vret hx hb hr (fun t ht hW => ⟨⟨(), rfl, trivial, by rw [ht]; exact hP, va_K.moved hW.alike hK, hD⟩, hS.F ht⟩) hS.2.2 hd)
  intro Q hRet
  have hb86 : ∀ (s1 : Int32) (s2 : Int64) (c_o_points : (Nat → Int64)) (H : Heap) (locs : List Loc) (ls : Array Slot), xPen_putTurnedFirst_b86 N s1 s2 c_o_points = some c_o_points_z → va_P (dC, dI) clz [(q_o, .inr (3, f_Pen q_o_matrices q_o_points q_o_drawn v_o_x v_o_y v_o_startX v_o_startY v_o_controlX v_o_controlY v_o_controlFor)), (q_o_points, .inl (k_o_points, 6, .inr (.inl c_o_points)))] H → va_D A [(q_o, .inr (3, f_Pen q_o_matrices q_o_points q_o_drawn v_o_x v_o_y v_o_startX v_o_startY v_o_controlX v_o_controlY v_o_controlFor)), (q_o_points, .inl (k_o_points, 6, .inr (.inl c_o_points)))] → va_S A s.heap H locs → lv_has ls 3 [] → W p l e (headSpec w_xPen_putTurnedFirst ({ frames := 0, cells := 0, slots := 0, locals := 0 })).room s m args below meth c H locs 0 0 Q (F0 m 86 ls [.long s2, .int s1, .ref q_o_points]) := by
    intro s1 s2 c_o_points H locs ls hf hP hD hS hl
    rw [xPen_putTurnedFirst_b86] at hf
    obtain ⟨hg1, hf⟩ := kg_some hf
    refine kx_last (pc := 86) (ws' := [(q_o, .inr (3, f_Pen q_o_matrices q_o_points q_o_drawn v_o_x v_o_y v_o_startX v_o_startY v_o_controlX v_o_controlY v_o_controlFor)), (q_o_points, .inl (k_o_points, 6, .inr (.inl (vp_updL c_o_points (s1).toNatClampNeg s2))))]) hx hb hK hP hD hS 1 0 rfl rfl (ki_in hg1) rfl d_xPen_putTurnedFirst_86 (fun H locs hP hD hS => ?_)
    have e_0 := kr1 hf
    exact hRet 87 _ _ _ d_xPen_putTurnedFirst_87 (by rw [← e_0]; exact hP) (by rw [← e_0]; exact hD) hS
  have hb56 : ∀ (x1 : Int32) (s1 : Int32) (s2 : Int64) (c_o_points : (Nat → Int64)) (H : Heap) (locs : List Loc) (ls : Array Slot), xPen_putTurnedFirst_b56 N x1 s1 s2 v_o_y v_o_controlY c_o_points = some c_o_points_z → va_P (dC, dI) clz [(q_o, .inr (3, f_Pen q_o_matrices q_o_points q_o_drawn v_o_x v_o_y v_o_startX v_o_startY v_o_controlX v_o_controlY v_o_controlFor)), (q_o_points, .inl (k_o_points, 6, .inr (.inl c_o_points)))] H → va_D A [(q_o, .inr (3, f_Pen q_o_matrices q_o_points q_o_drawn v_o_x v_o_y v_o_startX v_o_startY v_o_controlX v_o_controlY v_o_controlFor)), (q_o_points, .inl (k_o_points, 6, .inr (.inl c_o_points)))] → va_S A s.heap H locs → lv_has ls 3 [(0, .ref q_o), (1, .int x1)] → W p l e (headSpec w_xPen_putTurnedFirst ({ frames := 0, cells := 0, slots := 0, locals := 0 })).room s m args below meth c H locs 0 0 Q (F0 m 56 ls [.long s2, .int s1, .ref q_o_points]) := by
    intro x1 s1 s2 c_o_points H locs ls hf hP hD hS hl
    rw [xPen_putTurnedFirst_b56] at hf
    obtain ⟨hg2, hf⟩ := kg_some hf
    refine kx_last (pc := 56) (ws' := [(q_o, .inr (3, f_Pen q_o_matrices q_o_points q_o_drawn v_o_x v_o_y v_o_startX v_o_startY v_o_controlX v_o_controlY v_o_controlFor)), (q_o_points, .inl (k_o_points, 6, .inr (.inl (vp_updL c_o_points (s1).toNatClampNeg s2))))]) hx hb hK hP hD hS 1 0 rfl rfl (ki_in hg2) rfl d_xPen_putTurnedFirst_56 (fun H locs hP hD hS => ?_)
    refine lv_aload_n (pc := 57) hx hb d_xPen_putTurnedFirst_57 rfl (lv_at hl 0 rfl) ?_
    refine va_get (pc := 58) (D := (dC, dI)) (ci := 3) (v := .ref q_o_points) (C := "PathTexts$Pen") (T := F_Pen) (N := 10) hx hb hts (fun w h => List.mem_cons_of_mem _ (in_Pen w h)) hown hK hP 0 rfl rfl 1 (by decide) (hts _ (List.mem_cons_of_mem _ kw_73)) (fun _ h9 => h9) fg_Pen_1 d_xPen_putTurnedFirst_58 ?_
    refine lv_iconst (pc := 61) (v := (1 : Int32)) hx hb d_xPen_putTurnedFirst_61 (by decide) ?_
    refine lv_iload_n (pc := 62) hx hb d_xPen_putTurnedFirst_62 rfl (lv_at hl 1 rfl) ?_
    refine lv_if_eq (pc := 63) (tgt := 82) hx hb d_xPen_putTurnedFirst_63 (by decide) (fun hc => ?_) (fun hc => ?_)
    · rw [if_pos hc] at hf
      refine lv_aload_n (pc := 82) hx hb d_xPen_putTurnedFirst_82 rfl (lv_at hl 0 rfl) ?_
      refine va_get (pc := 83) (D := (dC, dI)) (ci := 3) (v := .long v_o_y) (C := "PathTexts$Pen") (T := F_Pen) (N := 10) hx hb hts (fun w h => List.mem_cons_of_mem _ (in_Pen w h)) hown hK hP 0 rfl rfl 4 (by decide) (hts _ (List.mem_cons_of_mem _ kw_76)) (fun _ h9 => h9) fg_Pen_4 d_xPen_putTurnedFirst_83 ?_
      exact hb86 (1 : Int32) v_o_y (vp_updL c_o_points (s1).toNatClampNeg s2) _ _ _ hf hP hD hS (lv_sub hl [] rfl)
    · rw [if_neg hc] at hf
      refine lv_ldc2 (pc := 66) hx hb hown (hts _ (List.mem_cons_of_mem _ kw_321)) d_xPen_putTurnedFirst_66 ?_
      refine lv_aload_n (pc := 69) hx hb d_xPen_putTurnedFirst_69 rfl (lv_at hl 0 rfl) ?_
      refine va_get (pc := 70) (D := (dC, dI)) (ci := 3) (v := .long v_o_y) (C := "PathTexts$Pen") (T := F_Pen) (N := 10) hx hb hts (fun w h => List.mem_cons_of_mem _ (in_Pen w h)) hown hK hP 0 rfl rfl 4 (by decide) (hts _ (List.mem_cons_of_mem _ kw_76)) (fun _ h9 => h9) fg_Pen_4 d_xPen_putTurnedFirst_70 ?_
      refine lv_lmul (pc := 73) hx hb d_xPen_putTurnedFirst_73 ?_
      refine lv_aload_n (pc := 74) hx hb d_xPen_putTurnedFirst_74 rfl (lv_at hl 0 rfl) ?_
      refine va_get (pc := 75) (D := (dC, dI)) (ci := 3) (v := .long v_o_controlY) (C := "PathTexts$Pen") (T := F_Pen) (N := 10) hx hb hts (fun w h => List.mem_cons_of_mem _ (in_Pen w h)) hown hK hP 0 rfl rfl 8 (by decide) (hts _ (List.mem_cons_of_mem _ kw_80)) (fun _ h9 => h9) fg_Pen_8 d_xPen_putTurnedFirst_75 ?_
      refine lv_lsub (pc := 78) hx hb d_xPen_putTurnedFirst_78 ?_
      refine lv_goto (pc := 79) (tgt := 86) hx hb d_xPen_putTurnedFirst_79 (by decide) ?_
      exact hb86 (1 : Int32) (((2 : Int64) * v_o_y) - v_o_controlY) (vp_updL c_o_points (s1).toNatClampNeg s2) _ _ _ hf hP hD hS (lv_sub hl [] rfl)
  have hB2 : ∀ (k2 : Int32 → Int32 → Int64 → Int64 → Int64 → Int64 → (Nat → Int64) → Option ((Nat → Int64))), (∀ (x1 : Int32) (x2 : Int32) (c_o_points : (Nat → Int64)) (H : Heap) (locs : List Loc) (ls : Array Slot), k2 x1 x2 v_o_x v_o_y v_o_controlX v_o_controlY c_o_points = some c_o_points_z → va_P (dC, dI) clz [(q_o, .inr (3, f_Pen q_o_matrices q_o_points q_o_drawn v_o_x v_o_y v_o_startX v_o_startY v_o_controlX v_o_controlY v_o_controlFor)), (q_o_points, .inl (k_o_points, 6, .inr (.inl c_o_points)))] H → va_D A [(q_o, .inr (3, f_Pen q_o_matrices q_o_points q_o_drawn v_o_x v_o_y v_o_startX v_o_startY v_o_controlX v_o_controlY v_o_controlFor)), (q_o_points, .inl (k_o_points, 6, .inr (.inl c_o_points)))] → va_S A s.heap H locs → lv_has ls 3 [(0, .ref q_o), (1, .int x1), (2, .int x2)] → W p l e (headSpec w_xPen_putTurnedFirst ({ frames := 0, cells := 0, slots := 0, locals := 0 })).room s m args below meth c H locs 0 0 Q (F0 m 2 ls [])) → ∀ (x1 : Int32) (x2 : Int32) (c_o_points : (Nat → Int64)) (H : Heap) (locs : List Loc) (ls : Array Slot), xPen_putTurnedFirst_B2 N k2 x1 x2 v_o_x v_o_y v_o_controlX v_o_controlY c_o_points = some c_o_points_z → va_P (dC, dI) clz [(q_o, .inr (3, f_Pen q_o_matrices q_o_points q_o_drawn v_o_x v_o_y v_o_startX v_o_startY v_o_controlX v_o_controlY v_o_controlFor)), (q_o_points, .inl (k_o_points, 6, .inr (.inl c_o_points)))] H → va_D A [(q_o, .inr (3, f_Pen q_o_matrices q_o_points q_o_drawn v_o_x v_o_y v_o_startX v_o_startY v_o_controlX v_o_controlY v_o_controlFor)), (q_o_points, .inl (k_o_points, 6, .inr (.inl c_o_points)))] → va_S A s.heap H locs → lv_has ls 3 [(0, .ref q_o), (1, .int x1), (2, .int x2)] → W p l e (headSpec w_xPen_putTurnedFirst ({ frames := 0, cells := 0, slots := 0, locals := 0 })).room s m args below meth c H locs 0 0 Q (F0 m 2 ls []) := by
    intro k2 hk2
    intro x1 x2 c_o_points H locs ls hf hP hD hS hl
    rw [xPen_putTurnedFirst_B2] at hf
    refine lv_iload_n (pc := 2) hx hb d_xPen_putTurnedFirst_2 rfl (lv_at hl 2 rfl) ?_
    refine lv_iconst (pc := 3) (v := (2 : Int32)) hx hb d_xPen_putTurnedFirst_3 (by decide) ?_
    refine lv_icmp_lt (pc := 4) (tgt := 27) hx hb d_xPen_putTurnedFirst_4 (by decide) (fun hc => ?_) (fun hc => ?_)
    · rw [if_pos hc] at hf
      refine lv_aload_n (pc := 27) hx hb d_xPen_putTurnedFirst_27 rfl (lv_at hl 0 rfl) ?_
      refine va_get (pc := 28) (D := (dC, dI)) (ci := 3) (v := .ref q_o_points) (C := "PathTexts$Pen") (T := F_Pen) (N := 10) hx hb hts (fun w h => List.mem_cons_of_mem _ (in_Pen w h)) hown hK hP 0 rfl rfl 1 (by decide) (hts _ (List.mem_cons_of_mem _ kw_73)) (fun _ h9 => h9) fg_Pen_1 d_xPen_putTurnedFirst_28 ?_
      refine lv_iconst (pc := 31) (v := (0 : Int32)) hx hb d_xPen_putTurnedFirst_31 (by decide) ?_
      refine lv_iload_n (pc := 32) hx hb d_xPen_putTurnedFirst_32 rfl (lv_at hl 1 rfl) ?_
      refine lv_if_eq (pc := 33) (tgt := 52) hx hb d_xPen_putTurnedFirst_33 (by decide) (fun hc => ?_) (fun hc => ?_)
      · rw [if_pos hc] at hf
        refine lv_aload_n (pc := 52) hx hb d_xPen_putTurnedFirst_52 rfl (lv_at hl 0 rfl) ?_
        refine va_get (pc := 53) (D := (dC, dI)) (ci := 3) (v := .long v_o_x) (C := "PathTexts$Pen") (T := F_Pen) (N := 10) hx hb hts (fun w h => List.mem_cons_of_mem _ (in_Pen w h)) hown hK hP 0 rfl rfl 3 (by decide) (hts _ (List.mem_cons_of_mem _ kw_75)) (fun _ h9 => h9) fg_Pen_3 d_xPen_putTurnedFirst_53 ?_
        exact hb56 x1 (0 : Int32) v_o_x c_o_points _ _ _ hf hP hD hS (lv_sub hl [0, 1] rfl)
      · rw [if_neg hc] at hf
        refine lv_ldc2 (pc := 36) hx hb hown (hts _ (List.mem_cons_of_mem _ kw_321)) d_xPen_putTurnedFirst_36 ?_
        refine lv_aload_n (pc := 39) hx hb d_xPen_putTurnedFirst_39 rfl (lv_at hl 0 rfl) ?_
        refine va_get (pc := 40) (D := (dC, dI)) (ci := 3) (v := .long v_o_x) (C := "PathTexts$Pen") (T := F_Pen) (N := 10) hx hb hts (fun w h => List.mem_cons_of_mem _ (in_Pen w h)) hown hK hP 0 rfl rfl 3 (by decide) (hts _ (List.mem_cons_of_mem _ kw_75)) (fun _ h9 => h9) fg_Pen_3 d_xPen_putTurnedFirst_40 ?_
        refine lv_lmul (pc := 43) hx hb d_xPen_putTurnedFirst_43 ?_
        refine lv_aload_n (pc := 44) hx hb d_xPen_putTurnedFirst_44 rfl (lv_at hl 0 rfl) ?_
        refine va_get (pc := 45) (D := (dC, dI)) (ci := 3) (v := .long v_o_controlX) (C := "PathTexts$Pen") (T := F_Pen) (N := 10) hx hb hts (fun w h => List.mem_cons_of_mem _ (in_Pen w h)) hown hK hP 0 rfl rfl 7 (by decide) (hts _ (List.mem_cons_of_mem _ kw_79)) (fun _ h9 => h9) fg_Pen_7 d_xPen_putTurnedFirst_45 ?_
        refine lv_lsub (pc := 48) hx hb d_xPen_putTurnedFirst_48 ?_
        refine lv_goto (pc := 49) (tgt := 56) hx hb d_xPen_putTurnedFirst_49 (by decide) ?_
        exact hb56 x1 (0 : Int32) (((2 : Int64) * v_o_x) - v_o_controlX) c_o_points _ _ _ hf hP hD hS (lv_sub hl [0, 1] rfl)
    · rw [if_neg hc] at hf
      refine lv_aload_n (pc := 7) hx hb d_xPen_putTurnedFirst_7 rfl (lv_at hl 0 rfl) ?_
      refine va_get (pc := 8) (D := (dC, dI)) (ci := 3) (v := .ref q_o_points) (C := "PathTexts$Pen") (T := F_Pen) (N := 10) hx hb hts (fun w h => List.mem_cons_of_mem _ (in_Pen w h)) hown hK hP 0 rfl rfl 1 (by decide) (hts _ (List.mem_cons_of_mem _ kw_73)) (fun _ h9 => h9) fg_Pen_1 d_xPen_putTurnedFirst_8 ?_
      refine lv_iload_n (pc := 11) hx hb d_xPen_putTurnedFirst_11 rfl (lv_at hl 2 rfl) ?_
      refine lv_aload_n (pc := 12) hx hb d_xPen_putTurnedFirst_12 rfl (lv_at hl 0 rfl) ?_
      refine va_get (pc := 13) (D := (dC, dI)) (ci := 3) (v := .ref q_o_points) (C := "PathTexts$Pen") (T := F_Pen) (N := 10) hx hb hts (fun w h => List.mem_cons_of_mem _ (in_Pen w h)) hown hK hP 0 rfl rfl 1 (by decide) (hts _ (List.mem_cons_of_mem _ kw_73)) (fun _ h9 => h9) fg_Pen_1 d_xPen_putTurnedFirst_13 ?_
      refine lv_iload_n (pc := 16) hx hb d_xPen_putTurnedFirst_16 rfl (lv_at hl 2 rfl) ?_
      refine lv_iconst (pc := 17) (v := (2 : Int32)) hx hb d_xPen_putTurnedFirst_17 (by decide) ?_
      refine lv_isub (pc := 18) hx hb d_xPen_putTurnedFirst_18 ?_
      obtain ⟨hg3, hf⟩ := kg_some hf
      refine va_lald (pc := 19) hx hb hK hP 1 0 rfl rfl (ki_in hg3) d_xPen_putTurnedFirst_19 ?_
      obtain ⟨hg4, hf⟩ := kg_some hf
      refine kx_last (pc := 20) (ws' := [(q_o, .inr (3, f_Pen q_o_matrices q_o_points q_o_drawn v_o_x v_o_y v_o_startX v_o_startY v_o_controlX v_o_controlY v_o_controlFor)), (q_o_points, .inl (k_o_points, 6, .inr (.inl (vp_updL c_o_points (x2).toNatClampNeg (c_o_points ((x2 - (2 : Int32))).toNatClampNeg)))))]) hx hb hK hP hD hS 1 0 rfl rfl (ki_in hg4) rfl d_xPen_putTurnedFirst_20 (fun H locs hP hD hS => ?_)
      refine lv_iinc (pc := 21) (v := (x2 + (-1 : Int32))) (lv' := [(2, .int (x2 + (-1 : Int32))), (0, .ref q_o), (1, .int x1)]) hx hb d_xPen_putTurnedFirst_21 hl (k := 2) rfl rfl (by decide) rfl (fun ls hl => ?_)
      refine lv_goto (pc := 24) (tgt := 2) hx hb d_xPen_putTurnedFirst_24 (by decide) ?_
      exact hk2 x1 (x2 + (-1 : Int32)) (vp_updL c_o_points (x2).toNatClampNeg (c_o_points ((x2 - (2 : Int32))).toNatClampNeg)) _ _ _ hf hP hD hS (lv_sub hl [1, 2, 0] rfl)
  have hL2 : ∀ n : Nat, ∀ (x1 : Int32) (x2 : Int32) (c_o_points : (Nat → Int64)) (H : Heap) (locs : List Loc) (ls : Array Slot), (xPen_putTurnedFirst_L2 N n) x1 x2 v_o_x v_o_y v_o_controlX v_o_controlY c_o_points = some c_o_points_z → va_P (dC, dI) clz [(q_o, .inr (3, f_Pen q_o_matrices q_o_points q_o_drawn v_o_x v_o_y v_o_startX v_o_startY v_o_controlX v_o_controlY v_o_controlFor)), (q_o_points, .inl (k_o_points, 6, .inr (.inl c_o_points)))] H → va_D A [(q_o, .inr (3, f_Pen q_o_matrices q_o_points q_o_drawn v_o_x v_o_y v_o_startX v_o_startY v_o_controlX v_o_controlY v_o_controlFor)), (q_o_points, .inl (k_o_points, 6, .inr (.inl c_o_points)))] → va_S A s.heap H locs → lv_has ls 3 [(0, .ref q_o), (1, .int x1), (2, .int x2)] → W p l e (headSpec w_xPen_putTurnedFirst ({ frames := 0, cells := 0, slots := 0, locals := 0 })).room s m args below meth c H locs 0 0 Q (F0 m 2 ls []) := by
    intro n
    induction n with
    | zero => intro x1 x2 c_o_points H locs ls hf hP hD hS hl; have hf : none = some c_o_points_z := hf; cases hf
    | succ n ih => exact hB2 (xPen_putTurnedFirst_L2 N n) ih
  rw [xPen_putTurnedFirst] at hf
  refine lv_iconst (pc := 0) (v := (5 : Int32)) hx hb d_xPen_putTurnedFirst_0 (by decide) ?_
  refine lv_istore_n (pc := 1) (lv' := [(2, .int (5 : Int32)), (0, .ref q_o), (1, .int x1)]) hx hb d_xPen_putTurnedFirst_1 rfl hl (by decide) rfl (fun ls hl => ?_)
  exact hL2 N x1 (5 : Int32) c_o_points _ _ _ hf hP hD hS (lv_sub hl [1, 2, 0] rfl)
set_option maxHeartbeats 4000000 in
set_option maxRecDepth 100000 in
theorem ct_xPen_aimByTwoControls (l : Launch) (dC : Nat → ClassId) (dI : Nat → Nat → Nat) (q_o : Nat) (q_o_matrices : Nat) (q_o_points : Nat) (q_o_drawn : Nat) (k_o_points : ClassId) (sz : Nat) (v_o_x : Int64) (v_o_y : Int64) (v_o_startX : Int64) (v_o_startY : Int64) (v_o_controlX : Int64) (v_o_controlY : Int64) (v_o_controlFor : Int32) (c_o_points : (Nat → Int64)) (v_o_controlX_z : Int64) (v_o_controlY_z : Int64) (v_o_controlFor_z : Int32) (hf : xPen_aimByTwoControls c_o_points = some (v_o_controlX_z, v_o_controlY_z, v_o_controlFor_z)) : Met l y_xPen_aimByTwoControls w_xPen_aimByTwoControls ({ frames := 0, cells := 0, slots := 0, locals := 0 }) (va_Pc [.ref q_o] (fun U => U.heap.size = sz ∧ va_P (dC, dI) clz [(q_o, .inr (3, f_Pen q_o_matrices q_o_points q_o_drawn v_o_x v_o_y v_o_startX v_o_startY v_o_controlX v_o_controlY v_o_controlFor)), (q_o_points, .inl (k_o_points, 6, .inr (.inl c_o_points)))] U.heap ∧ va_K (dC, dI) clz [(k_o_points, .long)] U ∧ va_D (fun _ => True) [(q_o, .inr (3, f_Pen q_o_matrices q_o_points q_o_drawn v_o_x v_o_y v_o_startX v_o_startY v_o_controlX v_o_controlY v_o_controlFor)), (q_o_points, .inl (k_o_points, 6, .inr (.inl c_o_points)))])) (va_Qv (fun _ : Unit => True) (fun _ t => va_P (dC, dI) clz [(q_o, .inr (3, f_Pen q_o_matrices q_o_points q_o_drawn v_o_x v_o_y v_o_startX v_o_startY v_o_controlX_z v_o_controlY_z v_o_controlFor_z)), (q_o_points, .inl (k_o_points, 6, .inr (.inl c_o_points)))] t.heap ∧ va_K (dC, dI) clz [(k_o_points, .long)] t ∧ va_D (va_A [(q_o, .inr (3, f_Pen q_o_matrices q_o_points q_o_drawn v_o_x v_o_y v_o_startX v_o_startY v_o_controlX v_o_controlY v_o_controlFor)), (q_o_points, .inl (k_o_points, 6, .inr (.inl c_o_points)))] sz) [(q_o, .inr (3, f_Pen q_o_matrices q_o_points q_o_drawn v_o_x v_o_y v_o_startX v_o_startY v_o_controlX_z v_o_controlY_z v_o_controlFor_z)), (q_o_points, .inl (k_o_points, 6, .inr (.inl c_o_points)))]) (va_A [(q_o, .inr (3, f_Pen q_o_matrices q_o_points q_o_drawn v_o_x v_o_y v_o_startX v_o_startY v_o_controlX v_o_controlY v_o_controlFor)), (q_o_points, .inl (k_o_points, 6, .inr (.inl c_o_points)))] sz)) 0 0 (va_A [(q_o, .inr (3, f_Pen q_o_matrices q_o_points q_o_drawn v_o_x v_o_y v_o_startX v_o_startY v_o_controlX v_o_controlY v_o_controlFor)), (q_o_points, .inl (k_o_points, 6, .inr (.inl c_o_points)))] sz) := by
  refine Met.ofW (cc := prog_5_method_6_code) (maxL := 1) (ret := none) (by decide +kernel) rfl ?_
  intro p e s m args below meth c s₁ B hml hv
  obtain ⟨hargs, hsz, hP, hK, hD0⟩ := hv
  have hx := B.exec
  have hb := B.bytes
  have hr := B.returns
  have hts := atoms_spec (ws := w_xPen_aimByTwoControls) B.pre
  have hown : s.vm.findClass "PathTexts$Pen" = some m.cls := findClass_of_methodNamed B.named
  have hlocks := B.notSynchronized
  subst hsz
  have hD := hD0.self (sz := s.heap.size)
  generalize hAe : va_A [(q_o, .inr (3, f_Pen q_o_matrices q_o_points q_o_drawn v_o_x v_o_y v_o_startX v_o_startY v_o_controlX v_o_controlY v_o_controlFor)), (q_o_points, .inl (k_o_points, 6, .inr (.inl c_o_points)))] s.heap.size = A at hD ⊢
  have hA : ∀ q : Nat, s.heap.size ≤ q → A q := fun q h => by rw [← hAe]; exact Or.inr h
  clear hAe hD0
  have hS : va_S A s.heap s.heap [] := va_S.rf
  have hl := lv_entry ([.ref q_o]) (n := 1) (Nat.le_of_ble_eq_true rfl)
  have hent : entryFrame m args 1 = F0 m 0 (lg_sl ([.ref q_o]) ++ List.replicate (1 - (lg_sl ([.ref q_o])).length) Slot.unset).toArray [] := by rw [hargs, lg_entry_eq]
  rw [hent]
  clear hent hargs
  generalize (lg_sl ([.ref q_o]) ++ List.replicate (1 - (lg_sl ([.ref q_o])).length) Slot.unset).toArray = ls at hl ⊢
  have hl : lv_has ls 1 [(0, .ref q_o)] := hl
  suffices key : ∀ Q : State → Prop, (∀ (pc : Nat) (H : Heap) (locs : List Loc) (ls : Array Slot), decode prog_5_method_6_code pc = .ok (.return_, 1) → va_P (dC, dI) clz [(q_o, .inr (3, f_Pen q_o_matrices q_o_points q_o_drawn v_o_x v_o_y v_o_startX v_o_startY v_o_controlX_z v_o_controlY_z v_o_controlFor_z)), (q_o_points, .inl (k_o_points, 6, .inr (.inl c_o_points)))] H → va_D A [(q_o, .inr (3, f_Pen q_o_matrices q_o_points q_o_drawn v_o_x v_o_y v_o_startX v_o_startY v_o_controlX_z v_o_controlY_z v_o_controlFor_z)), (q_o_points, .inl (k_o_points, 6, .inr (.inl c_o_points)))] → va_S A s.heap H locs → W p l e (headSpec w_xPen_aimByTwoControls ({ frames := 0, cells := 0, slots := 0, locals := 0 })).room s m args below meth c H locs 0 0 Q (F0 m pc ls [])) → W p l e (headSpec w_xPen_aimByTwoControls ({ frames := 0, cells := 0, slots := 0, locals := 0 })).room s m args below meth c s.heap [] 0 0 Q (F0 m 0 ls []) from key _ (fun pc H locs ls hd hP hD hS => W.vret hx hb hr (fun t ht hW => ⟨⟨(), rfl, trivial, by rw [ht]; exact hP, va_K.moved hW.alike hK, hD⟩, hS.F ht⟩) hS.2.2 hd)
  intro Q hRet
  rw [xPen_aimByTwoControls] at hf
  refine lv_aload_n (pc := 0) hx hb d_xPen_aimByTwoControls_0 rfl (lv_at hl 0 rfl) ?_
  refine lv_aload_n (pc := 1) hx hb d_xPen_aimByTwoControls_1 rfl (lv_at hl 0 rfl) ?_
  refine va_get (pc := 2) (D := (dC, dI)) (ci := 3) (v := .ref q_o_points) (C := "PathTexts$Pen") (T := F_Pen) (N := 10) hx hb hts (fun w h => List.mem_cons_of_mem _ (in_Pen w h)) hown hK hP 0 rfl rfl 1 (by decide) (hts _ (List.mem_cons_of_mem _ kw_73)) (fun _ h9 => h9) fg_Pen_1 d_xPen_aimByTwoControls_2 ?_
  refine lv_iconst (pc := 5) (v := (2 : Int32)) hx hb d_xPen_aimByTwoControls_5 (by decide) ?_
  refine va_lald (pc := 6) hx hb hK hP 1 0 rfl rfl (ki_in (by decide)) d_xPen_aimByTwoControls_6 ?_
  refine kx_put (pc := 7) (D := (dC, dI)) (ci := 3) (v := .long (c_o_points ((2 : Int32)).toNatClampNeg)) (ty := .long) (C := "PathTexts$Pen") (T := F_Pen) (N := 10) hx hb hts (fun w h => List.mem_cons_of_mem _ (in_Pen w h)) t_Pen tk_Pen n_Pen hown hK hP hD hS 0 rfl rfl 7 (by decide) (hts _ (List.mem_cons_of_mem _ kw_79)) (fun _ h9 => h9) rfl (tk_Pen 7 (by decide)) rfl rfl fl_Pen_7 fs_Pen_7 (ws' := [(q_o, .inr (3, f_Pen q_o_matrices q_o_points q_o_drawn v_o_x v_o_y v_o_startX v_o_startY (c_o_points ((2 : Int32)).toNatClampNeg) v_o_controlY v_o_controlFor)), (q_o_points, .inl (k_o_points, 6, .inr (.inl c_o_points)))]) rfl d_xPen_aimByTwoControls_7 (fun H locs hP hD hS => ?_)
  refine lv_aload_n (pc := 10) hx hb d_xPen_aimByTwoControls_10 rfl (lv_at hl 0 rfl) ?_
  refine lv_aload_n (pc := 11) hx hb d_xPen_aimByTwoControls_11 rfl (lv_at hl 0 rfl) ?_
  refine va_get (pc := 12) (D := (dC, dI)) (ci := 3) (v := .ref q_o_points) (C := "PathTexts$Pen") (T := F_Pen) (N := 10) hx hb hts (fun w h => List.mem_cons_of_mem _ (in_Pen w h)) hown hK hP 0 rfl rfl 1 (by decide) (hts _ (List.mem_cons_of_mem _ kw_73)) (fun _ h9 => h9) fg_Pen_1 d_xPen_aimByTwoControls_12 ?_
  refine lv_iconst (pc := 15) (v := (3 : Int32)) hx hb d_xPen_aimByTwoControls_15 (by decide) ?_
  refine va_lald (pc := 16) hx hb hK hP 1 0 rfl rfl (ki_in (by decide)) d_xPen_aimByTwoControls_16 ?_
  refine kx_put (pc := 17) (D := (dC, dI)) (ci := 3) (v := .long (c_o_points ((3 : Int32)).toNatClampNeg)) (ty := .long) (C := "PathTexts$Pen") (T := F_Pen) (N := 10) hx hb hts (fun w h => List.mem_cons_of_mem _ (in_Pen w h)) t_Pen tk_Pen n_Pen hown hK hP hD hS 0 rfl rfl 8 (by decide) (hts _ (List.mem_cons_of_mem _ kw_80)) (fun _ h9 => h9) rfl (tk_Pen 8 (by decide)) rfl rfl fl_Pen_8 fs_Pen_8 (ws' := [(q_o, .inr (3, f_Pen q_o_matrices q_o_points q_o_drawn v_o_x v_o_y v_o_startX v_o_startY (c_o_points ((2 : Int32)).toNatClampNeg) (c_o_points ((3 : Int32)).toNatClampNeg) v_o_controlFor)), (q_o_points, .inl (k_o_points, 6, .inr (.inl c_o_points)))]) rfl d_xPen_aimByTwoControls_17 (fun H locs hP hD hS => ?_)
  refine lv_aload_n (pc := 20) hx hb d_xPen_aimByTwoControls_20 rfl (lv_at hl 0 rfl) ?_
  refine lv_bipush (pc := 21) (v := (67 : Int32)) hx hb d_xPen_aimByTwoControls_21 (by decide) ?_
  refine kx_put (pc := 23) (D := (dC, dI)) (ci := 3) (v := .int (67 : Int32)) (ty := .char) (C := "PathTexts$Pen") (T := F_Pen) (N := 10) hx hb hts (fun w h => List.mem_cons_of_mem _ (in_Pen w h)) t_Pen tk_Pen n_Pen hown hK hP hD hS 0 rfl rfl 9 (by decide) (hts _ (List.mem_cons_of_mem _ kw_81)) (fun _ h9 => h9) rfl (tk_Pen 9 (by decide)) (by decide) (by decide) fl_Pen_9 fs_Pen_9 (ws' := [(q_o, .inr (3, f_Pen q_o_matrices q_o_points q_o_drawn v_o_x v_o_y v_o_startX v_o_startY (c_o_points ((2 : Int32)).toNatClampNeg) (c_o_points ((3 : Int32)).toNatClampNeg) (67 : Int32))), (q_o_points, .inl (k_o_points, 6, .inr (.inl c_o_points)))]) rfl d_xPen_aimByTwoControls_23 (fun H locs hP hD hS => ?_)
  obtain ⟨e_0, e_1, e_2⟩ := kr3 hf
  exact hRet 26 _ _ _ d_xPen_aimByTwoControls_26 (by rw [← e_0, ← e_1, ← e_2]; exact hP) (by rw [← e_0, ← e_1, ← e_2]; exact hD) hS
