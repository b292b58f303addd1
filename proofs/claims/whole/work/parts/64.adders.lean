theorem e_move {N c : Nat} {x1 x2 : Int32} {g o : Nat → Int64} {xk xn yk yn : Nat → Int32} (hN : 200 ≤ N) (hD : rD c xk xn yk yn) (hM : rM c yk) :
    ∃ r b g' c' xn' xk' yn' yk' o', lPLaw_move N x1 x2 g (nI c) xn xk o = some (r, g', nI c', xn', xk', o') ∧ m_move x1 x2 (nI c) yn yk = some (b, r, nI c', yn', yk') ∧ (r = 0 → o' 0 = Int32.toInt64 b) ∧ rD c' xk' xn' yk' yn' ∧ rM c' yk' := by
  have hc := hD.1
  have g0 : okL ((vp_updL (vp_updL g (0 : Int32).toNatClampNeg (Int32.toInt64 x1)) (1 : Int32).toNatClampNeg (Int32.toInt64 x2)) 0) ↔ ok32 x1 := ok_up
  have g1 : okL ((vp_updL (vp_updL g (0 : Int32).toNatClampNeg (Int32.toInt64 x1)) (1 : Int32).toNatClampNeg (Int32.toInt64 x2)) 1) ↔ ok32 x2 := ok_up
  by_cases hb : ok32 x1 ∧ ok32 x2
  · have hg : ∀ j, j < nd 0 → okL ((vp_updL (vp_updL g (0 : Int32).toNatClampNeg (Int32.toInt64 x1)) (1 : Int32).toNatClampNeg (Int32.toInt64 x2)) j) := fun j hj => by
      have hj : j < 2 := hj
      have h : j = 0 ∨ j = 1 := by omega
      rcases h with rfl | rfl
      · exact g0.mpr hb.1
      · exact g1.mpr hb.2
    by_cases h1 : c = 150
    · subst h1
      refine ⟨2, 0, vp_updL (vp_updL g (0 : Int32).toNatClampNeg (Int32.toInt64 x1)) (1 : Int32).toNatClampNeg (Int32.toInt64 x2), _, xn, xk, yn, yk, o, ?_, ?_, fun h => absurd h (by decide), hD, hM⟩
      · unfold lPLaw_move xP_move; rw [ag_full (by unfold kd; decide) (by omega) hg]; rfl
      · unfold m_move m_move_b34; rw [mn_t hb.1, mn_t hb.2]; rfl
    have e9 : ¬ nI c = 150 := by rw [show (150 : Int32) = nI 150 from rfl, z_inj (by omega) (by omega)]; exact h1
    refine ⟨0, nI (c + 1), vp_updL (vp_updL g (0 : Int32).toNatClampNeg (Int32.toInt64 x1)) (1 : Int32).toNatClampNeg (Int32.toInt64 x2), c + 1, putN xn c 2 (fun j => Int64.toInt32 ((vp_updL (vp_updL g (0 : Int32).toNatClampNeg (Int32.toInt64 x1)) (1 : Int32).toNatClampNeg (Int32.toInt64 x2)) j)), upd xk c 0, upd (upd yn (6 * c + 0) x1) (6 * c + 1) x2, upd yk c 0, vp_updL o 0 (Int32.toInt64 (nI (c + 1))), ?_, ?_, fun _ => rfl, ?_, ?_⟩
    · unfold lPLaw_move xP_move; rw [ag_ok (by unfold kd; decide) (by omega) hg (by omega) (by intro h; rfl)]; rfl
    · unfold m_move m_move_b34; rw [mn_t hb.1, mn_t hb.2]
      have e0 := mp_eq (c := c) (i := 0) (v := x1) (yn := yn) (by omega) (by omega)
      have e1 := mp_eq (c := c) (i := 1) (v := x2) (yn := upd yn (6 * c + 0) x1) (by omega) (by omega)
      have ea := ma_eq (c := c) (kind := 0) (yk := yk) (by omega)
      simp only [z_b1, e9, if_false, show ¬ (1 : Int32) = 0 by decide, show (0 : Int32) ≤ 0 by decide, if_true]
      rw [show m_put 0 x1 (nI c) _ = _ from e0, z_b1, show m_put 1 x2 (nI c) _ = _ from e1, z_b1, ea]; rfl
    · refine rD_push hD (by omega) (by unfold kd; decide) (fun j hj => ?_) (fun j hj => ?_) (fun i hi => ?_)
      · unfold putN; rw [if_neg (by omega)]
      · rw [upd_ne (by omega), upd_ne (by omega)]
      · have hi : i < 2 := hi
        have h : i = 0 ∨ i = 1 := by omega
        have t : ∀ v : Int32, Int64.toInt32 (Int32.toInt64 v) = v := fun v => Int32.toInt32_toInt64 v
        rcases h with rfl | rfl
        · have a1 : (putN xn c 2 (fun j => Int64.toInt32 ((vp_updL (vp_updL g (0 : Int32).toNatClampNeg (Int32.toInt64 x1)) (1 : Int32).toNatClampNeg (Int32.toInt64 x2)) j))) (6 * c + 0) = x1 := by
            unfold putN; rw [if_pos (by omega), show 6 * c + 0 - 6 * c = 0 by omega]; exact t x1
          have a2 : (upd (upd yn (6 * c + 0) x1) (6 * c + 1) x2) (6 * c + 0) = x1 := by rw [upd_ne (by omega), upd_at]
          rw [a1, a2]; exact ⟨rfl, hb.1⟩
        · have a1 : (putN xn c 2 (fun j => Int64.toInt32 ((vp_updL (vp_updL g (0 : Int32).toNatClampNeg (Int32.toInt64 x1)) (1 : Int32).toNatClampNeg (Int32.toInt64 x2)) j))) (6 * c + 1) = x2 := by
            unfold putN; rw [if_pos (by omega), show 6 * c + 1 - 6 * c = 1 by omega]; exact t x2
          have a2 : (upd (upd yn (6 * c + 0) x1) (6 * c + 1) x2) (6 * c + 1) = x2 := by rw [upd_at]
          rw [a1, a2]; exact ⟨rfl, hb.2⟩
    · exact rM_push hM (by intro h; rfl)
  · have hg : ¬ ∀ j, j < nd 0 → okL ((vp_updL (vp_updL g (0 : Int32).toNatClampNeg (Int32.toInt64 x1)) (1 : Int32).toNatClampNeg (Int32.toInt64 x2)) j) := fun h => hb ⟨g0.mp (h 0 (by decide)), g1.mp (h 1 (by decide))⟩
    refine ⟨1, 0, vp_updL (vp_updL g (0 : Int32).toNatClampNeg (Int32.toInt64 x1)) (1 : Int32).toNatClampNeg (Int32.toInt64 x2), _, xn, xk, yn, yk, o, ?_, ?_, fun h => absurd h (by decide), hD, hM⟩
    · unfold lPLaw_move xP_move; rw [ag_num (by unfold kd; decide) (by omega) hg]; rfl
    · unfold m_move m_move_b34
      by_cases h1 : ok32 x1
      case neg => skip; rw [mn_f h1]; rfl
      rw [mn_t h1, mn_f (fun h => hb ⟨h1, h⟩)]; rfl
theorem e_line {N c : Nat} {x1 x2 : Int32} {g o : Nat → Int64} {xk xn yk yn : Nat → Int32} (hN : 200 ≤ N) (hD : rD c xk xn yk yn) (hM : rM c yk) :
    ∃ r b g' c' xn' xk' yn' yk' o', lPLaw_line N x1 x2 g (nI c) xn xk o = some (r, g', nI c', xn', xk', o') ∧ m_line N x1 x2 (nI c) yk yn = some (b, r, nI c', yk', yn') ∧ (r = 0 → o' 0 = Int32.toInt64 b) ∧ rD c' xk' xn' yk' yn' ∧ rM c' yk' := by
  have hc := hD.1
  have g0 : okL ((vp_updL (vp_updL g (0 : Int32).toNatClampNeg (Int32.toInt64 x1)) (1 : Int32).toNatClampNeg (Int32.toInt64 x2)) 0) ↔ ok32 x1 := ok_up
  have g1 : okL ((vp_updL (vp_updL g (0 : Int32).toNatClampNeg (Int32.toInt64 x1)) (1 : Int32).toNatClampNeg (Int32.toInt64 x2)) 1) ↔ ok32 x2 := ok_up
  by_cases hb : ok32 x1 ∧ ok32 x2
  · have hg : ∀ j, j < nd 1 → okL ((vp_updL (vp_updL g (0 : Int32).toNatClampNeg (Int32.toInt64 x1)) (1 : Int32).toNatClampNeg (Int32.toInt64 x2)) j) := fun j hj => by
      have hj : j < 2 := hj
      have h : j = 0 ∨ j = 1 := by omega
      rcases h with rfl | rfl
      · exact g0.mpr hb.1
      · exact g1.mpr hb.2
    by_cases h0 : c = 0
    · subst h0
      refine ⟨2, 0, vp_updL (vp_updL g (0 : Int32).toNatClampNeg (Int32.toInt64 x1)) (1 : Int32).toNatClampNeg (Int32.toInt64 x2), _, xn, xk, yn, yk, o, ?_, ?_, fun h => absurd h (by decide), hD, hM⟩
      · unfold lPLaw_line xP_line; rw [ag_no (by unfold kd; decide) (by omega) hg (by decide)]; rfl
      · unfold m_line m_line_b45; rw [mn_t hb.1, mn_t hb.2, hm_0 hN]; rfl
    by_cases h1 : c = 150
    · subst h1
      refine ⟨3, 0, vp_updL (vp_updL g (0 : Int32).toNatClampNeg (Int32.toInt64 x1)) (1 : Int32).toNatClampNeg (Int32.toInt64 x2), _, xn, xk, yn, yk, o, ?_, ?_, fun h => absurd h (by decide), hD, hM⟩
      · unfold lPLaw_line xP_line; rw [ag_full (by unfold kd; decide) (by omega) hg]; rfl
      · unfold m_line m_line_b45; rw [mn_t hb.1, mn_t hb.2, hm_p hc hN hM h0]; rfl
    have e9 : ¬ nI c = 150 := by rw [show (150 : Int32) = nI 150 from rfl, z_inj (by omega) (by omega)]; exact h1
    refine ⟨0, nI (c + 1), vp_updL (vp_updL g (0 : Int32).toNatClampNeg (Int32.toInt64 x1)) (1 : Int32).toNatClampNeg (Int32.toInt64 x2), c + 1, putN xn c 2 (fun j => Int64.toInt32 ((vp_updL (vp_updL g (0 : Int32).toNatClampNeg (Int32.toInt64 x1)) (1 : Int32).toNatClampNeg (Int32.toInt64 x2)) j)), upd xk c 1, upd (upd yn (6 * c + 0) x1) (6 * c + 1) x2, upd yk c 1, vp_updL o 0 (Int32.toInt64 (nI (c + 1))), ?_, ?_, fun _ => rfl, ?_, ?_⟩
    · unfold lPLaw_line xP_line; rw [ag_ok (by unfold kd; decide) (by omega) hg (by omega) (by intro h; exact absurd h h0)]; rfl
    · unfold m_line m_line_b45; rw [mn_t hb.1, mn_t hb.2, hm_p hc hN hM h0]
      have e0 := mp_eq (c := c) (i := 0) (v := x1) (yn := yn) (by omega) (by omega)
      have e1 := mp_eq (c := c) (i := 1) (v := x2) (yn := upd yn (6 * c + 0) x1) (by omega) (by omega)
      have ea := ma_eq (c := c) (kind := 1) (yk := yk) (by omega)
      simp only [z_b1, e9, if_false, show ¬ (1 : Int32) = 0 by decide, show (0 : Int32) ≤ 0 by decide, if_true]
      rw [show m_put 0 x1 (nI c) _ = _ from e0, z_b1, show m_put 1 x2 (nI c) _ = _ from e1, z_b1, ea]; rfl
    · refine rD_push hD (by omega) (by unfold kd; decide) (fun j hj => ?_) (fun j hj => ?_) (fun i hi => ?_)
      · unfold putN; rw [if_neg (by omega)]
      · rw [upd_ne (by omega), upd_ne (by omega)]
      · have hi : i < 2 := hi
        have h : i = 0 ∨ i = 1 := by omega
        have t : ∀ v : Int32, Int64.toInt32 (Int32.toInt64 v) = v := fun v => Int32.toInt32_toInt64 v
        rcases h with rfl | rfl
        · have a1 : (putN xn c 2 (fun j => Int64.toInt32 ((vp_updL (vp_updL g (0 : Int32).toNatClampNeg (Int32.toInt64 x1)) (1 : Int32).toNatClampNeg (Int32.toInt64 x2)) j))) (6 * c + 0) = x1 := by
            unfold putN; rw [if_pos (by omega), show 6 * c + 0 - 6 * c = 0 by omega]; exact t x1
          have a2 : (upd (upd yn (6 * c + 0) x1) (6 * c + 1) x2) (6 * c + 0) = x1 := by rw [upd_ne (by omega), upd_at]
          rw [a1, a2]; exact ⟨rfl, hb.1⟩
        · have a1 : (putN xn c 2 (fun j => Int64.toInt32 ((vp_updL (vp_updL g (0 : Int32).toNatClampNeg (Int32.toInt64 x1)) (1 : Int32).toNatClampNeg (Int32.toInt64 x2)) j))) (6 * c + 1) = x2 := by
            unfold putN; rw [if_pos (by omega), show 6 * c + 1 - 6 * c = 1 by omega]; exact t x2
          have a2 : (upd (upd yn (6 * c + 0) x1) (6 * c + 1) x2) (6 * c + 1) = x2 := by rw [upd_at]
          rw [a1, a2]; exact ⟨rfl, hb.2⟩
    · exact rM_push hM (by intro h; exact absurd h h0)
  · have hg : ¬ ∀ j, j < nd 1 → okL ((vp_updL (vp_updL g (0 : Int32).toNatClampNeg (Int32.toInt64 x1)) (1 : Int32).toNatClampNeg (Int32.toInt64 x2)) j) := fun h => hb ⟨g0.mp (h 0 (by decide)), g1.mp (h 1 (by decide))⟩
    refine ⟨1, 0, vp_updL (vp_updL g (0 : Int32).toNatClampNeg (Int32.toInt64 x1)) (1 : Int32).toNatClampNeg (Int32.toInt64 x2), _, xn, xk, yn, yk, o, ?_, ?_, fun h => absurd h (by decide), hD, hM⟩
    · unfold lPLaw_line xP_line; rw [ag_num (by unfold kd; decide) (by omega) hg]; rfl
    · unfold m_line m_line_b45
      by_cases h1 : ok32 x1
      case neg => skip; rw [mn_f h1]; rfl
      rw [mn_t h1, mn_f (fun h => hb ⟨h1, h⟩)]; rfl
theorem e_cubic {N c : Nat} {x1 x2 x3 x4 x5 x6 : Int32} {g o : Nat → Int64} {xk xn yk yn : Nat → Int32} (hN : 200 ≤ N) (hD : rD c xk xn yk yn) (hM : rM c yk) :
    ∃ r b g' c' xn' xk' yn' yk' o', lPLaw_cubic N x1 x2 x3 x4 x5 x6 g (nI c) xn xk o = some (r, g', nI c', xn', xk', o') ∧ m_cubic N x1 x2 x3 x4 x5 x6 (nI c) yn yk = some (b, r, nI c', yn', yk') ∧ (r = 0 → o' 0 = Int32.toInt64 b) ∧ rD c' xk' xn' yk' yn' ∧ rM c' yk' := by
  have hc := hD.1
  have g0 : okL ((vp_updL (vp_updL (vp_updL (vp_updL (vp_updL (vp_updL g (0 : Int32).toNatClampNeg (Int32.toInt64 x1)) (1 : Int32).toNatClampNeg (Int32.toInt64 x2)) (2 : Int32).toNatClampNeg (Int32.toInt64 x3)) (3 : Int32).toNatClampNeg (Int32.toInt64 x4)) (4 : Int32).toNatClampNeg (Int32.toInt64 x5)) (5 : Int32).toNatClampNeg (Int32.toInt64 x6)) 0) ↔ ok32 x1 := ok_up
  have g1 : okL ((vp_updL (vp_updL (vp_updL (vp_updL (vp_updL (vp_updL g (0 : Int32).toNatClampNeg (Int32.toInt64 x1)) (1 : Int32).toNatClampNeg (Int32.toInt64 x2)) (2 : Int32).toNatClampNeg (Int32.toInt64 x3)) (3 : Int32).toNatClampNeg (Int32.toInt64 x4)) (4 : Int32).toNatClampNeg (Int32.toInt64 x5)) (5 : Int32).toNatClampNeg (Int32.toInt64 x6)) 1) ↔ ok32 x2 := ok_up
  have g2 : okL ((vp_updL (vp_updL (vp_updL (vp_updL (vp_updL (vp_updL g (0 : Int32).toNatClampNeg (Int32.toInt64 x1)) (1 : Int32).toNatClampNeg (Int32.toInt64 x2)) (2 : Int32).toNatClampNeg (Int32.toInt64 x3)) (3 : Int32).toNatClampNeg (Int32.toInt64 x4)) (4 : Int32).toNatClampNeg (Int32.toInt64 x5)) (5 : Int32).toNatClampNeg (Int32.toInt64 x6)) 2) ↔ ok32 x3 := ok_up
  have g3 : okL ((vp_updL (vp_updL (vp_updL (vp_updL (vp_updL (vp_updL g (0 : Int32).toNatClampNeg (Int32.toInt64 x1)) (1 : Int32).toNatClampNeg (Int32.toInt64 x2)) (2 : Int32).toNatClampNeg (Int32.toInt64 x3)) (3 : Int32).toNatClampNeg (Int32.toInt64 x4)) (4 : Int32).toNatClampNeg (Int32.toInt64 x5)) (5 : Int32).toNatClampNeg (Int32.toInt64 x6)) 3) ↔ ok32 x4 := ok_up
  have g4 : okL ((vp_updL (vp_updL (vp_updL (vp_updL (vp_updL (vp_updL g (0 : Int32).toNatClampNeg (Int32.toInt64 x1)) (1 : Int32).toNatClampNeg (Int32.toInt64 x2)) (2 : Int32).toNatClampNeg (Int32.toInt64 x3)) (3 : Int32).toNatClampNeg (Int32.toInt64 x4)) (4 : Int32).toNatClampNeg (Int32.toInt64 x5)) (5 : Int32).toNatClampNeg (Int32.toInt64 x6)) 4) ↔ ok32 x5 := ok_up
  have g5 : okL ((vp_updL (vp_updL (vp_updL (vp_updL (vp_updL (vp_updL g (0 : Int32).toNatClampNeg (Int32.toInt64 x1)) (1 : Int32).toNatClampNeg (Int32.toInt64 x2)) (2 : Int32).toNatClampNeg (Int32.toInt64 x3)) (3 : Int32).toNatClampNeg (Int32.toInt64 x4)) (4 : Int32).toNatClampNeg (Int32.toInt64 x5)) (5 : Int32).toNatClampNeg (Int32.toInt64 x6)) 5) ↔ ok32 x6 := ok_up
  by_cases hb : ok32 x1 ∧ ok32 x2 ∧ ok32 x3 ∧ ok32 x4 ∧ ok32 x5 ∧ ok32 x6
  · have hg : ∀ j, j < nd 2 → okL ((vp_updL (vp_updL (vp_updL (vp_updL (vp_updL (vp_updL g (0 : Int32).toNatClampNeg (Int32.toInt64 x1)) (1 : Int32).toNatClampNeg (Int32.toInt64 x2)) (2 : Int32).toNatClampNeg (Int32.toInt64 x3)) (3 : Int32).toNatClampNeg (Int32.toInt64 x4)) (4 : Int32).toNatClampNeg (Int32.toInt64 x5)) (5 : Int32).toNatClampNeg (Int32.toInt64 x6)) j) := fun j hj => by
      have hj : j < 6 := hj
      have h : j = 0 ∨ j = 1 ∨ j = 2 ∨ j = 3 ∨ j = 4 ∨ j = 5 := by omega
      rcases h with rfl | rfl | rfl | rfl | rfl | rfl
      · exact g0.mpr hb.1
      · exact g1.mpr hb.2.1
      · exact g2.mpr hb.2.2.1
      · exact g3.mpr hb.2.2.2.1
      · exact g4.mpr hb.2.2.2.2.1
      · exact g5.mpr hb.2.2.2.2.2
    by_cases h0 : c = 0
    · subst h0
      refine ⟨2, 0, vp_updL (vp_updL (vp_updL (vp_updL (vp_updL (vp_updL g (0 : Int32).toNatClampNeg (Int32.toInt64 x1)) (1 : Int32).toNatClampNeg (Int32.toInt64 x2)) (2 : Int32).toNatClampNeg (Int32.toInt64 x3)) (3 : Int32).toNatClampNeg (Int32.toInt64 x4)) (4 : Int32).toNatClampNeg (Int32.toInt64 x5)) (5 : Int32).toNatClampNeg (Int32.toInt64 x6), _, xn, xk, yn, yk, o, ?_, ?_, fun h => absurd h (by decide), hD, hM⟩
      · unfold lPLaw_cubic xP_cubic; rw [ag_no (by unfold kd; decide) (by omega) hg (by decide)]; rfl
      · unfold m_cubic m_cubic_b50 m_cubic_b88; rw [mn_t hb.1, mn_t hb.2.1, mn_t hb.2.2.1, mn_t hb.2.2.2.1, mn_t hb.2.2.2.2.1, mn_t hb.2.2.2.2.2]; simp only [z_b1]; rw [hm_0 hN]; rfl
    by_cases h1 : c = 150
    · subst h1
      refine ⟨3, 0, vp_updL (vp_updL (vp_updL (vp_updL (vp_updL (vp_updL g (0 : Int32).toNatClampNeg (Int32.toInt64 x1)) (1 : Int32).toNatClampNeg (Int32.toInt64 x2)) (2 : Int32).toNatClampNeg (Int32.toInt64 x3)) (3 : Int32).toNatClampNeg (Int32.toInt64 x4)) (4 : Int32).toNatClampNeg (Int32.toInt64 x5)) (5 : Int32).toNatClampNeg (Int32.toInt64 x6), _, xn, xk, yn, yk, o, ?_, ?_, fun h => absurd h (by decide), hD, hM⟩
      · unfold lPLaw_cubic xP_cubic; rw [ag_full (by unfold kd; decide) (by omega) hg]; rfl
      · unfold m_cubic m_cubic_b50 m_cubic_b88; rw [mn_t hb.1, mn_t hb.2.1, mn_t hb.2.2.1, mn_t hb.2.2.2.1, mn_t hb.2.2.2.2.1, mn_t hb.2.2.2.2.2]; simp only [z_b1]; rw [hm_p hc hN hM h0]; rfl
    have e9 : ¬ nI c = 150 := by rw [show (150 : Int32) = nI 150 from rfl, z_inj (by omega) (by omega)]; exact h1
    refine ⟨0, nI (c + 1), vp_updL (vp_updL (vp_updL (vp_updL (vp_updL (vp_updL g (0 : Int32).toNatClampNeg (Int32.toInt64 x1)) (1 : Int32).toNatClampNeg (Int32.toInt64 x2)) (2 : Int32).toNatClampNeg (Int32.toInt64 x3)) (3 : Int32).toNatClampNeg (Int32.toInt64 x4)) (4 : Int32).toNatClampNeg (Int32.toInt64 x5)) (5 : Int32).toNatClampNeg (Int32.toInt64 x6), c + 1, putN xn c 6 (fun j => Int64.toInt32 ((vp_updL (vp_updL (vp_updL (vp_updL (vp_updL (vp_updL g (0 : Int32).toNatClampNeg (Int32.toInt64 x1)) (1 : Int32).toNatClampNeg (Int32.toInt64 x2)) (2 : Int32).toNatClampNeg (Int32.toInt64 x3)) (3 : Int32).toNatClampNeg (Int32.toInt64 x4)) (4 : Int32).toNatClampNeg (Int32.toInt64 x5)) (5 : Int32).toNatClampNeg (Int32.toInt64 x6)) j)), upd xk c 2, upd (upd (upd (upd (upd (upd yn (6 * c + 0) x1) (6 * c + 1) x2) (6 * c + 2) x3) (6 * c + 3) x4) (6 * c + 4) x5) (6 * c + 5) x6, upd yk c 2, vp_updL o 0 (Int32.toInt64 (nI (c + 1))), ?_, ?_, fun _ => rfl, ?_, ?_⟩
    · unfold lPLaw_cubic xP_cubic; rw [ag_ok (by unfold kd; decide) (by omega) hg (by omega) (by intro h; exact absurd h h0)]; rfl
    · unfold m_cubic m_cubic_b50 m_cubic_b88; rw [mn_t hb.1, mn_t hb.2.1, mn_t hb.2.2.1, mn_t hb.2.2.2.1, mn_t hb.2.2.2.2.1, mn_t hb.2.2.2.2.2]; simp only [z_b1]; rw [hm_p hc hN hM h0]
      have e0 := mp_eq (c := c) (i := 0) (v := x1) (yn := yn) (by omega) (by omega)
      have e1 := mp_eq (c := c) (i := 1) (v := x2) (yn := upd yn (6 * c + 0) x1) (by omega) (by omega)
      have e2 := mp_eq (c := c) (i := 2) (v := x3) (yn := upd (upd yn (6 * c + 0) x1) (6 * c + 1) x2) (by omega) (by omega)
      have e3 := mp_eq (c := c) (i := 3) (v := x4) (yn := upd (upd (upd yn (6 * c + 0) x1) (6 * c + 1) x2) (6 * c + 2) x3) (by omega) (by omega)
      have e4 := mp_eq (c := c) (i := 4) (v := x5) (yn := upd (upd (upd (upd yn (6 * c + 0) x1) (6 * c + 1) x2) (6 * c + 2) x3) (6 * c + 3) x4) (by omega) (by omega)
      have e5 := mp_eq (c := c) (i := 5) (v := x6) (yn := upd (upd (upd (upd (upd yn (6 * c + 0) x1) (6 * c + 1) x2) (6 * c + 2) x3) (6 * c + 3) x4) (6 * c + 4) x5) (by omega) (by omega)
      have ea := ma_eq (c := c) (kind := 2) (yk := yk) (by omega)
      simp only [z_b1, e9, if_false, show ¬ (1 : Int32) = 0 by decide, show (0 : Int32) ≤ 0 by decide, if_true]
      rw [show m_put 0 x1 (nI c) _ = _ from e0, z_b1, show m_put 1 x2 (nI c) _ = _ from e1, z_b1, show m_put 2 x3 (nI c) _ = _ from e2, z_b1, show m_put 3 x4 (nI c) _ = _ from e3, z_b1, show m_put 4 x5 (nI c) _ = _ from e4, z_b1, show m_put 5 x6 (nI c) _ = _ from e5, z_b1, ea]; rfl
    · refine rD_push hD (by omega) (by unfold kd; decide) (fun j hj => ?_) (fun j hj => ?_) (fun i hi => ?_)
      · unfold putN; rw [if_neg (by omega)]
      · rw [upd_ne (by omega), upd_ne (by omega), upd_ne (by omega), upd_ne (by omega), upd_ne (by omega), upd_ne (by omega)]
      · have hi : i < 6 := hi
        have h : i = 0 ∨ i = 1 ∨ i = 2 ∨ i = 3 ∨ i = 4 ∨ i = 5 := by omega
        have t : ∀ v : Int32, Int64.toInt32 (Int32.toInt64 v) = v := fun v => Int32.toInt32_toInt64 v
        rcases h with rfl | rfl | rfl | rfl | rfl | rfl
        · have a1 : (putN xn c 6 (fun j => Int64.toInt32 ((vp_updL (vp_updL (vp_updL (vp_updL (vp_updL (vp_updL g (0 : Int32).toNatClampNeg (Int32.toInt64 x1)) (1 : Int32).toNatClampNeg (Int32.toInt64 x2)) (2 : Int32).toNatClampNeg (Int32.toInt64 x3)) (3 : Int32).toNatClampNeg (Int32.toInt64 x4)) (4 : Int32).toNatClampNeg (Int32.toInt64 x5)) (5 : Int32).toNatClampNeg (Int32.toInt64 x6)) j))) (6 * c + 0) = x1 := by
            unfold putN; rw [if_pos (by omega), show 6 * c + 0 - 6 * c = 0 by omega]; exact t x1
          have a2 : (upd (upd (upd (upd (upd (upd yn (6 * c + 0) x1) (6 * c + 1) x2) (6 * c + 2) x3) (6 * c + 3) x4) (6 * c + 4) x5) (6 * c + 5) x6) (6 * c + 0) = x1 := by rw [upd_ne (by omega), upd_ne (by omega), upd_ne (by omega), upd_ne (by omega), upd_ne (by omega), upd_at]
          rw [a1, a2]; exact ⟨rfl, hb.1⟩
        · have a1 : (putN xn c 6 (fun j => Int64.toInt32 ((vp_updL (vp_updL (vp_updL (vp_updL (vp_updL (vp_updL g (0 : Int32).toNatClampNeg (Int32.toInt64 x1)) (1 : Int32).toNatClampNeg (Int32.toInt64 x2)) (2 : Int32).toNatClampNeg (Int32.toInt64 x3)) (3 : Int32).toNatClampNeg (Int32.toInt64 x4)) (4 : Int32).toNatClampNeg (Int32.toInt64 x5)) (5 : Int32).toNatClampNeg (Int32.toInt64 x6)) j))) (6 * c + 1) = x2 := by
            unfold putN; rw [if_pos (by omega), show 6 * c + 1 - 6 * c = 1 by omega]; exact t x2
          have a2 : (upd (upd (upd (upd (upd (upd yn (6 * c + 0) x1) (6 * c + 1) x2) (6 * c + 2) x3) (6 * c + 3) x4) (6 * c + 4) x5) (6 * c + 5) x6) (6 * c + 1) = x2 := by rw [upd_ne (by omega), upd_ne (by omega), upd_ne (by omega), upd_ne (by omega), upd_at]
          rw [a1, a2]; exact ⟨rfl, hb.2.1⟩
        · have a1 : (putN xn c 6 (fun j => Int64.toInt32 ((vp_updL (vp_updL (vp_updL (vp_updL (vp_updL (vp_updL g (0 : Int32).toNatClampNeg (Int32.toInt64 x1)) (1 : Int32).toNatClampNeg (Int32.toInt64 x2)) (2 : Int32).toNatClampNeg (Int32.toInt64 x3)) (3 : Int32).toNatClampNeg (Int32.toInt64 x4)) (4 : Int32).toNatClampNeg (Int32.toInt64 x5)) (5 : Int32).toNatClampNeg (Int32.toInt64 x6)) j))) (6 * c + 2) = x3 := by
            unfold putN; rw [if_pos (by omega), show 6 * c + 2 - 6 * c = 2 by omega]; exact t x3
          have a2 : (upd (upd (upd (upd (upd (upd yn (6 * c + 0) x1) (6 * c + 1) x2) (6 * c + 2) x3) (6 * c + 3) x4) (6 * c + 4) x5) (6 * c + 5) x6) (6 * c + 2) = x3 := by rw [upd_ne (by omega), upd_ne (by omega), upd_ne (by omega), upd_at]
          rw [a1, a2]; exact ⟨rfl, hb.2.2.1⟩
        · have a1 : (putN xn c 6 (fun j => Int64.toInt32 ((vp_updL (vp_updL (vp_updL (vp_updL (vp_updL (vp_updL g (0 : Int32).toNatClampNeg (Int32.toInt64 x1)) (1 : Int32).toNatClampNeg (Int32.toInt64 x2)) (2 : Int32).toNatClampNeg (Int32.toInt64 x3)) (3 : Int32).toNatClampNeg (Int32.toInt64 x4)) (4 : Int32).toNatClampNeg (Int32.toInt64 x5)) (5 : Int32).toNatClampNeg (Int32.toInt64 x6)) j))) (6 * c + 3) = x4 := by
            unfold putN; rw [if_pos (by omega), show 6 * c + 3 - 6 * c = 3 by omega]; exact t x4
          have a2 : (upd (upd (upd (upd (upd (upd yn (6 * c + 0) x1) (6 * c + 1) x2) (6 * c + 2) x3) (6 * c + 3) x4) (6 * c + 4) x5) (6 * c + 5) x6) (6 * c + 3) = x4 := by rw [upd_ne (by omega), upd_ne (by omega), upd_at]
          rw [a1, a2]; exact ⟨rfl, hb.2.2.2.1⟩
        · have a1 : (putN xn c 6 (fun j => Int64.toInt32 ((vp_updL (vp_updL (vp_updL (vp_updL (vp_updL (vp_updL g (0 : Int32).toNatClampNeg (Int32.toInt64 x1)) (1 : Int32).toNatClampNeg (Int32.toInt64 x2)) (2 : Int32).toNatClampNeg (Int32.toInt64 x3)) (3 : Int32).toNatClampNeg (Int32.toInt64 x4)) (4 : Int32).toNatClampNeg (Int32.toInt64 x5)) (5 : Int32).toNatClampNeg (Int32.toInt64 x6)) j))) (6 * c + 4) = x5 := by
            unfold putN; rw [if_pos (by omega), show 6 * c + 4 - 6 * c = 4 by omega]; exact t x5
          have a2 : (upd (upd (upd (upd (upd (upd yn (6 * c + 0) x1) (6 * c + 1) x2) (6 * c + 2) x3) (6 * c + 3) x4) (6 * c + 4) x5) (6 * c + 5) x6) (6 * c + 4) = x5 := by rw [upd_ne (by omega), upd_at]
          rw [a1, a2]; exact ⟨rfl, hb.2.2.2.2.1⟩
        · have a1 : (putN xn c 6 (fun j => Int64.toInt32 ((vp_updL (vp_updL (vp_updL (vp_updL (vp_updL (vp_updL g (0 : Int32).toNatClampNeg (Int32.toInt64 x1)) (1 : Int32).toNatClampNeg (Int32.toInt64 x2)) (2 : Int32).toNatClampNeg (Int32.toInt64 x3)) (3 : Int32).toNatClampNeg (Int32.toInt64 x4)) (4 : Int32).toNatClampNeg (Int32.toInt64 x5)) (5 : Int32).toNatClampNeg (Int32.toInt64 x6)) j))) (6 * c + 5) = x6 := by
            unfold putN; rw [if_pos (by omega), show 6 * c + 5 - 6 * c = 5 by omega]; exact t x6
          have a2 : (upd (upd (upd (upd (upd (upd yn (6 * c + 0) x1) (6 * c + 1) x2) (6 * c + 2) x3) (6 * c + 3) x4) (6 * c + 4) x5) (6 * c + 5) x6) (6 * c + 5) = x6 := by rw [upd_at]
          rw [a1, a2]; exact ⟨rfl, hb.2.2.2.2.2⟩
    · exact rM_push hM (by intro h; exact absurd h h0)
  · have hg : ¬ ∀ j, j < nd 2 → okL ((vp_updL (vp_updL (vp_updL (vp_updL (vp_updL (vp_updL g (0 : Int32).toNatClampNeg (Int32.toInt64 x1)) (1 : Int32).toNatClampNeg (Int32.toInt64 x2)) (2 : Int32).toNatClampNeg (Int32.toInt64 x3)) (3 : Int32).toNatClampNeg (Int32.toInt64 x4)) (4 : Int32).toNatClampNeg (Int32.toInt64 x5)) (5 : Int32).toNatClampNeg (Int32.toInt64 x6)) j) := fun h => hb ⟨g0.mp (h 0 (by decide)), g1.mp (h 1 (by decide)), g2.mp (h 2 (by decide)), g3.mp (h 3 (by decide)), g4.mp (h 4 (by decide)), g5.mp (h 5 (by decide))⟩
    refine ⟨1, 0, vp_updL (vp_updL (vp_updL (vp_updL (vp_updL (vp_updL g (0 : Int32).toNatClampNeg (Int32.toInt64 x1)) (1 : Int32).toNatClampNeg (Int32.toInt64 x2)) (2 : Int32).toNatClampNeg (Int32.toInt64 x3)) (3 : Int32).toNatClampNeg (Int32.toInt64 x4)) (4 : Int32).toNatClampNeg (Int32.toInt64 x5)) (5 : Int32).toNatClampNeg (Int32.toInt64 x6), _, xn, xk, yn, yk, o, ?_, ?_, fun h => absurd h (by decide), hD, hM⟩
    · unfold lPLaw_cubic xP_cubic; rw [ag_num (by unfold kd; decide) (by omega) hg]; rfl
    · unfold m_cubic m_cubic_b49 m_cubic_b50 m_cubic_b88
      by_cases h1 : ok32 x1
      case neg => skip; rw [mn_f h1]; rfl
      by_cases h2 : ok32 x2
      case neg => rw [mn_t h1]; rw [mn_f h2]; rfl
      by_cases h3 : ok32 x3
      case neg => rw [mn_t h1, mn_t h2]; rw [mn_f h3]; rfl
      by_cases h4 : ok32 x4
      case neg => rw [mn_t h1, mn_t h2, mn_t h3]; rw [mn_f h4]; rfl
      by_cases h5 : ok32 x5
      case neg => rw [mn_t h1, mn_t h2, mn_t h3, mn_t h4]; rw [mn_f h5]; rfl
      rw [mn_t h1, mn_t h2, mn_t h3, mn_t h4, mn_t h5, mn_f (fun h => hb ⟨h1, h2, h3, h4, h5, h⟩)]; rfl
theorem e_close {N c : Nat} {g o : Nat → Int64} {xk xn yk yn : Nat → Int32} (hN : 200 ≤ N) (hD : rD c xk xn yk yn) (hM : rM c yk) :
    ∃ r b c' xn' xk' yk' o', lPLaw_close N g (nI c) xn xk o = some (r, nI c', xn', xk', o') ∧ m_close N (nI c) yk = some (b, r, nI c', yk') ∧ (r = 0 → o' 0 = Int32.toInt64 b) ∧ rD c' xk' xn' yk' yn ∧ rM c' yk' := by
  have hc := hD.1
  by_cases hb : True
  · have hg : ∀ j, j < nd 3 → okL (g j) := fun j hj => absurd hj (by decide +revert)
    by_cases h0 : c = 0
    · subst h0
      refine ⟨1, 0, _, xn, xk, yk, o, ?_, ?_, fun h => absurd h (by decide), hD, hM⟩
      · unfold lPLaw_close xP_close; rw [ag_no (by unfold kd; decide) (by omega) hg (by decide)]; rfl
      · unfold m_close m_close_b27; rw [hm_0 hN]; rfl
    by_cases h1 : c = 150
    · subst h1
      refine ⟨2, 0, _, xn, xk, yk, o, ?_, ?_, fun h => absurd h (by decide), hD, hM⟩
      · unfold lPLaw_close xP_close; rw [ag_full (by unfold kd; decide) (by omega) hg]; rfl
      · unfold m_close m_close_b27; rw [hm_p hc hN hM h0]; rfl
    have e9 : ¬ nI c = 150 := by rw [show (150 : Int32) = nI 150 from rfl, z_inj (by omega) (by omega)]; exact h1
    refine ⟨0, nI (c + 1), c + 1, putN xn c 0 (fun j => Int64.toInt32 (g j)), upd xk c 3, upd yk c 3, vp_updL o 0 (Int32.toInt64 (nI (c + 1))), ?_, ?_, fun _ => rfl, ?_, ?_⟩
    · unfold lPLaw_close xP_close; rw [ag_ok (by unfold kd; decide) (by omega) hg (by omega) (by intro h; exact absurd h h0)]; rfl
    · unfold m_close m_close_b27; rw [hm_p hc hN hM h0]
      have ea := ma_eq (c := c) (kind := 3) (yk := yk) (by omega)
      simp only [z_b1, e9, if_false, show ¬ (1 : Int32) = 0 by decide, show (0 : Int32) ≤ 0 by decide, if_true]
      rw [ea]; rfl
    · refine rD_push hD (by omega) (by unfold kd; decide) (fun j hj => ?_) (fun j hj => ?_) (fun i hi => ?_)
      · unfold putN; rw [if_neg (by omega)]
      · rfl
      · exact absurd hi (by decide +revert)
    · exact rM_push hM (by intro h; exact absurd h h0)
  · exact absurd trivial hb
