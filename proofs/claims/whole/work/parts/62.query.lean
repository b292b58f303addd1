theorem e_covered {w h : Nat} {x1 x2 : Int32} {xs ys : Nat → Int32} {o : Nat → Int64} (hw : w ≤ 8) (hh : h ≤ 8) (hs : ∀ k, k < 64 → xs k = ys k) :
    ∃ r b o', lPLaw_covered x1 x2 (nI w) (nI h) xs o = some (r, o') ∧ m_covered x1 x2 (nI w) (nI h) ys = some (b, r) ∧ (r = 0 → o' 0 = Int32.toInt64 b) := by
  have bad : xP_covered x1 x2 (nI w) (nI h) xs = some (4, 0) → m_covered x1 x2 (nI w) (nI h) ys = some (0, 1) → ∃ r b o', lPLaw_covered x1 x2 (nI w) (nI h) xs o = some (r, o') ∧ m_covered x1 x2 (nI w) (nI h) ys = some (b, r) ∧ (r = 0 → o' 0 = Int32.toInt64 b) := fun e1 e2 =>
    ⟨1, 0, o, by unfold lPLaw_covered; rw [e1]; rfl, e2, fun h => absurd h (by decide)⟩
  rcases m_in0 (x := x1) (n := w) (by omega) with ⟨a, ha, rfl, e1⟩ | ⟨h1, e1⟩
  · rcases m_in0 (x := x2) (n := h) (by omega) with ⟨b, hb, rfl, e2⟩ | ⟨h2, e2⟩
    · refine ⟨0, ys (8 * b + a), vp_updL o 0 (Int32.toInt64 (ys (8 * b + a))), ?_, ?_, fun _ => rfl⟩
      · unfold lPLaw_covered xP_covered
        simp (disch := omega) only [z_lit, z_lt, z_le, z_add, z_mul, z_kg, z_clamp]
        rw [if_neg (by omega), if_neg (by omega), if_neg (by omega), if_pos (by omega), show b * 8 + a = 8 * b + a by omega, hs _ (by omega)]
        rfl
      · unfold m_covered m_covered_b38
        rw [e1, e2]
        simp (disch := omega) only [z_b1, z_lit, z_inj, z_le, z_add, z_mul, z_kg, z_clamp]
        rfl
    · refine bad ?_ ?_
      · unfold xP_covered
        rw [if_neg (i_n0 (by omega)), if_neg (by rw [z_le (by omega) (by omega)]; omega)]
        rcases h2 with h2 | h2
        · rw [if_pos (i_0 h2)]; rfl
        · rw [if_neg (i_n00 h2), if_neg (i_nlt (by omega) h2)]; rfl
      · unfold m_covered; rw [e1, e2]; rfl
  · refine bad ?_ ?_
    · unfold xP_covered
      rcases h1 with h1 | h1
      · rw [if_pos (i_0 h1)]; rfl
      · rw [if_neg (i_n00 h1), if_pos (i_ge (by omega) h1)]; rfl
    · unfold m_covered; rw [e1]; rfl
theorem e_charAt {n : Nat} {x1 : Int32} {xs ys : Nat → Int32} {o : Nat → Int64} (hn : n ≤ 8250) (hs : ∀ k, k < n → xs k = ys k ∧ kc (ys k) = true) :
    ∃ r b o', lPLaw_charAt x1 (nI n) xs o = some (r, o') ∧ m_charAt x1 (nI n) ys = some (b, r) ∧ (r = 0 → o' 0 = Int32.toInt64 b) := by
  rcases m_in0 (x := x1) (n := n) (by omega) with ⟨a, ha, rfl, e1⟩ | ⟨h1, e1⟩
  · refine ⟨0, ys a, vp_updL o 0 (Int32.toInt64 (ys a)), ?_, ?_, fun _ => rfl⟩
    · unfold lPLaw_charAt xP_charAt xRow_at
      simp (disch := omega) only [z_lit, z_lt, z_le, z_add, z_mul, z_kg, z_clamp, show Int32.ofNat 8250 = nI 8250 from rfl]
      rw [if_neg (by omega), if_pos ha, if_neg (by omega), if_neg (by omega), if_neg (by omega), (hs a ha).1, kg_t (hs a ha).2]
      rfl
    · unfold m_charAt m_charAt_b22
      rw [e1]
      simp (disch := omega) only [z_b1, z_lit, z_inj, z_le, z_add, z_mul, z_kg, z_clamp]
      rfl
  · refine ⟨1, 0, o, ?_, ?_, fun h => absurd h (by decide)⟩
    · unfold lPLaw_charAt xP_charAt
      rcases h1 with h1 | h1
      · rw [if_pos (i_0 h1)]; rfl
      · rw [if_neg (i_n00 h1), if_neg (i_nlt (by omega) h1)]; rfl
    · unfold m_charAt; rw [e1]; rfl
theorem e_has {n : Nat} {x1 : Int32} (hn : n ≤ 150) (h1 : x1.toInt < 0 ∨ (n : Int) ≤ x1.toInt) : xDrawing_has x1 (nI n) = some 0 := by
  unfold xDrawing_has
  rcases h1 with h1 | h1
  · rw [if_pos (i_0 h1)]
  · rw [if_neg (i_n00 h1), if_pos (i_ge (by omega) h1)]
theorem e_hasT {n a : Nat} (hn : n ≤ 150) (h1 : a < n) : xDrawing_has (nI a) (nI n) = some 1 := by
  unfold xDrawing_has
  simp (disch := omega) only [z_lit, z_lt, z_le]
  rw [if_neg (by omega), if_neg (by omega), if_neg (by omega)]
theorem e_command {n : Nat} {x1 : Int32} {xk xn yk yn : Nat → Int32} {o : Nat → Int64} (hD : rD n xk xn yk yn) :
    ∃ r b o', lPLaw_command x1 (nI n) xk o = some (r, o') ∧ m_command1 x1 (nI n) yk = some (b, r) ∧ (r = 0 → o' 0 = Int32.toInt64 b) := by
  have hn := hD.1
  rcases m_in0 (x := x1) (n := n) (by omega) with ⟨a, ha, rfl, e1⟩ | ⟨h1, e1⟩
  · refine ⟨0, yk a, vp_updL o 0 (Int32.toInt64 (yk a)), ?_, ?_, fun _ => rfl⟩
    · unfold lPLaw_command xP_command
      rw [e_hasT hn ha, (z_b1)]
      simp (disch := omega) only [z_kg, z_clamp, (hD.2 a ha).2.1]
      rfl
    · unfold m_command1 m_command1_b22
      rw [e1]
      simp (disch := omega) only [z_b1, z_lit, z_inj, z_le, z_add, z_mul, z_kg, z_clamp]
      rfl
  · refine ⟨1, 0, o, ?_, ?_, fun h => absurd h (by decide)⟩
    · unfold lPLaw_command xP_command
      rw [e_has hn h1]; rfl
    · unfold m_command1; rw [e1]; rfl
theorem e_number {n : Nat} {x1 x2 : Int32} {xk xn yk yn : Nat → Int32} {o : Nat → Int64} (hD : rD n xk xn yk yn) :
    ∃ r b o', lPLaw_number x1 x2 (nI n) xk xn o = some (r, o') ∧ m_number x1 x2 (nI n) yk yn = some (b, r) ∧ (r = 0 → o' 0 = Int32.toInt64 b) := by
  have hn := hD.1
  have bad : xP_number x1 x2 (nI n) xk xn = some (4, 0) → m_number x1 x2 (nI n) yk yn = some (0, 1) → ∃ r b o', lPLaw_number x1 x2 (nI n) xk xn o = some (r, o') ∧ m_number x1 x2 (nI n) yk yn = some (b, r) ∧ (r = 0 → o' 0 = Int32.toInt64 b) := fun e1 e2 =>
    ⟨1, 0, o, by unfold lPLaw_number; rw [e1]; rfl, e2, fun h => absurd h (by decide)⟩
  rcases m_in0 (x := x1) (n := n) (by omega) with ⟨a, ha, rfl, e1⟩ | ⟨h1, e1⟩
  · obtain ⟨k1, k2, k3⟩ := hD.2 a ha
    have k6 := nd_le (yk a)
    rcases m_in0 (x := x2) (n := nd (yk a)) (by omega) with ⟨b, hb, rfl, e2⟩ | ⟨h2, e2⟩
    · refine ⟨0, yn (6 * a + b), vp_updL o 0 (Int32.toInt64 (yn (6 * a + b))), ?_, ?_, fun _ => rfl⟩
      · unfold lPLaw_number xP_number
        rw [e_hasT hn ha, (z_b1)]
        simp (disch := omega) only [z_b1, z_kg, z_clamp, k2, nd_x k1, z_lit, z_lt, z_inj, z_add, z_mul]
        rw [if_neg (by omega), if_neg (by omega), if_pos hb, show a * 6 + b = 6 * a + b by omega, (k3 b hb).1]
        rfl
      · unfold m_number m_number_b22 m_number_b59 m_number_b62
        rw [e1]
        simp (disch := omega) only [z_b1, z_kg, z_clamp, nd_m, z_lit, z_le, z_inj, z_add, z_mul, if_true, if_false, Nat.one_ne_zero]
        have e2' : m_in (Int32.toInt64 (nI b)) 0 (Int32.toInt64 (nI (nd (yk a))) - 1) = some (nI 1) := e2
        rw [e2']
        simp (disch := omega) only [z_b1, z_inj, if_true, if_false, Nat.one_ne_zero, z_le]
        rw [if_pos (by omega)]
    · refine bad ?_ ?_
      · unfold xP_number
        rw [e_hasT hn ha, (z_b1)]
        simp (disch := omega) only [z_b1, z_kg, z_clamp, k2, nd_x k1]
        rw [if_neg (by decide)]
        rcases h2 with h2 | h2
        · rw [if_pos (i_0 h2)]; rfl
        · rw [if_neg (i_n00 h2), if_neg (i_nlt (by omega) h2)]; rfl
      · unfold m_number m_number_b22 m_number_b59
        rw [e1]
        simp (disch := omega) only [z_b1, z_kg, z_clamp, nd_m]
        rw [e2]; rfl
  · refine bad ?_ ?_
    · unfold xP_number
      rw [e_has hn h1]; rfl
    · unfold m_number; rw [e1]; rfl
