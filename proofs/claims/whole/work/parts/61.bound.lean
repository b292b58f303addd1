theorem bd_inner {N : Nat} {k8 : Int32 → Int32 → Int32 → Int32 → Int32 → Int32 → (Nat → Int32) → (Nat → Int32) → Option Int32} {k26 : Int32 → Int32 → Int32 → Int32 → Int32 → Int32 → (Nat → Int32) → (Nat → Int32) → Option (Int32 × Int32)} {w gr fa : Int32} {kk cn : Nat} {xk xn yk yn : Nat → Int32} (ax : Int32) (hD : rD cn xk xn yk yn) (hk : kk < cn) (hg : gr = 0 ↔ ¬ 2 ≤ w) :
    ∀ n i, i ≤ 7 → 8 < n + i → ∀ (f nn so : Int32), (nn = 1 ∧ so = 0 ∨ nn = 0 ∧ so = 1) → ∃ f' nn' so', (nn' = 1 ∧ so' = 0 ∨ nn' = 0 ∧ so' = 1) ∧
      xDrawing_extreme_L28 N k8 n ax gr f nn (nI kk) (nI i) (nI cn) xk xn = k8 ax gr f' nn' (nI (kk + 1)) (nI cn) xk xn ∧ m_bound_L40 N k26 n w so f (nI kk) (nI i) fa (nI cn) yk yn = k26 w so' f' (nI (kk + 1)) fa (nI cn) yk yn := by
  obtain ⟨hc, hD⟩ := hD
  obtain ⟨h1, h2, h3⟩ := hD kk hk
  have h6 := nd_le (yk kk)
  intro n
  induction n with
  | zero => intro i h7 h8; omega
  | succ n ih =>
    intro i h7 h8 f nn so hr
    show ∃ f' nn' so', _ ∧ xDrawing_extreme_B28 N k8 (xDrawing_extreme_L28 N k8 n) ax gr f nn (nI kk) (nI i) (nI cn) xk xn = _ ∧ m_bound_B40 N k26 (m_bound_L40 N k26 n) w so f (nI kk) (nI i) fa (nI cn) yk yn = _
    unfold xDrawing_extreme_B28 m_bound_B40
    simp (disch := omega) only [z_lit, z_kg, z_clamp, z_add, z_mul, h2, nd_x h1, nd_m, z_b1, z_le]
    by_cases hi : nd (yk kk) ≤ i
    · simp only [hi, if_true]
      exact ⟨f, nn, so, hr, rfl, rfl⟩
    · simp only [hi, if_false]
      have e : kk * 6 + i = 6 * kk + i := by omega
      rw [e]
      rw [(h3 i (by omega)).1]
      unfold xDrawing_extreme_b82 m_bound_b99 m_bound_b100
      simp only [z_lit, z_add] at hr hg ⊢
      have step := ih (i + 2) (by omega) (by omega)
      simp only [z_lit] at step
      rcases hr with ⟨rfl, rfl⟩ | ⟨rfl, rfl⟩
      · simp (disch := omega) only [z_inj, if_true, if_false, Nat.one_ne_zero]
        exact step _ (nI 0) (nI 1) (Or.inr ⟨rfl, rfl⟩)
      · by_cases hw : nI 2 ≤ w
        · have hg' : ¬ gr = nI 0 := fun h => hg.mp h hw
          simp (disch := omega) only [z_inj, if_true, if_false, Nat.one_ne_zero, hw, hg']
          by_cases h9 : yn (6 * kk + i) ≤ f
          · simp only [h9, if_true]
            exact step _ (nI 0) (nI 1) (Or.inr ⟨rfl, rfl⟩)
          · simp only [h9, if_false]
            exact step _ (nI 0) (nI 1) (Or.inr ⟨rfl, rfl⟩)
        · have hg' : gr = nI 0 := hg.mpr hw
          simp (disch := omega) only [z_inj, if_true, if_false, Nat.one_ne_zero, hw, hg']
          by_cases h9 : f ≤ yn (6 * kk + i)
          · simp only [h9, if_true]
            exact hg' ▸ step _ (nI 0) (nI 1) (Or.inr ⟨rfl, rfl⟩)
          · simp only [h9, if_false]
            exact hg' ▸ step _ (nI 0) (nI 1) (Or.inr ⟨rfl, rfl⟩)
theorem bd_outer {N : Nat} {w gr fa ax : Int32} {cn a : Nat} {xk xn yk yn : Nat → Int32} (hD : rD cn xk xn yk yn) (hg : gr = 0 ↔ ¬ 2 ≤ w) (ha : a ≤ 1) (hax : ax = nI a) (hw : w - w / 2 * 2 = ax) (hN : 9 ≤ N) :
    ∀ n kk, kk ≤ cn → cn < n + kk → ∀ (f nn so : Int32), (nn = 1 ∧ so = 0 ∨ nn = 0 ∧ so = 1) → ∃ r, xDrawing_extreme_L8 N n ax gr f nn (nI kk) (nI cn) xk xn = some r ∧ m_bound_L26 N n w so f (nI kk) fa (nI cn) yk yn = some (r, fa) := by
  have hc := hD.1
  intro n
  induction n with
  | zero => intro kk h7 h8; omega
  | succ n ih =>
    intro kk h7 h8 f nn so hr
    show ∃ r, xDrawing_extreme_B8 N (xDrawing_extreme_L8 N n) ax gr f nn (nI kk) (nI cn) xk xn = _ ∧ m_bound_B26 N (m_bound_L26 N n) w so f (nI kk) fa (nI cn) yk yn = _
    unfold xDrawing_extreme_B8 m_bound_B26
    rw [hw]
    simp (disch := omega) only [z_lit, z_le]
    by_cases h : cn ≤ kk
    · simp only [h, if_true]
      exact ⟨f, by split <;> rfl, rfl⟩
    · simp only [h, if_false]
      rw [if_neg (by omega)]
      obtain ⟨f', nn', so', hr', e1, e2⟩ := bd_inner (N := N) (k8 := xDrawing_extreme_L8 N n) (k26 := m_bound_L26 N n) (fa := fa) ax hD (by omega : kk < cn) hg N a (by omega) (by omega) f nn so hr
      subst hax
      rw [e1, e2]
      exact ih (kk + 1) (by omega) (by omega) f' nn' so' hr'
theorem e_bound {N cn : Nat} {x1 : Int32} {xk xn yk yn : Nat → Int32} (hN : 200 ≤ N) (hD : rD cn xk xn yk yn) : ∃ r, xP_bound N x1 (nI cn) xk xn = some r ∧ m_bound N x1 (nI cn) yk yn = some (r, 0) := by
  have hc := hD.1
  unfold xP_bound m_bound
  by_cases h0 : x1.toInt < 0
  · rw [m_in_f (Or.inl h0), if_pos (by rw [i_lt]; exact h0)]
    exact ⟨_, rfl, rfl⟩
  · rw [if_neg (by rw [i_lt]; exact h0)]
    by_cases h3 : x1.toInt ≤ 3
    · have go : ∀ gr ax a, (gr = 0 ↔ ¬ 2 ≤ x1) → a ≤ 1 → ax = nI a → x1 - x1 / 2 * 2 = ax → ∃ r, xP_bound_b30 N ax gr (nI cn) xk xn = some r ∧ m_bound_L26 N N x1 0 0 0 0 (nI cn) yk yn = some (r, 0) := fun gr ax a hg ha hax hw => by
        obtain ⟨r, e1, e2⟩ := bd_outer (N := N) (fa := 0) hD hg ha hax hw (by omega) N 0 (by omega) (by omega) 0 1 0 (Or.inl ⟨rfl, rfl⟩)
        refine ⟨r, ?_, e2⟩
        unfold xP_bound_b30 xDrawing_extreme
        rw [show xDrawing_extreme_L8 N N ax gr 0 1 0 (nI cn) xk xn = some r from e1]; rfl
      rw [m_in_t (Int.not_lt.mp h0) h3, if_pos (by rw [i_le]; exact h3)]
      rcases z_4 (by omega) h3 with rfl | rfl | rfl | rfl
      · exact go 0 _ 0 (by decide) (by decide) (by decide) rfl
      · exact go 0 _ 1 (by decide) (by decide) (by decide) rfl
      · exact go 1 _ 0 (by decide) (by decide) (by decide) rfl
      · exact go 1 _ 1 (by decide) (by decide) (by decide) rfl
    · rw [m_in_f (Or.inr (Int.not_le.mp h3)), if_neg (by rw [i_le]; exact h3)]
      exact ⟨_, rfl, rfl⟩
