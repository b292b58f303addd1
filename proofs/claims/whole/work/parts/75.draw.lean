/-! L3: read. Matrices and what is drawn. -/
def acr (m : Nat → Int64) (dep ax : Nat) (a b : Int64) : Int64 := nr (m (6 * dep + ax) * a + m (6 * dep + ax + 2) * b) 256
theorem acr_ag {m m' : Nat → Int64} {dep ax : Nat} (h : ∀ s, s < 6 * (dep + 1) → m s = m' s) (hx : ax ≤ 1) (a b : Int64) : acr m dep ax a b = acr m' dep ax a b := by
  unfold acr; rw [h _ (by omega), h _ (by omega)]
theorem ac_i {dep ax : Nat} : nI dep * (6 : Int32) + nI ax = nI (6 * dep + ax) := by
  rw [show nI dep * 6 = nI (dep * 6) from z_mul dep 6, z_add, Nat.mul_comm]
theorem ac0 {dep ax : Nat} {a b : Int64} {rows : Nat → Int64} (hd : dep ≤ 8) (hx : ax ≤ 1) : xMatrices_across a b (nI ax) 0 (nI dep) rows = some (acr rows dep ax a b) := by
  unfold xMatrices_across acr
  rw [ac_i, show nI (6 * dep + ax) + 4 = nI (6 * dep + ax + 4) from z_add _ 4, show nI (6 * dep + ax) + 2 = nI (6 * dep + ax + 2) from z_add _ 2, if_neg (i_n0 (by omega)), if_pos (show nI (6 * dep + ax + 4) < (54 : Int32) by rw [show (54 : Int32) = nI 54 from rfl, z_lt (by omega) (by omega)]; omega), z_kg (by omega) (by omega), z_kg (by omega) (by omega), z_clamp (by omega), z_clamp (by omega), xP_nearest_eq (by decide) (by decide), z_b1, if_pos rfl]
theorem ac1 {dep ax : Nat} {a b : Int64} {rows : Nat → Int64} (hd : dep ≤ 8) (hx : ax ≤ 1) : xMatrices_across a b (nI ax) 1 (nI dep) rows = some (acr rows dep ax a b + rows (6 * dep + ax + 4)) := by
  unfold xMatrices_across acr
  rw [ac_i, show nI (6 * dep + ax) + 4 = nI (6 * dep + ax + 4) from z_add _ 4, show nI (6 * dep + ax) + 2 = nI (6 * dep + ax + 2) from z_add _ 2, if_neg (i_n0 (by omega)), if_pos (show nI (6 * dep + ax + 4) < (54 : Int32) by rw [show (54 : Int32) = nI 54 from rfl, z_lt (by omega) (by omega)]; omega), z_kg (by omega) (by omega), z_kg (by omega) (by omega), z_clamp (by omega), z_clamp (by omega), xP_nearest_eq (by decide) (by decide), z_b1, if_neg (by decide), z_kg (by omega) (by omega), z_clamp (by omega)]
/-- the six numbers of an inner matrix -/
def inM (m : Nat → Int64) (dep : Nat) (o : Nat → Int64) (s : Nat) : Int64 :=
  if s < 4 then acr m dep (s % 2) (o (2 * (s / 2))) (o (2 * (s / 2) + 1)) else acr m dep (s % 2) (o 4) (o 5) + m (6 * dep + s % 2 + 4)
theorem op_step {N dep i : Nat} {x3 sh v0 v1 : _} {rows own : Nat → Int64} {k31 : Int32 → Int32 → Int32 → Int32 → (Nat → Int64) → (Nat → Int64) → Option (Int32 × Int32 × (Nat → Int64))} (hd : dep < 8) (hi : i ≤ 4) (hx : x3 = (0 : Int32) ∨ x3 = 1)
    (e0 : xMatrices_across (own i) (own (i + 1)) (nI 0) sh (nI dep) rows = some v0) (e1 : xMatrices_across (own i) (own (i + 1)) (nI 1) sh (nI dep) (vp_updL rows (6 * (dep + 1) + i) v0) = some v1) :
    ∃ x3', (x3' = (0 : Int32) ∨ x3' = 1) ∧ (x3' = 1 ↔ (x3 = 1 ∧ okL v0 ∧ okL v1)) ∧ xMatrices_open_b49 N k31 (nI (6 * (dep + 1))) x3 (nI i) sh (nI dep) rows own = k31 (nI (6 * (dep + 1))) x3' (nI (i + 2)) (nI dep) (vp_updL (vp_updL rows (6 * (dep + 1) + i) v0) (6 * (dep + 1) + i + 1) v1) own := by
  have a1 : nI i + 1 = nI (i + 1) := z_add i 1
  have a2 : nI i + 2 = nI (i + 2) := z_add i 2
  have a3 : nI (6 * (dep + 1)) + nI i = nI (6 * (dep + 1) + i) := z_add _ _
  have a4 : nI (6 * (dep + 1) + i) + 1 = nI (6 * (dep + 1) + i + 1) := z_add _ 1
  have g0 : vp_updL (vp_updL rows (6 * (dep + 1) + i) v0) (6 * (dep + 1) + i + 1) v1 (6 * (dep + 1) + i) = v0 := by rw [updL_ne (by omega), updL_at]
  have g1 : vp_updL (vp_updL rows (6 * (dep + 1) + i) v0) (6 * (dep + 1) + i + 1) v1 (6 * (dep + 1) + i + 1) = v1 := by rw [updL_at]
  unfold xMatrices_open_b49
  simp (disch := omega) only [a1, a2, a3, a4, z_kg, z_clamp]
  rw [show xMatrices_across (own i) (own (i + 1)) 0 sh (nI dep) rows = _ from e0, z_b1, show xMatrices_across (own i) (own (i + 1)) 1 sh (nI dep) (vp_updL rows (6 * (dep + 1) + i) v0) = _ from e1, z_b1, g0, g1]
  rcases hx with rfl | rfl
  · exact ⟨0, Or.inl rfl, ⟨fun h => absurd h (by decide), fun h => absurd h.1 (by decide)⟩, by rw [if_pos rfl]⟩
  · rw [if_neg (by decide)]
    by_cases h0 : okL v0
    · rw [isN_t h0, z_b1, if_neg (by decide)]
      by_cases h1 : okL v1
      · exact ⟨1, Or.inr rfl, ⟨fun _ => ⟨rfl, h0, h1⟩, fun _ => rfl⟩, by rw [isN_t h1, z_b1, if_neg (by decide)]⟩
      · exact ⟨0, Or.inl rfl, ⟨fun h => absurd h (by decide), fun h => absurd h.2.2 h1⟩, by rw [isN_f h1, z_b1, if_pos rfl]⟩
    · exact ⟨0, Or.inl rfl, ⟨fun h => absurd h (by decide), fun h => absurd h.2.1 h0⟩, by rw [isN_f h0, z_b1, if_pos rfl]⟩
theorem uag {R rows : Nat → Int64} {K j : Nat} {v : Int64} (hR : ∀ s, s < K → R s = rows s) (hj : K ≤ j) : ∀ s, s < K → vp_updL R j v s = rows s := fun s hs => by rw [updL_ne (by omega)]; exact hR s hs
theorem op_eq {N dep : Nat} {rows own : Nat → Int64} (hN : 5000 ≤ N) (hd : dep < 8) : ∃ r rows', xMatrices_open N (nI dep) rows own = some (r, nI (dep + 1), rows') ∧ (r = 0 ∨ r = 1) ∧ (r = 1 ↔ ∀ s, s < 6 → okL (inM rows dep own s)) ∧ (∀ s, s < 6 * (dep + 1) → rows' s = rows s) ∧ (∀ s, s < 6 → rows' (6 * (dep + 1) + s) = inM rows dep own s) := by
  obtain ⟨f, hf⟩ : ∃ f, N = f + 4 := ⟨N - 4, by omega⟩
  have h0 : ∀ s, s < 6 * (dep + 1) → rows s = rows s := fun _ _ => rfl
  have h1 := uag h0 (j := 6 * (dep + 1) + 0) (v := acr rows dep 0 (own 0) (own 1)) (by omega)
  have h2 := uag h1 (j := 6 * (dep + 1) + 0 + 1) (v := acr rows dep 1 (own 0) (own 1)) (by omega)
  have h3 := uag h2 (j := 6 * (dep + 1) + 2) (v := acr rows dep 0 (own 2) (own 3)) (by omega)
  have h4 := uag h3 (j := 6 * (dep + 1) + 2 + 1) (v := acr rows dep 1 (own 2) (own 3)) (by omega)
  have h5 := uag h4 (j := 6 * (dep + 1) + 4) (v := acr rows dep 0 (own 4) (own 5) + rows (6 * dep + 0 + 4)) (by omega)
  have h6 := uag h5 (j := 6 * (dep + 1) + 4 + 1) (v := acr rows dep 1 (own 4) (own 5) + rows (6 * dep + 1 + 4)) (by omega)
  obtain ⟨x1, p1, p2, p3⟩ := op_step (N := N) (dep := dep) (i := 0) (x3 := 1) (sh := 0) (own := own) (k31 := xMatrices_open_L31 N (f + 3)) hd (by omega) (Or.inr rfl) (ac0 (by omega) (by omega)) (by rw [ac0 (by omega) (by omega), acr_ag h1 (by omega)])
  obtain ⟨x2, q1, q2, q3⟩ := op_step (N := N) (dep := dep) (i := 2) (x3 := x1) (sh := 0) (own := own) (k31 := xMatrices_open_L31 N (f + 2)) hd (by omega) p1 (by rw [ac0 (by omega) (by omega), acr_ag h2 (by omega)]) (by rw [ac0 (by omega) (by omega), acr_ag h3 (by omega)])
  obtain ⟨x3, r1, r2, r3⟩ := op_step (N := N) (dep := dep) (i := 4) (x3 := x2) (sh := 1) (own := own) (k31 := xMatrices_open_L31 N (f + 1)) hd (by omega) q1 (by rw [ac1 (by omega) (by omega), acr_ag h4 (by omega), h4 _ (by omega)]) (by rw [ac1 (by omega) (by omega), acr_ag h5 (by omega), h5 _ (by omega)])
  have run : xMatrices_open_L31 N (f + 4) (nI (6 * (dep + 1))) 1 (nI 0) (nI dep) rows own = some (x3, nI (dep + 1), (vp_updL (vp_updL (vp_updL (vp_updL (vp_updL (vp_updL rows (6 * (dep + 1) + 0) (acr rows dep 0 (own 0) (own 1))) (6 * (dep + 1) + 0 + 1) (acr rows dep 1 (own 0) (own 1))) (6 * (dep + 1) + 2) (acr rows dep 0 (own 2) (own 3))) (6 * (dep + 1) + 2 + 1) (acr rows dep 1 (own 2) (own 3))) (6 * (dep + 1) + 4) (acr rows dep 0 (own 4) (own 5) + rows (6 * dep + 0 + 4))) (6 * (dep + 1) + 4 + 1) (acr rows dep 1 (own 4) (own 5) + rows (6 * dep + 1 + 4)))) := by
    show xMatrices_open_B31 N (xMatrices_open_L31 N (f + 3)) (nI (6 * (dep + 1))) 1 (nI 0) (nI dep) rows own = _
    unfold xMatrices_open_B31
    rw [if_neg (by decide), if_neg (by decide), p3]
    show xMatrices_open_B31 N (xMatrices_open_L31 N (f + 2)) (nI (6 * (dep + 1))) x1 (nI 2) (nI dep) _ own = _
    unfold xMatrices_open_B31
    rw [if_neg (by decide), if_neg (by decide), q3]
    show xMatrices_open_B31 N (xMatrices_open_L31 N (f + 1)) (nI (6 * (dep + 1))) x2 (nI 4) (nI dep) _ own = _
    unfold xMatrices_open_B31
    rw [if_neg (by decide), if_pos (by decide), r3]
    show xMatrices_open_B31 N (xMatrices_open_L31 N f) (nI (6 * (dep + 1))) x3 (nI 6) (nI dep) _ own = _
    unfold xMatrices_open_B31
    rw [if_pos (by decide), kg_t (show kz x3 = true from decide_eq_true r1), show nI dep + 1 = nI (dep + 1) from z_add dep 1]
  refine ⟨x3, (vp_updL (vp_updL (vp_updL (vp_updL (vp_updL (vp_updL rows (6 * (dep + 1) + 0) (acr rows dep 0 (own 0) (own 1))) (6 * (dep + 1) + 0 + 1) (acr rows dep 1 (own 0) (own 1))) (6 * (dep + 1) + 2) (acr rows dep 0 (own 2) (own 3))) (6 * (dep + 1) + 2 + 1) (acr rows dep 1 (own 2) (own 3))) (6 * (dep + 1) + 4) (acr rows dep 0 (own 4) (own 5) + rows (6 * dep + 0 + 4))) (6 * (dep + 1) + 4 + 1) (acr rows dep 1 (own 4) (own 5) + rows (6 * dep + 1 + 4))), ?_, r1, ?_, h6, ?_⟩
  · unfold xMatrices_open xMatrices_isFull
    rw [if_neg (i_n0 (by omega)), if_pos (show nI dep < (8 : Int32) by rw [show (8 : Int32) = nI 8 from rfl, z_lt (by omega) (by omega)]; omega), z_b1, if_pos rfl, if_pos (by decide), show nI dep + 1 = nI (dep + 1) from z_add dep 1, show nI (dep + 1) * 6 = nI (6 * (dep + 1)) from (z_mul _ 6).trans (by rw [Nat.mul_comm])]
    rw [← hf] at run
    exact run
  · rw [r2, q2, p2]
    constructor
    · intro ⟨⟨⟨_, a, b⟩, c, d⟩, e, g⟩ s hs
      have h : s = 0 ∨ s = 1 ∨ s = 2 ∨ s = 3 ∨ s = 4 ∨ s = 5 := by omega
      rcases h with rfl | rfl | rfl | rfl | rfl | rfl
      · exact a
      · exact b
      · exact c
      · exact d
      · exact e
      · exact g
    · intro h
      exact ⟨⟨⟨rfl, h 0 (by omega), h 1 (by omega)⟩, h 2 (by omega), h 3 (by omega)⟩, h 4 (by omega), h 5 (by omega)⟩
  · intro s hs
    have h : s = 0 ∨ s = 1 ∨ s = 2 ∨ s = 3 ∨ s = 4 ∨ s = 5 := by omega
    rcases h with rfl | rfl | rfl | rfl | rfl | rfl
    · rw [updL_ne (by omega), updL_ne (by omega), updL_ne (by omega), updL_ne (by omega), updL_ne (by omega), updL_at]; rfl
    · rw [updL_ne (by omega), updL_ne (by omega), updL_ne (by omega), updL_ne (by omega), updL_at]; rfl
    · rw [updL_ne (by omega), updL_ne (by omega), updL_ne (by omega), updL_at]; rfl
    · rw [updL_ne (by omega), updL_ne (by omega), updL_at]; rfl
    · rw [updL_ne (by omega), updL_at]; rfl
    · rw [updL_at]; rfl
theorem mo_step {N dep k : Nat} {place at0 wr bh : Int32} {val wh : Int64} {M giv : Nat → Int64} {k55 : Int32 → Int32 → Int32 → Int32 → Int32 → Int32 → Int64 → Int32 → Int32 → Int64 → (Nat → Int64) → (Nat → Int64) → Option (Int32 × Int32 × Int64 × Int32 × Int32 × Int32 × Int64 × (Nat → Int64) × (Nat → Int64))} (hd : dep < 8) (hk : k ≤ 1) :
    m_openGroup_B55 N k55 place (nI (6 * dep)) (nI (6 * (dep + 1))) (nI k) (nI dep) at0 val wr bh wh giv M = k55 place (nI (6 * dep)) (nI (6 * (dep + 1))) (nI (k + 1)) (nI dep) at0 val wr bh wh giv (vp_updL (vp_updL (vp_updL M (6 * (dep + 1) + k) (acr M dep k (giv 0) (giv 1))) (6 * (dep + 1) + 2 + k) (acr M dep k (giv 2) (giv 3))) (6 * (dep + 1) + 4 + k) (acr M dep k (giv 4) (giv 5) + M (6 * dep + k + 4))) := by
  have a1 : nI (6 * dep) + nI k = nI (6 * dep + k) := z_add _ _
  have a2 : nI (6 * dep) + 2 + nI k = nI (6 * dep + k + 2) := by rw [show nI (6 * dep) + 2 = nI (6 * dep + 2) from z_add _ 2, z_add]; congr 1; omega
  have a4 : nI (6 * dep) + 4 + nI k = nI (6 * dep + k + 4) := by rw [show nI (6 * dep) + 4 = nI (6 * dep + 4) from z_add _ 4, z_add]; congr 1; omega
  have b1 : nI (6 * (dep + 1)) + nI k = nI (6 * (dep + 1) + k) := z_add _ _
  have b2 : nI (6 * (dep + 1)) + 2 + nI k = nI (6 * (dep + 1) + 2 + k) := by rw [show nI (6 * (dep + 1)) + 2 = nI (6 * (dep + 1) + 2) from z_add _ 2, z_add]
  have b4 : nI (6 * (dep + 1)) + 4 + nI k = nI (6 * (dep + 1) + 4 + k) := by rw [show nI (6 * (dep + 1)) + 4 = nI (6 * (dep + 1) + 4) from z_add _ 4, z_add]
  have c0 : (0 : Int32).toNatClampNeg = 0 := rfl
  have c1 : (1 : Int32).toNatClampNeg = 1 := rfl
  have c2 : (2 : Int32).toNatClampNeg = 2 := rfl
  have c3 : (3 : Int32).toNatClampNeg = 3 := rfl
  have c4 : (4 : Int32).toNatClampNeg = 4 := rfl
  have c5 : (5 : Int32).toNatClampNeg = 5 := rfl
  unfold m_openGroup_B55
  rw [if_neg (show ¬ (2 : Int32) ≤ nI k by rw [show (2 : Int32) = nI 2 from rfl, z_le (by omega) (by omega)]; omega), show nI k + 1 = nI (k + 1) from z_add k 1]
  simp (disch := omega) only [a1, a2, a4, b1, b2, b4, z_kg, z_clamp, m_nearest_eq (show ¬ 2 * (256 : Int64) = 0 by decide), z_b1, updL_ne, c0, c1, c2, c3, c4, c5]
  rfl
theorem mo_L {N dep : Nat} {place at0 bh : Int32} {val wh : Int64} {giv M : Nat → Int64} (hd : dep < 8) (hp : ¬ place = -1) : ∀ f j, j ≤ 6 → 6 < f + j → ∀ wr, (wr = -1 ∨ wr = place) → ∃ wr', (wr' = -1 ∨ wr' = place) ∧ (wr' = -1 ↔ (wr = -1 ∧ ∀ s, j ≤ s → s < 6 → okL (M (6 * (dep + 1) + s)))) ∧ m_openGroup_L236 N f place (nI (6 * (dep + 1))) (nI (6 * (dep + 1) + j)) (nI dep) at0 val wr bh wh giv M = some (nI (dep + 1), at0, val, wr', 1, bh, wh, giv, M) := by
  intro f
  induction f with
  | zero => intro j a b; omega
  | succ f ih =>
    intro j hj hf wr hw
    show ∃ wr', _ ∧ _ ∧ m_openGroup_B236 N (m_openGroup_L236 N f) place (nI (6 * (dep + 1))) (nI (6 * (dep + 1) + j)) (nI dep) at0 val wr bh wh giv M = _
    unfold m_openGroup_B236 m_openGroup_b273
    rw [show nI (6 * (dep + 1)) + 6 = nI (6 * (dep + 1) + 6) from z_add _ 6, show nI (6 * (dep + 1) + j) + 1 = nI (6 * (dep + 1) + (j + 1)) from z_add _ 1, show nI dep + 1 = nI (dep + 1) from z_add dep 1]
    by_cases h : j = 6
    · subst h
      rw [if_pos (by rw [z_le (by omega) (by omega)]; omega)]
      exact ⟨wr, hw, ⟨fun e => ⟨e, fun s a b => by omega⟩, fun e => e.1⟩, rfl⟩
    · rw [if_neg (by rw [z_le (by omega) (by omega)]; omega), z_kg (by omega) (by omega), z_clamp (by omega)]
      by_cases ho : okL (M (6 * (dep + 1) + j))
      · rw [in_t ho, z_b1, if_neg (by decide)]
        obtain ⟨wr', a, b, c⟩ := ih (j + 1) (by omega) (by omega) wr hw
        refine ⟨wr', a, ?_, c⟩
        rw [b]
        constructor
        · intro ⟨e, g⟩
          refine ⟨e, fun s h1 h2 => ?_⟩
          by_cases q : s = j
          · rw [q]; exact ho
          · exact g s (by omega) h2
        · intro ⟨e, g⟩; exact ⟨e, fun s h1 h2 => g s (by omega) h2⟩
      · rw [in_f ho, z_b1, if_pos rfl]
        obtain ⟨wr', a, b, c⟩ := ih (j + 1) (by omega) (by omega) place (Or.inr rfl)
        refine ⟨wr', a, ?_, c⟩
        rw [b]
        exact ⟨fun e => absurd e.1 hp, fun e => absurd (e.2 j (by omega) (by omega)) ho⟩
theorem mo_eq {N dep : Nat} {place at0 bh : Int32} {val wh : Int64} {giv M : Nat → Int64} (hN : 5000 ≤ N) (hd : dep < 8) (hp : ¬ place = -1) : ∃ wr' M', (wr' = -1 ∨ wr' = place) ∧ (wr' = -1 ↔ ∀ s, s < 6 → okL (inM M dep giv s)) ∧ m_openGroup_L55 N N place (nI (6 * dep)) (nI (6 * (dep + 1))) 0 (nI dep) at0 val (-1) bh wh giv M = some (nI (dep + 1), at0, val, wr', 1, bh, wh, giv, M') ∧ (∀ s, s < 6 * (dep + 1) → M' s = M s) ∧ (∀ s, s < 6 → M' (6 * (dep + 1) + s) = inM M dep giv s) := by
  obtain ⟨f, hf⟩ : ∃ f, N = f + 3 := ⟨N - 3, by omega⟩
  have hM1 : ∀ s, s < 6 * (dep + 1) → (vp_updL (vp_updL (vp_updL M (6 * (dep + 1) + 0) (acr M dep 0 (giv 0) (giv 1))) (6 * (dep + 1) + 2 + 0) (acr M dep 0 (giv 2) (giv 3))) (6 * (dep + 1) + 4 + 0) (acr M dep 0 (giv 4) (giv 5) + M (6 * dep + 0 + 4))) s = M s := fun s hs => by rw [updL_ne (by omega), updL_ne (by omega), updL_ne (by omega)]
  have hM2 : ∀ s, s < 6 * (dep + 1) → (vp_updL (vp_updL (vp_updL (vp_updL (vp_updL (vp_updL M (6 * (dep + 1) + 0) (acr M dep 0 (giv 0) (giv 1))) (6 * (dep + 1) + 2 + 0) (acr M dep 0 (giv 2) (giv 3))) (6 * (dep + 1) + 4 + 0) (acr M dep 0 (giv 4) (giv 5) + M (6 * dep + 0 + 4))) (6 * (dep + 1) + 1) (acr M dep 1 (giv 0) (giv 1))) (6 * (dep + 1) + 2 + 1) (acr M dep 1 (giv 2) (giv 3))) (6 * (dep + 1) + 4 + 1) (acr M dep 1 (giv 4) (giv 5) + M (6 * dep + 1 + 4))) s = M s := fun s hs => by rw [updL_ne (by omega), updL_ne (by omega), updL_ne (by omega)]; exact hM1 s hs
  have hV : ∀ s, s < 6 → (vp_updL (vp_updL (vp_updL (vp_updL (vp_updL (vp_updL M (6 * (dep + 1) + 0) (acr M dep 0 (giv 0) (giv 1))) (6 * (dep + 1) + 2 + 0) (acr M dep 0 (giv 2) (giv 3))) (6 * (dep + 1) + 4 + 0) (acr M dep 0 (giv 4) (giv 5) + M (6 * dep + 0 + 4))) (6 * (dep + 1) + 1) (acr M dep 1 (giv 0) (giv 1))) (6 * (dep + 1) + 2 + 1) (acr M dep 1 (giv 2) (giv 3))) (6 * (dep + 1) + 4 + 1) (acr M dep 1 (giv 4) (giv 5) + M (6 * dep + 1 + 4))) (6 * (dep + 1) + s) = inM M dep giv s := fun s hs => by
    have h : s = 0 ∨ s = 1 ∨ s = 2 ∨ s = 3 ∨ s = 4 ∨ s = 5 := by omega
    rcases h with rfl | rfl | rfl | rfl | rfl | rfl
    · rw [updL_ne (by omega), updL_ne (by omega), updL_ne (by omega), updL_ne (by omega), updL_ne (by omega), updL_at]; rfl
    · rw [updL_ne (by omega), updL_ne (by omega), updL_at]; rfl
    · rw [updL_ne (by omega), updL_ne (by omega), updL_ne (by omega), updL_ne (by omega)]; show vp_updL _ (6 * (dep + 1) + 2) _ (6 * (dep + 1) + 2) = _; rw [updL_at]; rfl
    · rw [updL_ne (by omega)]; show vp_updL _ (6 * (dep + 1) + 3) _ (6 * (dep + 1) + 3) = _; rw [updL_at]; rfl
    · rw [updL_ne (by omega), updL_ne (by omega), updL_ne (by omega)]; show vp_updL _ (6 * (dep + 1) + 4) _ (6 * (dep + 1) + 4) = _; rw [updL_at]; rfl
    · show vp_updL _ (6 * (dep + 1) + 5) _ (6 * (dep + 1) + 5) = _; rw [updL_at]; rfl
  obtain ⟨wr', a, b, c⟩ := mo_L (N := N) (dep := dep) (place := place) (at0 := at0) (bh := bh) (val := val) (wh := wh) (giv := giv) (M := vp_updL (vp_updL (vp_updL (vp_updL (vp_updL (vp_updL M (6 * (dep + 1) + 0) (acr M dep 0 (giv 0) (giv 1))) (6 * (dep + 1) + 2 + 0) (acr M dep 0 (giv 2) (giv 3))) (6 * (dep + 1) + 4 + 0) (acr M dep 0 (giv 4) (giv 5) + M (6 * dep + 0 + 4))) (6 * (dep + 1) + 1) (acr M dep 1 (giv 0) (giv 1))) (6 * (dep + 1) + 2 + 1) (acr M dep 1 (giv 2) (giv 3))) (6 * (dep + 1) + 4 + 1) (acr M dep 1 (giv 4) (giv 5) + M (6 * dep + 1 + 4))) hd hp N 0 (by omega) (by omega) (-1) (Or.inl rfl)
  refine ⟨wr', (vp_updL (vp_updL (vp_updL (vp_updL (vp_updL (vp_updL M (6 * (dep + 1) + 0) (acr M dep 0 (giv 0) (giv 1))) (6 * (dep + 1) + 2 + 0) (acr M dep 0 (giv 2) (giv 3))) (6 * (dep + 1) + 4 + 0) (acr M dep 0 (giv 4) (giv 5) + M (6 * dep + 0 + 4))) (6 * (dep + 1) + 1) (acr M dep 1 (giv 0) (giv 1))) (6 * (dep + 1) + 2 + 1) (acr M dep 1 (giv 2) (giv 3))) (6 * (dep + 1) + 4 + 1) (acr M dep 1 (giv 4) (giv 5) + M (6 * dep + 1 + 4))), a, ?_, ?_, hM2, hV⟩
  · rw [b]
    constructor
    · intro ⟨_, g⟩ s hs; rw [← hV s hs]; exact g s (by omega) hs
    · intro g; exact ⟨rfl, fun s _ hs => by rw [hV s hs]; exact g s hs⟩
  · have run : m_openGroup_L55 N (f + 3) place (nI (6 * dep)) (nI (6 * (dep + 1))) (nI 0) (nI dep) at0 val (-1) bh wh giv M = m_openGroup_L236 N N place (nI (6 * (dep + 1))) (nI (6 * (dep + 1))) (nI dep) at0 val (-1) bh wh giv (vp_updL (vp_updL (vp_updL (vp_updL (vp_updL (vp_updL M (6 * (dep + 1) + 0) (acr M dep 0 (giv 0) (giv 1))) (6 * (dep + 1) + 2 + 0) (acr M dep 0 (giv 2) (giv 3))) (6 * (dep + 1) + 4 + 0) (acr M dep 0 (giv 4) (giv 5) + M (6 * dep + 0 + 4))) (6 * (dep + 1) + 1) (acr M dep 1 (giv 0) (giv 1))) (6 * (dep + 1) + 2 + 1) (acr M dep 1 (giv 2) (giv 3))) (6 * (dep + 1) + 4 + 1) (acr M dep 1 (giv 4) (giv 5) + M (6 * dep + 1 + 4))) := by
      show m_openGroup_B55 N (m_openGroup_L55 N (f + 2)) place (nI (6 * dep)) (nI (6 * (dep + 1))) (nI 0) (nI dep) at0 val (-1) bh wh giv M = _
      rw [mo_step hd (by omega)]
      show m_openGroup_B55 N (m_openGroup_L55 N (f + 1)) place (nI (6 * dep)) (nI (6 * (dep + 1))) (nI 1) (nI dep) at0 val (-1) bh wh giv _ = _
      rw [mo_step hd (by omega), acr_ag hM1 (by omega), acr_ag hM1 (by omega), acr_ag hM1 (by omega), hM1 _ (by omega)]
      show m_openGroup_B55 N (m_openGroup_L55 N f) place (nI (6 * dep)) (nI (6 * (dep + 1))) (nI 2) (nI dep) at0 val (-1) bh wh giv _ = _
      unfold m_openGroup_B55
      rw [if_pos (by decide)]
    rw [← hf] at run
    exact run.trans c
/-! points -/
def dX (m : Nat → Int64) (dep : Nat) (a b : Int64) : Int64 := acr m dep 0 a b + m (6 * dep + 0 + 4)
def dY (m : Nat → Int64) (dep : Nat) (a b : Int64) : Int64 := acr m dep 1 a b + m (6 * dep + 1 + 4)
theorem pt_t {i c dep : Nat} {a b : Int64} {place wr : Int32} {mat : Nat → Int64} {dn : Nat → Int32} (hi : i ≤ 2) (hc : c < 150) (hd : dep ≤ 8) (h1 : okL (dX mat dep a b)) (h2 : okL (dY mat dep a b)) : m_point (nI i) a b place (nI c) (nI dep) wr mat dn = some (wr, upd (upd dn (6 * c + 2 * i) (Int64.toInt32 (dX mat dep a b))) (6 * c + 2 * i + 1) (Int64.toInt32 (dY mat dep a b))) := by
  have a0 : (6 : Int32) * nI dep = nI (6 * dep) := z_mul 6 dep
  have a1 : nI (6 * dep) + 1 = nI (6 * dep + 1) := z_add _ 1
  have a2 : nI (6 * dep) + 2 = nI (6 * dep + 2) := z_add _ 2
  have a3 : nI (6 * dep) + 3 = nI (6 * dep + 3) := z_add _ 3
  have a4 : nI (6 * dep) + 4 = nI (6 * dep + 4) := z_add _ 4
  have a5 : nI (6 * dep) + 5 = nI (6 * dep + 5) := z_add _ 5
  have b0 : (6 : Int32) * nI c + 2 * nI i = nI (6 * c + 2 * i) := by rw [show (6 : Int32) * nI c = nI (6 * c) from z_mul 6 c, show (2 : Int32) * nI i = nI (2 * i) from z_mul 2 i, z_add]
  have b1 : nI (6 * c + 2 * i) + 1 = nI (6 * c + 2 * i + 1) := z_add _ 1
  have h1' : okL (nr (mat (6 * dep) * a + mat (6 * dep + 2) * b) 256 + mat (6 * dep + 4)) := h1
  have h2' : okL (nr (mat (6 * dep + 1) * a + mat (6 * dep + 3) * b) 256 + mat (6 * dep + 5)) := h2
  unfold m_point
  simp (disch := omega) only [a0, a1, a2, a3, a4, a5, b0, b1, z_kg, z_clamp, m_nearest_eq (show ¬ 2 * (256 : Int64) = 0 by decide), z_b1]
  rw [in_t h1', z_b1, if_neg (by decide), in_t h2', z_b1, if_neg (by decide)]
  rfl
theorem pt_f {i c dep : Nat} {a b : Int64} {place wr : Int32} {mat : Nat → Int64} {dn : Nat → Int32} (hi : i ≤ 2) (hc : c < 150) (hd : dep ≤ 8) (h : ¬ (okL (dX mat dep a b) ∧ okL (dY mat dep a b))) : m_point (nI i) a b place (nI c) (nI dep) wr mat dn = some (place, dn) := by
  have a0 : (6 : Int32) * nI dep = nI (6 * dep) := z_mul 6 dep
  have a1 : nI (6 * dep) + 1 = nI (6 * dep + 1) := z_add _ 1
  have a2 : nI (6 * dep) + 2 = nI (6 * dep + 2) := z_add _ 2
  have a3 : nI (6 * dep) + 3 = nI (6 * dep + 3) := z_add _ 3
  have a4 : nI (6 * dep) + 4 = nI (6 * dep + 4) := z_add _ 4
  have a5 : nI (6 * dep) + 5 = nI (6 * dep + 5) := z_add _ 5
  have h' : ¬ (okL (nr (mat (6 * dep) * a + mat (6 * dep + 2) * b) 256 + mat (6 * dep + 4)) ∧ okL (nr (mat (6 * dep + 1) * a + mat (6 * dep + 3) * b) 256 + mat (6 * dep + 5))) := h
  unfold m_point m_point_b119
  simp (disch := omega) only [a0, a1, a2, a3, a4, a5, z_kg, z_clamp, m_nearest_eq (show ¬ 2 * (256 : Int64) = 0 by decide), z_b1]
  by_cases q : okL (nr (mat (6 * dep) * a + mat (6 * dep + 2) * b) 256 + mat (6 * dep + 4))
  · rw [in_t q, z_b1, if_neg (by decide), in_f (fun z => h' ⟨q, z⟩), z_b1, if_pos rfl]
  · rw [in_f q, z_b1, if_pos rfl]
theorem dw_L {N dep m : Nat} {kind c : Int32} {sX sY : Int64} {pts rows : Nat → Int64} {sn sk : Nat → Int32} (hd : dep ≤ 8) (hm : m ≤ 3) : ∀ f j, j ≤ m → m < f + j → ∀ x y drw, (∀ s, s < j → drw (2 * s) = dX rows dep (pts (2 * s)) (pts (2 * s + 1)) ∧ drw (2 * s + 1) = dY rows dep (pts (2 * s)) (pts (2 * s + 1))) → (0 < j → x = pts (2 * (j - 1)) ∧ y = pts (2 * (j - 1) + 1)) →
    ∃ x' y' drw', (∀ s, s < m → drw' (2 * s) = dX rows dep (pts (2 * s)) (pts (2 * s + 1)) ∧ drw' (2 * s + 1) = dY rows dep (pts (2 * s)) (pts (2 * s + 1))) ∧ (0 < m → x' = pts (2 * (m - 1)) ∧ y' = pts (2 * (m - 1) + 1)) ∧ xPen_draw_L8 N f kind (nI (2 * m)) (nI (2 * j)) x y sX sY pts (nI dep) rows drw c sn sk = xPen_draw_b121 N kind x' y' sX sY drw' c sn sk := by
  intro f
  induction f with
  | zero => intro j a b; omega
  | succ f ih =>
    intro j hj hf x y drw hdr hxy
    show ∃ x' y' drw', _ ∧ _ ∧ xPen_draw_B8 N (xPen_draw_L8 N f) kind (nI (2 * m)) (nI (2 * j)) x y sX sY pts (nI dep) rows drw c sn sk = _
    unfold xPen_draw_B8
    rw [show nI (2 * j) + 1 = nI (2 * j + 1) from z_add _ 1, show nI (2 * j) + 2 = nI (2 * (j + 1)) from z_add _ 2]
    by_cases h : j = m
    · subst h
      rw [if_pos (by rw [z_le (by omega) (by omega)]; omega)]
      exact ⟨x, y, drw, hdr, hxy, rfl⟩
    · rw [if_neg (by rw [z_le (by omega) (by omega)]; omega), if_neg (show ¬ (6 : Int32) ≤ nI (2 * j + 1) by rw [show (6 : Int32) = nI 6 from rfl, z_le (by omega) (by omega)]; omega)]
      simp (disch := omega) only [z_kg, z_clamp]
      rw [show xMatrices_across (pts (2 * j)) (pts (2 * j + 1)) 0 1 (nI dep) rows = some (dX rows dep (pts (2 * j)) (pts (2 * j + 1))) from ac1 (ax := 0) hd (by omega), z_b1, show xMatrices_across (pts (2 * j)) (pts (2 * j + 1)) 1 1 (nI dep) rows = some (dY rows dep (pts (2 * j)) (pts (2 * j + 1))) from ac1 (ax := 1) hd (by omega), z_b1]
      refine ih (j + 1) (by omega) (by omega) _ _ _ (fun s hs => ?_) (fun _ => by rw [Nat.add_sub_cancel]; exact ⟨rfl, rfl⟩)
      by_cases q : s = j
      · rw [q, updL_ne (by omega), updL_at, updL_at]; exact ⟨rfl, rfl⟩
      · rw [updL_ne (by omega), updL_ne (by omega), updL_ne (by omega), updL_ne (by omega)]; exact hdr s (by omega)
/-- what is drawn of a command: both sides -/
def drG (N : Nat) (kind : Int32) (c dep : Nat) (x y sX sY : Int64) (pts rows drw : Nat → Int64) (sn sk : Nat → Int32) (x1 y1 x2 y2 px py mx my : Int64) (place : Int32) (mat : Nat → Int64) (dn dk : Nat → Int32) : Prop :=
  (∃ drw' sn' sk' dn' dk', c < 150 ∧ xPen_draw N kind x y sX sY pts (nI dep) rows drw (nI c) sn sk = some (1, px, py, drw', nI (c + 1), sn', sk') ∧ m_draw kind x1 y1 x2 y2 px py place (nI c) (nI dep) (-1) mx my mat dn dk = some (nI (c + 1), -1, px, py, dn', dk') ∧ rD (c + 1) sk' sn' dk' dn' ∧ dk' = upd dk c kind) ∨
  (∃ x' y' drw' c' sn' sk' c'' x'' y'' dn' dk', xPen_draw N kind x y sX sY pts (nI dep) rows drw (nI c) sn sk = some (0, x', y', drw', c', sn', sk') ∧ m_draw kind x1 y1 x2 y2 px py place (nI c) (nI dep) (-1) mx my mat dn dk = some (c'', place, x'', y'', dn', dk'))
theorem dX_ag {m m' : Nat → Int64} {dep : Nat} (h : ∀ s, s < 6 * (dep + 1) → m s = m' s) (a b : Int64) : dX m dep a b = dX m' dep a b := by unfold dX; rw [acr_ag h (by omega), h _ (by omega)]
theorem dY_ag {m m' : Nat → Int64} {dep : Nat} (h : ∀ s, s < 6 * (dep + 1) → m s = m' s) (a b : Int64) : dY m dep a b = dY m' dep a b := by unfold dY; rw [acr_ag h (by omega), h _ (by omega)]
theorem ok_to32 {v : Int64} (h : okL v) : ok32 (Int64.toInt32 v) := by
  unfold ok32; rw [okL_32 h]; exact h
theorem dr2 {N c dep : Nat} {kind place : Int32} {x y sX sY x1 y1 x2 y2 mx my : Int64} {pts rows drw mat : Nat → Int64} {sn sk dn dk : Nat → Int32} (hN : 5000 ≤ N) (hk : kind = 0 ∨ kind = 1) (hd : dep ≤ 8) (hD : rD c sk sn dk dn) (hX : ∀ s, s < 6 * (dep + 1) → rows s = mat s) : drG N kind c dep x y sX sY pts rows drw sn sk x1 y1 x2 y2 (pts 0) (pts 1) mx my place mat dn dk := by
  have hc := hD.1
  have hkd : kd kind := by rcases hk with h | h <;> rw [h] <;> unfold kd <;> decide
  have hnd : nd kind = 2 := by rcases hk with h | h <;> rw [h] <;> rfl
  have k2 : ¬ kind = 2 := by rcases hk with h | h <;> rw [h] <;> decide
  have k3 : ¬ kind = 3 := by rcases hk with h | h <;> rw [h] <;> decide
  obtain ⟨x', y', drw', p1, p2, p3⟩ := dw_L (N := N) (m := 1) (kind := kind) (c := nI c) (sX := sX) (sY := sY) (pts := pts) (rows := rows) (sn := sn) (sk := sk) hd (by omega) N 0 (by omega) (by omega) x y drw (fun s hs => by omega) (fun h => by omega)
  obtain ⟨rfl, rfl⟩ := p2 (by omega)
  obtain ⟨q0, q1⟩ := p1 0 (by omega)
  rw [dX_ag hX] at q0
  rw [dY_ag hX] at q1
  have hdr : xPen_draw N kind x y sX sY pts (nI dep) rows drw (nI c) sn sk = (kb4 (xDrawing_add N kind (nI c) sn sk drw') fun r148 v_p2_count_148 c_p2_numbers_148 c_p2_kinds_148 => kg (kz r148) (some (r148, pts 0, pts 1, drw', v_p2_count_148, c_p2_numbers_148, c_p2_kinds_148))) := by
    unfold xPen_draw
    rw [nd_x hkd, hnd, z_b1, show xPen_draw_L8 N N kind (nI 2) 0 x y sX sY pts (nI dep) rows drw (nI c) sn sk = _ from p3]
    unfold xPen_draw_b121 xPen_draw_b142
    rw [if_neg k3]
  unfold drG
  rw [hdr]
  unfold m_draw m_draw_b73
  by_cases h150 : c = 150
  · refine Or.inr ?_
    rw [add_bad hkd (by omega) (by omega) (Or.inl h150), if_pos (by rw [h150]; rfl)]
    exact ⟨_, _, _, _, _, _, _, _, _, _, _, rfl, rfl⟩
  rw [if_neg (show ¬ nI c = (150 : Int32) by rw [show (150 : Int32) = nI 150 from rfl, z_inj (by omega) (by omega)]; exact h150), if_neg k2, if_neg k3]
  by_cases ho : okL (dX mat dep (pts 0) (pts 1)) ∧ okL (dY mat dep (pts 0) (pts 1))
  · refine Or.inl ?_
    rw [add_ok hkd (by omega) (by omega) (fun j hj => by
      rw [hnd] at hj
      have h : j = 0 ∨ j = 1 := by omega
      rcases h with rfl | rfl
      · rw [show drw' 0 = _ from q0]; exact ho.1
      · rw [show drw' 1 = _ from q1]; exact ho.2)]
    rw [show m_point 0 (pts 0) (pts 1) place (nI c) (nI dep) (-1) mat dn = _ from pt_t (i := 0) (by omega) (by omega) hd ho.1 ho.2, z_b2, z_kg (by omega) (by omega), z_clamp (by omega), show nI c + 1 = nI (c + 1) from z_add c 1]
    refine ⟨drw', putN sn c (nd kind) (fun j => (drw' j).toInt32), upd sk c kind, upd (upd dn (6 * c + 2 * 0) (Int64.toInt32 (dX mat dep (pts 0) (pts 1)))) (6 * c + 2 * 0 + 1) (Int64.toInt32 (dY mat dep (pts 0) (pts 1))), upd dk c kind, by omega, rfl, rfl, ?_, rfl⟩
    refine rD_push hD (by omega) hkd (fun j hj => by unfold putN; rw [if_neg (by omega)]) (fun j hj => by rw [upd_ne (by omega), upd_ne (by omega)]) (fun i hi => ?_)
    rw [hnd] at hi ⊢
    have h : i = 0 ∨ i = 1 := by omega
    rcases h with rfl | rfl
    · have e1 : putN sn c 2 (fun j => (drw' j).toInt32) (6 * c + 0) = Int64.toInt32 (dX mat dep (pts 0) (pts 1)) := by unfold putN; rw [if_pos (by omega), show 6 * c + 0 - 6 * c = 0 by omega]; exact congrArg Int64.toInt32 q0
      have e2 : upd (upd dn (6 * c + 2 * 0) (Int64.toInt32 (dX mat dep (pts 0) (pts 1)))) (6 * c + 2 * 0 + 1) (Int64.toInt32 (dY mat dep (pts 0) (pts 1))) (6 * c + 0) = Int64.toInt32 (dX mat dep (pts 0) (pts 1)) := by rw [upd_ne (by omega)]; exact upd_at _ _ _
      rw [e1, e2]; exact ⟨rfl, ok_to32 ho.1⟩
    · have e1 : putN sn c 2 (fun j => (drw' j).toInt32) (6 * c + 1) = Int64.toInt32 (dY mat dep (pts 0) (pts 1)) := by unfold putN; rw [if_pos (by omega), show 6 * c + 1 - 6 * c = 1 by omega]; exact congrArg Int64.toInt32 q1
      have e2 : upd (upd dn (6 * c + 2 * 0) (Int64.toInt32 (dX mat dep (pts 0) (pts 1)))) (6 * c + 2 * 0 + 1) (Int64.toInt32 (dY mat dep (pts 0) (pts 1))) (6 * c + 1) = Int64.toInt32 (dY mat dep (pts 0) (pts 1)) := upd_at _ _ _
      rw [e1, e2]; exact ⟨rfl, ok_to32 ho.2⟩
  · refine Or.inr ?_
    rw [add_bad hkd (by omega) (by omega) (Or.inr (fun h => ho ⟨by
      have := h 0 (by rw [hnd]; omega)
      rw [show drw' 0 = _ from q0] at this; exact this, by
      have := h 1 (by rw [hnd]; omega)
      rw [show drw' 1 = _ from q1] at this; exact this⟩))]
    rw [show m_point 0 (pts 0) (pts 1) place (nI c) (nI dep) (-1) mat dn = _ from pt_f (i := 0) (by omega) (by omega) hd ho, z_b2, z_kg (by omega) (by omega), z_clamp (by omega), show nI c + 1 = nI (c + 1) from z_add c 1]
    exact ⟨_, _, _, _, _, _, _, _, _, _, _, rfl, rfl⟩
theorem dr0 {N c dep : Nat} {place : Int32} {x y sX sY x1 y1 x2 y2 mx my : Int64} {pts rows drw mat : Nat → Int64} {sn sk dn dk : Nat → Int32} (hN : 5000 ≤ N) (hd : dep ≤ 8) (hD : rD c sk sn dk dn) : drG N 3 c dep x y sX sY pts rows drw sn sk x1 y1 x2 y2 sX sY mx my place mat dn dk := by
  have hc := hD.1
  have hkd : kd 3 := by unfold kd; decide
  have hnd : nd 3 = 0 := rfl
  obtain ⟨x', y', drw', p1, p2, p3⟩ := dw_L (N := N) (m := 0) (kind := 3) (c := nI c) (sX := sX) (sY := sY) (pts := pts) (rows := rows) (sn := sn) (sk := sk) hd (by omega) N 0 (by omega) (by omega) x y drw (fun s hs => by omega) (fun h => by omega)
  have hdr : xPen_draw N 3 x y sX sY pts (nI dep) rows drw (nI c) sn sk = (kb4 (xDrawing_add N 3 (nI c) sn sk drw') fun r148 v_p2_count_148 c_p2_numbers_148 c_p2_kinds_148 => kg (kz r148) (some (r148, sX, sY, drw', v_p2_count_148, c_p2_numbers_148, c_p2_kinds_148))) := by
    unfold xPen_draw
    rw [nd_x hkd, hnd, z_b1, show xPen_draw_L8 N N 3 (nI 0) 0 x y sX sY pts (nI dep) rows drw (nI c) sn sk = _ from p3]
    rfl
  unfold drG
  rw [hdr]
  unfold m_draw m_draw_b73
  by_cases h150 : c = 150
  · refine Or.inr ?_
    rw [add_bad hkd (by omega) (by omega) (Or.inl h150), if_pos (by rw [h150]; rfl)]
    exact ⟨_, _, _, _, _, _, _, _, _, _, _, rfl, rfl⟩
  refine Or.inl ?_
  rw [if_neg (show ¬ nI c = (150 : Int32) by rw [show (150 : Int32) = nI 150 from rfl, z_inj (by omega) (by omega)]; exact h150), if_neg (by decide), if_pos rfl, add_ok hkd (by omega) (by omega) (fun j hj => by rw [hnd] at hj; omega), z_kg (by omega) (by omega), z_clamp (by omega), show nI c + 1 = nI (c + 1) from z_add c 1]
  refine ⟨drw', putN sn c (nd 3) (fun j => (drw' j).toInt32), upd sk c 3, dn, upd dk c 3, by omega, rfl, rfl, ?_, rfl⟩
  exact rD_push hD (by omega) hkd (fun j hj => by unfold putN; rw [if_neg (by omega)]) (fun j hj => rfl) (fun i hi => by rw [hnd] at hi; omega)
theorem dr6 {N c dep : Nat} {place : Int32} {x y sX sY mx my : Int64} {pts rows drw mat : Nat → Int64} {sn sk dn dk : Nat → Int32} (hN : 5000 ≤ N) (hd : dep ≤ 8) (hD : rD c sk sn dk dn) (hX : ∀ s, s < 6 * (dep + 1) → rows s = mat s) (hp : ¬ place = -1) : drG N 2 c dep x y sX sY pts rows drw sn sk (pts 0) (pts 1) (pts 2) (pts 3) (pts 4) (pts 5) mx my place mat dn dk := by
  have hc := hD.1
  have hkd : kd 2 := by unfold kd; decide
  have hnd : nd 2 = 6 := rfl
  obtain ⟨x', y', drw', p1, p2, p3⟩ := dw_L (N := N) (m := 3) (kind := 2) (c := nI c) (sX := sX) (sY := sY) (pts := pts) (rows := rows) (sn := sn) (sk := sk) hd (by omega) N 0 (by omega) (by omega) x y drw (fun s hs => by omega) (fun h => by omega)
  obtain ⟨rfl, rfl⟩ := p2 (by omega)
  obtain ⟨q0, q1⟩ := p1 0 (by omega)
  obtain ⟨q2, q3⟩ := p1 1 (by omega)
  obtain ⟨q4, q5⟩ := p1 2 (by omega)
  rw [dX_ag hX] at q0 q2 q4
  rw [dY_ag hX] at q1 q3 q5
  have hdr : xPen_draw N 2 x y sX sY pts (nI dep) rows drw (nI c) sn sk = (kb4 (xDrawing_add N 2 (nI c) sn sk drw') fun r148 v_p2_count_148 c_p2_numbers_148 c_p2_kinds_148 => kg (kz r148) (some (r148, pts 4, pts 5, drw', v_p2_count_148, c_p2_numbers_148, c_p2_kinds_148))) := by
    unfold xPen_draw
    rw [nd_x hkd, hnd, z_b1, show xPen_draw_L8 N N 2 (nI 6) 0 x y sX sY pts (nI dep) rows drw (nI c) sn sk = _ from p3]
    rfl
  unfold drG
  rw [hdr]
  unfold m_draw m_draw_b73
  by_cases h150 : c = 150
  · refine Or.inr ?_
    rw [add_bad hkd (by omega) (by omega) (Or.inl h150), if_pos (by rw [h150]; rfl)]
    exact ⟨_, _, _, _, _, _, _, _, _, _, _, rfl, rfl⟩
  rw [if_neg (show ¬ nI c = (150 : Int32) by rw [show (150 : Int32) = nI 150 from rfl, z_inj (by omega) (by omega)]; exact h150), if_pos rfl]
  have row : ∀ j, j < 6 → drw' j = (if j % 2 = 0 then dX mat dep (pts (2 * (j / 2))) (pts (2 * (j / 2) + 1)) else dY mat dep (pts (2 * (j / 2))) (pts (2 * (j / 2) + 1))) := fun j hj => by
    have h : j = 0 ∨ j = 1 ∨ j = 2 ∨ j = 3 ∨ j = 4 ∨ j = 5 := by omega
    rcases h with rfl | rfl | rfl | rfl | rfl | rfl
    · exact q0
    · exact q1
    · exact q2
    · exact q3
    · exact q4
    · exact q5
  -- a point that is bad once stays so
  have stay : ∀ i a b (wr : Int32) dn', i ≤ 2 → (wr = -1 ∨ wr = place) → ∃ wr' dn'', (wr' = -1 ∨ wr' = place) ∧ m_point (nI i) a b place (nI c) (nI dep) wr mat dn' = some (wr', dn'') ∧ (wr = place → wr' = place) ∧ (¬ (okL (dX mat dep a b) ∧ okL (dY mat dep a b)) → wr' = place) := fun i a b wr dn' hi hw => by
    by_cases ho : okL (dX mat dep a b) ∧ okL (dY mat dep a b)
    · exact ⟨wr, _, hw, pt_t hi (by omega) hd ho.1 ho.2, fun h => h, fun h => absurd ho h⟩
    · exact ⟨place, _, Or.inr rfl, pt_f hi (by omega) hd ho, fun _ => rfl, fun _ => rfl⟩
  by_cases h0 : okL (dX mat dep (pts 0) (pts 1)) ∧ okL (dY mat dep (pts 0) (pts 1))
  case neg =>
    refine Or.inr ?_
    obtain ⟨w1, n1, a1, b1, _, _⟩ := stay 1 (pts 2) (pts 3) place dn (by omega) (Or.inr rfl)
    obtain ⟨w2, n2, a2, b2, c2, _⟩ := stay 2 (pts 4) (pts 5) w1 n1 (by omega) a1
    have e1 : w1 = place := by obtain ⟨_, _, _, b1', c1', _⟩ := stay 1 (pts 2) (pts 3) place dn (by omega) (Or.inr rfl); rw [b1] at b1'; have := c1' rfl; injection b1' with b1'; injection b1' with b1' _; rw [b1']; exact this
    rw [show m_point 0 (pts 0) (pts 1) place (nI c) (nI dep) (-1) mat dn = _ from pt_f (i := 0) (by omega) (by omega) hd h0, z_b2, show m_point 1 (pts 2) (pts 3) place (nI c) (nI dep) place mat dn = _ from b1, z_b2, show m_point 2 (pts 4) (pts 5) place (nI c) (nI dep) w1 mat n1 = _ from b2, z_b2, c2 e1, z_kg (by omega) (by omega), add_bad hkd (by omega) (by omega) (Or.inr (fun h => h0 ⟨by
      have := h 0 (by rw [hnd]; omega)
      rw [show drw' 0 = _ from q0] at this; exact this, by
      have := h 1 (by rw [hnd]; omega)
      rw [show drw' 1 = _ from q1] at this; exact this⟩))]
    exact ⟨_, _, _, _, _, _, _, _, _, _, _, rfl, rfl⟩
  rw [show m_point 0 (pts 0) (pts 1) place (nI c) (nI dep) (-1) mat dn = _ from pt_t (i := 0) (by omega) (by omega) hd h0.1 h0.2, z_b2]
  by_cases h1 : okL (dX mat dep (pts 2) (pts 3)) ∧ okL (dY mat dep (pts 2) (pts 3))
  case neg =>
    refine Or.inr ?_
    obtain ⟨w2, n2, a2, b2, c2, _⟩ := stay 2 (pts 4) (pts 5) place (upd (upd dn (6 * c + 2 * 0) (Int64.toInt32 (dX mat dep (pts 0) (pts 1)))) (6 * c + 2 * 0 + 1) (Int64.toInt32 (dY mat dep (pts 0) (pts 1)))) (by omega) (Or.inr rfl)
    rw [show m_point 1 (pts 2) (pts 3) place (nI c) (nI dep) (-1) mat _ = _ from pt_f (i := 1) (by omega) (by omega) hd h1, z_b2, show m_point 2 (pts 4) (pts 5) place (nI c) (nI dep) place mat _ = _ from b2, z_b2, c2 rfl, z_kg (by omega) (by omega), add_bad hkd (by omega) (by omega) (Or.inr (fun h => h1 ⟨by
      have := h 2 (by rw [hnd]; omega)
      rw [show drw' 2 = _ from q2] at this; exact this, by
      have := h 3 (by rw [hnd]; omega)
      rw [show drw' 3 = _ from q3] at this; exact this⟩))]
    exact ⟨_, _, _, _, _, _, _, _, _, _, _, rfl, rfl⟩
  rw [show m_point 1 (pts 2) (pts 3) place (nI c) (nI dep) (-1) mat _ = _ from pt_t (i := 1) (by omega) (by omega) hd h1.1 h1.2, z_b2]
  by_cases h2 : okL (dX mat dep (pts 4) (pts 5)) ∧ okL (dY mat dep (pts 4) (pts 5))
  case neg =>
    refine Or.inr ?_
    rw [show m_point 2 (pts 4) (pts 5) place (nI c) (nI dep) (-1) mat _ = _ from pt_f (i := 2) (by omega) (by omega) hd h2, z_b2, z_kg (by omega) (by omega), add_bad hkd (by omega) (by omega) (Or.inr (fun h => h2 ⟨by
      have := h 4 (by rw [hnd]; omega)
      rw [show drw' 4 = _ from q4] at this; exact this, by
      have := h 5 (by rw [hnd]; omega)
      rw [show drw' 5 = _ from q5] at this; exact this⟩))]
    exact ⟨_, _, _, _, _, _, _, _, _, _, _, rfl, rfl⟩
  refine Or.inl ?_
  rw [show m_point 2 (pts 4) (pts 5) place (nI c) (nI dep) (-1) mat _ = _ from pt_t (i := 2) (by omega) (by omega) hd h2.1 h2.2, z_b2, z_kg (by omega) (by omega), z_clamp (by omega), show nI c + 1 = nI (c + 1) from z_add c 1]
  have oks : ∀ j, j < 6 → okL (drw' j) := fun j hj => by
    have h : j = 0 ∨ j = 1 ∨ j = 2 ∨ j = 3 ∨ j = 4 ∨ j = 5 := by omega
    rcases h with rfl | rfl | rfl | rfl | rfl | rfl
    · rw [show drw' 0 = _ from q0]; exact h0.1
    · rw [show drw' 1 = _ from q1]; exact h0.2
    · rw [show drw' 2 = _ from q2]; exact h1.1
    · rw [show drw' 3 = _ from q3]; exact h1.2
    · rw [show drw' 4 = _ from q4]; exact h2.1
    · rw [show drw' 5 = _ from q5]; exact h2.2
  rw [add_ok hkd (by omega) (by omega) (fun j hj => oks j (by rw [hnd] at hj; exact hj))]
  refine ⟨drw', putN sn c (nd 2) (fun j => (drw' j).toInt32), upd sk c 2, upd (upd (upd (upd (upd (upd dn (6 * c + 2 * 0) (Int64.toInt32 (dX mat dep (pts 0) (pts 1)))) (6 * c + 2 * 0 + 1) (Int64.toInt32 (dY mat dep (pts 0) (pts 1)))) (6 * c + 2 * 1) (Int64.toInt32 (dX mat dep (pts 2) (pts 3)))) (6 * c + 2 * 1 + 1) (Int64.toInt32 (dY mat dep (pts 2) (pts 3)))) (6 * c + 2 * 2) (Int64.toInt32 (dX mat dep (pts 4) (pts 5)))) (6 * c + 2 * 2 + 1) (Int64.toInt32 (dY mat dep (pts 4) (pts 5))), upd dk c 2, by omega, rfl, rfl, ?_, rfl⟩
  refine rD_push hD (by omega) hkd (fun j hj => by unfold putN; rw [if_neg (by omega)]) (fun j hj => by rw [upd_ne (by omega), upd_ne (by omega), upd_ne (by omega), upd_ne (by omega), upd_ne (by omega), upd_ne (by omega)]) (fun i hi => ?_)
  rw [hnd] at hi ⊢
  have e1 : putN sn c 6 (fun j => (drw' j).toInt32) (6 * c + i) = Int64.toInt32 (drw' i) := by unfold putN; rw [if_pos (by omega), show 6 * c + i - 6 * c = i by omega]
  rw [e1]
  suffices e2 : (upd (upd (upd (upd (upd (upd dn (6 * c + 2 * 0) (Int64.toInt32 (dX mat dep (pts 0) (pts 1)))) (6 * c + 2 * 0 + 1) (Int64.toInt32 (dY mat dep (pts 0) (pts 1)))) (6 * c + 2 * 1) (Int64.toInt32 (dX mat dep (pts 2) (pts 3)))) (6 * c + 2 * 1 + 1) (Int64.toInt32 (dY mat dep (pts 2) (pts 3)))) (6 * c + 2 * 2) (Int64.toInt32 (dX mat dep (pts 4) (pts 5)))) (6 * c + 2 * 2 + 1) (Int64.toInt32 (dY mat dep (pts 4) (pts 5)))) (6 * c + i) = Int64.toInt32 (drw' i) by rw [e2]; exact ⟨rfl, ok_to32 (oks i hi)⟩
  have h : i = 0 ∨ i = 1 ∨ i = 2 ∨ i = 3 ∨ i = 4 ∨ i = 5 := by omega
  rcases h with rfl | rfl | rfl | rfl | rfl | rfl
  · rw [upd_ne (by omega), upd_ne (by omega), upd_ne (by omega), upd_ne (by omega), upd_ne (by omega), show drw' 0 = _ from q0]; exact upd_at _ _ _
  · rw [upd_ne (by omega), upd_ne (by omega), upd_ne (by omega), upd_ne (by omega), show drw' 1 = _ from q1]; exact upd_at _ _ _
  · rw [upd_ne (by omega), upd_ne (by omega), upd_ne (by omega), show drw' 2 = _ from q2]; exact upd_at _ _ _
  · rw [upd_ne (by omega), upd_ne (by omega), show drw' 3 = _ from q3]; exact upd_at _ _ _
  · rw [upd_ne (by omega), show drw' 4 = _ from q4]; exact upd_at _ _ _
  · rw [show drw' 5 = _ from q5]; exact upd_at _ _ _
