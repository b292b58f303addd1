/-! L3: read. Numbers. -/
theorem in_t {v : Int64} (h : okL v) : m_in v (-1048576) 1048576 = some 1 := by
  unfold m_in
  rw [if_neg (by rw [Int64.lt_iff_toInt_lt]; exact Int.not_lt.mpr h.1), if_neg (by rw [Int64.lt_iff_toInt_lt]; exact Int.not_lt.mpr h.2)]
theorem in_f {v : Int64} (h : ¬ okL v) : m_in v (-1048576) 1048576 = some 0 := by
  unfold m_in
  by_cases h1 : v < -1048576
  · rw [if_pos h1]
  · rw [if_neg h1]
    by_cases h2 : (1048576 : Int64) < v
    · rw [if_pos h2]
    · rw [Int64.lt_iff_toInt_lt] at h1 h2
      exact absurd ⟨Int.not_lt.mp h1, Int.not_lt.mp h2⟩ h
theorem kt_eq {b : Nat} (h : b ≤ 9) : k_tens b = jN (10 ^ b) := by
  have h : b = 0 ∨ b = 1 ∨ b = 2 ∨ b = 3 ∨ b = 4 ∨ b = 5 ∨ b = 6 ∨ b = 7 ∨ b = 8 ∨ b = 9 := by omega
  rcases h with rfl | rfl | rfl | rfl | rfl | rfl | rfl | rfl | rfl | rfl <;> rfl
theorem p9' {b : Nat} : 0 < 10 ^ b := Nat.pow_pos (by omega)
theorem un_L {N b : Nat} {p less at0 wr : Int32} {wh : Int64} (hb : b ≤ 9) : ∀ f j, j ≤ b → b < f + j → m_numeral_L146 N f p less (jN (10 ^ j)) (nI j) at0 wr (nI b) wh = (if less = 0 then m_numeral_b193 N p (jN (10 ^ b)) ((256 : Int64) * wh) at0 wr (nI b) wh else m_numeral_b193 N p (jN (10 ^ b)) ((-256 : Int64) * wh) at0 wr (nI b) wh) := by
  intro f
  induction f with
  | zero => intro j h1 h2; omega
  | succ f ih =>
    intro j h1 h2
    show m_numeral_B146 N (m_numeral_L146 N f) p less (jN (10 ^ j)) (nI j) at0 wr (nI b) wh = _
    unfold m_numeral_B146
    by_cases h : j = b
    · subst h
      rw [if_pos (by rw [z_le (by omega) (by omega)]; omega)]
    · rw [if_neg (by rw [z_le (by omega) (by omega)]; omega), show jN (10 ^ j) * 10 = jN (10 ^ (j + 1)) from jN_mul _ 10, show nI j + 1 = nI (j + 1) from z_add j 1, ih (j + 1) (by omega) (by omega)]
theorem nu_end {N k p e d b : Nat} {less x3 wr : Int32} {va wh val : Int64} {nums : Nat → Int64} (hN : 2000 ≤ N) (hk : k < 6) (hp : p + d ≤ e) (hd : d ≤ 3000) (hb : b ≤ d) (hx : x3 + nI b = nI d) (hV : rV d va wh) :
    (∃ v, p < e ∧ okL v ∧ xReader_takeNumeral_b165 N (nI k) less (nI e) va (nI d) (nI b) (nI p) nums = some (1, nI e, vp_updL nums k v) ∧ m_numeral_b117 N (nI p) less x3 (nI e) val wr (nI b) wh = some (nI e, v, wr, nI b, wh)) ∨
    (∃ v, xReader_takeNumeral_b165 N (nI k) less (nI e) va (nI d) (nI b) (nI p) nums = some (0, nI p, nums) ∧ m_numeral_b117 N (nI p) less x3 (nI e) val wr (nI b) wh = some (nI e, v, nI p, nI b, wh)) := by
  unfold xReader_takeNumeral_b165 m_numeral_b117 m_numeral_b134
  rw [hx]
  by_cases h0 : d = 0
  · subst h0
    exact Or.inr ⟨val, rfl, rfl⟩
  · have z0 : ¬ nI d = 0 := by rw [show (0 : Int32) = nI 0 from rfl, z_inj (by omega) (by omega)]; exact h0
    rw [if_neg z0, if_neg z0]
    by_cases h9 : d ≤ 9
    · obtain ⟨v, hv, rfl, rfl⟩ := hV h9
      have hp9 := p9 (d := b) (by omega)
      have hp0 := p9' (b := b)
      rw [if_neg (show ¬ (9 : Int32) < nI d by rw [show (9 : Int32) = nI 9 from rfl, z_lt (by omega) (by omega)]; omega), if_pos (show nI d ≤ (9 : Int32) by rw [show (9 : Int32) = nI 9 from rfl, z_le (by omega) (by omega)]; omega), if_neg (i_n0 (by omega)), if_pos (show nI b < (10 : Int32) by rw [show (10 : Int32) = nI 10 from rfl, z_lt (by omega) (by omega)]; omega)]
      rw [show m_numeral_L146 N N (nI p) less 1 0 (nI e) wr (nI b) (jN v) = _ from un_L (by omega) N 0 (by omega) (by omega)]
      have go : ∀ s0 X : Int64, s0 * 256 = X → ((∃ w, p < e ∧ okL w ∧ xReader_takeNumeral_b205 N (nI k) (nI e) (nI b) s0 (nI p) nums = some (1, nI e, vp_updL nums k w) ∧ m_numeral_b193 N (nI p) (jN (10 ^ b)) X (nI e) wr (nI b) (jN v) = some (nI e, w, wr, nI b, jN v)) ∨ (∃ w, xReader_takeNumeral_b205 N (nI k) (nI e) (nI b) s0 (nI p) nums = some (0, nI p, nums) ∧ m_numeral_b193 N (nI p) (jN (10 ^ b)) X (nI e) wr (nI b) (jN v) = some (nI e, w, nI p, nI b, jN v))) := fun s0 X hX => by
        unfold xReader_takeNumeral_b205 m_numeral_b193 m_numeral_b226
        rw [z_kg (by omega) (by omega), z_clamp (by omega), kt_eq (by omega), hX, xP_nearest_eq (by rw [show (1 : Int64) = jN 1 from rfl, jN_le (by omega) (by omega)]; omega) (by rw [show 2 * jN (10 ^ b) = jN (2 * 10 ^ b) from jN_mul 2 _, show (0 : Int64) = jN 0 from rfl, jN_lt (by omega) (by omega)]; omega), z_b1, m_nearest_eq (dbl_ne hp0 (by omega)), z_b1]
        by_cases ho : okL (nr X (jN (10 ^ b)))
        · refine Or.inl ⟨nr X (jN (10 ^ b)), by omega, ho, ?_, ?_⟩
          · rw [isN_t ho, z_b1, if_neg (by decide), if_neg (i_n0 (by omega)), if_pos (show nI k < (6 : Int32) by rw [show (6 : Int32) = nI 6 from rfl, z_lt (by omega) (by omega)]; omega), z_kg (by omega) (by omega), z_clamp (by omega)]
          · rw [in_t ho, z_b1, if_neg (by decide)]
        · refine Or.inr ⟨nr X (jN (10 ^ b)), ?_, ?_⟩
          · rw [isN_f ho, z_b1, if_pos rfl]
          · rw [in_f ho, z_b1, if_pos rfl]
      by_cases hl : less = 0
      · simp only [if_pos hl]
        exact go _ _ (Int64.mul_comm _ _)
      · simp only [if_neg hl]
        refine go _ _ ?_
        rw [Int64.neg_mul, Int64.mul_comm]
        exact (Int64.neg_mul 256 _).symm
    · rw [if_pos (show (9 : Int32) < nI d by rw [show (9 : Int32) = nI 9 from rfl, z_lt (by omega) (by omega)]; omega), if_neg (show ¬ nI d ≤ (9 : Int32) by rw [show (9 : Int32) = nI 9 from rfl, z_le (by omega) (by omega)]; omega)]
      exact Or.inr ⟨val, rfl, rfl⟩
theorem nu_stop {N n f e : Nat} {k less at0 po d b : Int32} {va : Int64} {xc yc : Nat → Int32} {nums : Nat → Int64} (hT : rT n xc yc) (he : e ≤ n) (hf : 0 < f) (hD : ¬ isD (sgn n yc e)) (h : ¬ sgn n yc e = 46 ∨ ¬ po = 0) : xReader_takeNumeral_L68 N f k less (nI e) va d b po at0 (nI n) xc nums = xReader_takeNumeral_b165 N k less (nI e) va d b at0 nums := by
  have hn := hT.1
  obtain ⟨f, rfl⟩ : ∃ f', f = f' + 1 := ⟨f - 1, by omega⟩
  show xReader_takeNumeral_B68 N (xReader_takeNumeral_L68 N f) k less (nI e) va d b po at0 (nI n) xc nums = _
  unfold xReader_takeNumeral_B68
  by_cases q : e = n
  · rw [if_pos (by rw [z_le (by omega) (by omega)]; omega)]
  · rw [if_neg (by rw [z_le (by omega) (by omega)]; omega), at_eq hT (by omega), z_b1, noD_x hD, z_b1, if_pos rfl]
    by_cases h46 : sgn n yc e = 46
    · rw [if_pos h46, if_neg (h.resolve_left (fun z => z h46))]
    · rw [if_neg h46]
theorem nu_run {N n k p e0 : Nat} {less wr : Int32} {val : Int64} {xc yc : Nat → Int32} {nums : Nat → Int64} (hN : 5000 ≤ N) (hT : rT n xc yc) (hk : k < 6) (hp : p ≤ e0) (he : e0 ≤ n) :
    (∃ e v bh wh, p < e ∧ e ≤ n ∧ okL v ∧ xReader_takeNumeral_b55 N (nI k) less (nI e0) (nI p) (nI n) xc nums = some (1, nI e, vp_updL nums k v) ∧ m_numeral_b72 N (nI p) less (nI e0) (nI n) val wr yc = some (nI e, v, wr, bh, wh)) ∨
    (∃ e v bh wh, e ≤ n ∧ xReader_takeNumeral_b55 N (nI k) less (nI e0) (nI p) (nI n) xc nums = some (0, nI p, nums) ∧ m_numeral_b72 N (nI p) less (nI e0) (nI n) val wr yc = some (nI e, v, nI p, bh, wh)) := by
  have hn := hT.1
  unfold xReader_takeNumeral_b55 m_numeral_b72 m_passDigits
  obtain ⟨e1, va1, wh1, a1, a2, a3, a4, a5, a6⟩ := dig_L (N := N) (k := nI k) (less := less) (at0 := nI p) (po := 0) (nums := nums) hT (Or.inl rfl) (n - e0) e0 (by omega) N N 0 0 0 0 0 (by omega) (by omega) (by omega) (by omega) (fun _ => ⟨0, by decide, rfl, rfl⟩)
  rw [show xReader_takeNumeral_L68 N N (nI k) less (nI e0) 0 0 0 0 (nI p) (nI n) xc nums = _ from a5, show m_passDigits_L2 N N 0 (nI n) (nI e0) 0 yc = _ from a6, z_b3, sign_eq hT (by omega), z_b1]
  rw [Nat.zero_add] at a4 ⊢
  by_cases h46 : sgn n yc e1 = 46
  · have hl : e1 < n := sgn_lt (yc := yc) (by rw [h46]; decide)
    obtain ⟨e2, va2, wh2, b1, b2, b3, b4, b5, b6⟩ := dig_L (N := N) (k := nI k) (less := less) (at0 := nI p) (po := 1) (nums := nums) hT (Or.inr rfl) (n - (e1 + 1)) (e1 + 1) (by omega) (N - (e1 - e0) - 1) N (e1 - e0) 0 0 va1 wh1 (by omega) (by omega) (by omega) (by omega) a4
    have cx : xReader_takeNumeral_L68 N (N - (e1 - e0)) (nI k) less (nI e1) va1 (nI (e1 - e0)) (nI (0 + (if (0 : Int32) = 0 then 0 else e1 - e0))) 0 (nI p) (nI n) xc nums = xReader_takeNumeral_b165 N (nI k) less (nI e2) va2 (nI (e1 - e0 + (e2 - (e1 + 1)))) (nI (e2 - (e1 + 1))) (nI p) nums := by
      rw [if_pos rfl, show N - (e1 - e0) = N - (e1 - e0) - 1 + 1 by omega]
      show xReader_takeNumeral_B68 N (xReader_takeNumeral_L68 N (N - (e1 - e0) - 1)) (nI k) less (nI e1) va1 (nI (e1 - e0)) (nI 0) 0 (nI p) (nI n) xc nums = _
      unfold xReader_takeNumeral_B68
      rw [if_neg (by rw [z_le (by omega) (by omega)]; omega), at_eq hT (by omega), z_b1, noD_x a3, z_b1, if_pos rfl, if_pos h46, if_pos rfl, show nI e1 + 1 = nI (e1 + 1) from z_add e1 1]
      rw [b5, if_neg (by decide), Nat.zero_add]
      exact nu_stop hT b2 (by omega) b3 (Or.inr (by decide))
    rw [cx, if_pos h46, show nI e1 + 1 = nI (e1 + 1) from z_add e1 1, show m_passDigits_L2 N N 0 (nI n) (nI (e1 + 1)) wh1 yc = _ from b6, z_b3, Nat.zero_add]
    rcases nu_end (N := N) (k := k) (p := p) (e := e2) (d := e1 - e0 + (e2 - (e1 + 1))) (b := e2 - (e1 + 1)) (less := less) (x3 := nI (e1 - e0)) (wr := wr) (val := val) (nums := nums) (by omega) hk (by omega) (by omega) (by omega) (z_add _ _) b4 with ⟨v, c1, c2, c3, c4⟩ | ⟨v, c1, c2⟩
    · exact Or.inl ⟨e2, v, _, _, c1, b2, c2, c3, c4⟩
    · exact Or.inr ⟨e2, v, _, _, b2, c1, c2⟩
  · rw [if_pos rfl, nu_stop hT a2 (by omega) a3 (Or.inl h46), if_neg h46]
    rcases nu_end (N := N) (k := k) (p := p) (e := e1) (d := e1 - e0) (b := 0) (less := less) (x3 := nI (e1 - e0)) (wr := wr) (val := val) (nums := nums) (by omega) hk (by omega) (by omega) (by omega) (z_add _ 0) a4 with ⟨v, c1, c2, c3, c4⟩ | ⟨v, c1, c2⟩
    · exact Or.inl ⟨e1, v, _, _, c1, a2, c2, c3, c4⟩
    · exact Or.inr ⟨e1, v, _, _, a2, c1, c2⟩
def isNu (c : Int32) : Prop := isD c ∨ c = 43 ∨ c = 45 ∨ c = 46
theorem isNu_t {n i : Nat} {xc yc : Nat → Int32} (hT : rT n xc yc) (hi : i ≤ n) (h : isNu (sgn n yc i)) : m_isNumeral (nI n) (nI i) yc = some 1 := by
  have hn := hT.1
  unfold m_isNumeral
  rw [sign_eq hT (by omega), z_b1]
  by_cases hD : isD (sgn n yc i)
  · rw [isD_m hD, z_b1, if_neg (by decide)]
  · rw [noD_m hD, z_b1, if_pos rfl]
    rcases h with h | h | h | h
    · exact absurd h hD
    · rw [if_pos h]
    · rw [if_neg (by rw [h]; decide), if_pos h]
    · rw [if_neg (by rw [h]; decide), if_neg (by rw [h]; decide), if_pos h]
theorem isNu_f {n i : Nat} {xc yc : Nat → Int32} (hT : rT n xc yc) (hi : i ≤ n) (h : ¬ isNu (sgn n yc i)) : m_isNumeral (nI n) (nI i) yc = some 0 := by
  have hn := hT.1
  unfold m_isNumeral
  rw [sign_eq hT (by omega), z_b1, noD_m (fun z => h (Or.inl z)), z_b1, if_pos rfl, if_neg (fun z => h (Or.inr (Or.inl z))), if_neg (fun z => h (Or.inr (Or.inr (Or.inl z)))), if_neg (fun z => h (Or.inr (Or.inr (Or.inr z))))]
theorem nu_eq {N n k p : Nat} {i0 bh0 : Int32} {val wh0 : Int64} {xc yc : Nat → Int32} {nums : Nat → Int64} (hN : 5000 ≤ N) (hT : rT n xc yc) (hk : k < 6) (hp : p ≤ n) (hs : m_skip N (nI n) i0 yc = some (nI p)) :
    (∃ e v bh wh, p < e ∧ e ≤ n ∧ okL v ∧ xReader_takeNumeral N (nI k) (nI p) (nI n) xc nums = some (1, nI e, vp_updL nums k v) ∧ m_numeral N (nI n) i0 val (-1) bh0 wh0 yc = some (nI e, v, -1, bh, wh)) ∨
    (∃ e v bh wh, e ≤ n ∧ xReader_takeNumeral N (nI k) (nI p) (nI n) xc nums = some (0, nI p, nums) ∧ m_numeral N (nI n) i0 val (-1) bh0 wh0 yc = some (nI e, v, nI p, bh, wh)) := by
  have hn := hT.1
  have n1 : ¬ (1 : Int32) = 0 := by decide
  have e1 : nI p + 1 = nI (p + 1) := z_add p 1
  unfold xReader_takeNumeral m_numeral xReader_takeNumeral_b21 xReader_takeNumeral_b42 m_numeral_b39 m_numeral_b59
  have hat := at_eq (i := p) hT (by omega)
  have hsg := sign_eq (i := p) hT (by omega)
  simp only [hat, hs, z_b1, hsg]
  by_cases hNu : isNu (sgn n yc p)
  · simp only [isNu_t hT hp hNu, z_b1, if_neg n1, e1]
    by_cases h45 : sgn n yc p = 45
    · have hl : p < n := sgn_lt (yc := yc) (by rw [h45]; decide)
      simp only [if_pos h45]
      exact nu_run hN hT hk (by omega) (by omega)
    · simp only [if_neg h45, if_true]
      by_cases h43 : sgn n yc p = 43
      · have hl : p < n := sgn_lt (yc := yc) (by rw [h43]; decide)
        simp only [if_pos h43]
        exact nu_run hN hT hk (by omega) (by omega)
      · simp only [if_neg h43]
        exact nu_run hN hT hk (by omega) (by omega)
  · refine Or.inr ⟨p, val, bh0, wh0, hp, ?_, ?_⟩
    · rw [if_neg (fun z => hNu (Or.inr (Or.inr (Or.inl z)))), if_pos True.intro, if_neg (fun z => hNu (Or.inr (Or.inl z)))]
      unfold xReader_takeNumeral_b55
      rw [nu_stop hT hp (by omega) (fun z => hNu (Or.inl z)) (Or.inl (fun z => hNu (Or.inr (Or.inr (Or.inr z)))))]
      rfl
    · rw [isNu_f hT hp hNu, z_b1, if_pos rfl]
theorem ns_L {N n m : Nat} {wr : Int32} {xc yc : Nat → Int32} (hN : 5000 ≤ N) (hT : rT n xc yc) (hm : m ≤ 6) : ∀ f j, j ≤ m → m < f + j → ∀ i nums giv val bh wh, i ≤ n → (∀ s, s < j → nums s = giv s) →
    (∃ i' nums' giv' val' bh' wh', i + (m - j) ≤ i' ∧ i' ≤ n ∧ (∀ s, s < m → nums' s = giv' s) ∧ xReader_takeNumbers_L2 N f (nI m) (nI j) (nI i) wr (nI n) xc nums = some (1, nI i', wr, nums') ∧ m_numerals_L2 N f (nI m) (nI j) (nI n) (nI i) val (-1) bh wh yc giv = some (nI i', val', -1, bh', wh', giv')) ∨
    (∃ q at1 nums' j2 val' bh' wh' giv', q ≤ n ∧ j2 ≤ n ∧ xReader_takeNumbers_L2 N f (nI m) (nI j) (nI i) wr (nI n) xc nums = some (0, at1, nI q, nums') ∧ m_numerals_L2 N f (nI m) (nI j) (nI n) (nI i) val (-1) bh wh yc giv = some (nI j2, val', nI q, bh', wh', giv')) := by
  have hn := hT.1
  intro f
  induction f with
  | zero => intro j a b; omega
  | succ f ih =>
    intro j hj hf i nums giv val bh wh hi hag
    show (∃ i' nums' giv' val' bh' wh', _ ∧ _ ∧ _ ∧ xReader_takeNumbers_B2 N (xReader_takeNumbers_L2 N f) (nI m) (nI j) (nI i) wr (nI n) xc nums = _ ∧ m_numerals_B2 N (m_numerals_L2 N f) (nI m) (nI j) (nI n) (nI i) val (-1) bh wh yc giv = _) ∨ (∃ q at1 nums' j2 val' bh' wh' giv', _ ∧ _ ∧ xReader_takeNumbers_B2 N (xReader_takeNumbers_L2 N f) (nI m) (nI j) (nI i) wr (nI n) xc nums = _ ∧ m_numerals_B2 N (m_numerals_L2 N f) (nI m) (nI j) (nI n) (nI i) val (-1) bh wh yc giv = _)
    unfold xReader_takeNumbers_B2 m_numerals_B2
    by_cases h : j = m
    · subst h
      rw [if_pos (show nI j ≤ nI j by rw [z_le (by omega) (by omega)]; omega), if_pos (show nI j ≤ nI j by rw [z_le (by omega) (by omega)]; omega)]
      exact Or.inl ⟨i, nums, giv, val, bh, wh, by omega, hi, hag, rfl, rfl⟩
    · rw [if_neg (show ¬ nI m ≤ nI j by rw [z_le (by omega) (by omega)]; omega), if_neg (show ¬ nI m ≤ nI j by rw [z_le (by omega) (by omega)]; omega), if_neg (show ¬ (6 : Int32) ≤ nI j by rw [show (6 : Int32) = nI 6 from rfl, z_le (by omega) (by omega)]; omega), if_neg (show ¬ (0 : Int32) ≤ -1 by decide)]
      obtain ⟨p, p1, p2, p3, p4, p5⟩ := sk_eq (N := N) (by omega) hT hi
      rw [p4, z_b1]
      have ej : nI j + 1 = nI (j + 1) := z_add j 1
      rcases nu_eq (k := j) (i0 := nI i) (bh0 := bh) (val := val) (wh0 := wh) (nums := nums) hN hT (by omega) p2 p5 with ⟨e, v, bh1, wh1, c1, c2, c3, c4, c5⟩ | ⟨e, v, bh1, wh1, c0, c1, c2⟩
      · rw [c4, z_b3, if_neg (by decide), c5, z_b5, z_kg (by omega) (by omega), z_clamp (by omega), ej]
        have hag' : ∀ s, s < j + 1 → vp_updL nums j v s = vp_updL giv j v s := fun s hs => by
          by_cases q : s = j
          · rw [q, updL_at, updL_at]
          · rw [updL_ne q, updL_ne q]; exact hag s (by omega)
        rcases ih (j + 1) (by omega) (by omega) e (vp_updL nums j v) (vp_updL giv j v) v bh1 wh1 c2 hag' with ⟨i', nums', giv', val', bh', wh', d1, d2, d3, d4, d5⟩ | d
        · exact Or.inl ⟨i', nums', giv', val', bh', wh', by omega, d2, d3, d4, d5⟩
        · exact Or.inr d
      · rw [c1, z_b3, if_pos rfl, c2, z_b5, z_kg (by omega) (by omega), z_clamp (by omega), ej]
        refine Or.inr ⟨p, nI p, nums, e, v, bh1, wh1, vp_updL giv j v, p2, c0, rfl, ?_⟩
        obtain ⟨f, rfl⟩ : ∃ f', f = f' + 1 := ⟨f - 1, by omega⟩
        show m_numerals_B2 N (m_numerals_L2 N f) (nI m) (nI (j + 1)) (nI n) (nI e) v (nI p) bh1 wh1 yc (vp_updL giv j v) = _
        unfold m_numerals_B2
        rw [if_pos (show (0 : Int32) ≤ nI p by rw [show (0 : Int32) = nI 0 from rfl, z_le (by omega) (by omega)]; omega), ite_self]
theorem ns_eq {N n m i : Nat} {wr bh : Int32} {val wh : Int64} {xc yc : Nat → Int32} {nums giv : Nat → Int64} (hN : 5000 ≤ N) (hT : rT n xc yc) (hm : m ≤ 6) (hi : i ≤ n) :
    (∃ i' nums' giv' val' bh' wh', i + m ≤ i' ∧ i' ≤ n ∧ (∀ s, s < m → nums' s = giv' s) ∧ xReader_takeNumbers N (nI m) (nI i) wr (nI n) xc nums = some (1, nI i', wr, nums') ∧ m_numerals N (nI m) (nI n) (nI i) val (-1) bh wh yc giv = some (nI i', val', -1, bh', wh', giv')) ∨
    (∃ q at1 nums' j2 val' bh' wh' giv', q ≤ n ∧ j2 ≤ n ∧ xReader_takeNumbers N (nI m) (nI i) wr (nI n) xc nums = some (0, at1, nI q, nums') ∧ m_numerals N (nI m) (nI n) (nI i) val (-1) bh wh yc giv = some (nI j2, val', nI q, bh', wh', giv')) :=
  ns_L hN hT hm N 0 (by omega) (by omega) i nums giv val bh wh hi (fun s hs => by omega)
theorem nf_eq {N n i : Nat} {xc yc : Nat → Int32} (hN : 5000 ≤ N) (hT : rT n xc yc) (hi : i ≤ n) : ∃ i' r, i ≤ i' ∧ i' ≤ n ∧ nb (sgn n yc i') ∧ (r = 0 ∨ r = 1) ∧ xReader_numeralFollows N (nI i) (nI n) xc = some (r, nI i') ∧ m_skip N (nI n) (nI i) yc = some (nI i') ∧ m_isNumeral (nI n) (nI i') yc = some r := by
  have hn := hT.1
  obtain ⟨p, p1, p2, p3, p4, p5⟩ := sk_eq (N := N) (by omega) hT hi
  unfold xReader_numeralFollows
  rw [p4, z_b1, at_eq hT (by omega), z_b1]
  by_cases hNu : isNu (sgn n yc p)
  · refine ⟨p, 1, p1, p2, p3, Or.inr rfl, ?_, p5, isNu_t hT p2 hNu⟩
    by_cases hD : isD (sgn n yc p)
    · rw [isD_x hD, z_b1, if_neg (by decide)]
    · rw [noD_x hD, z_b1, if_pos rfl]
      rcases hNu with h | h | h | h
      · exact absurd h hD
      · rw [if_pos h]
      · rw [if_neg (by rw [h]; decide), if_pos h]
      · rw [if_neg (by rw [h]; decide), if_neg (by rw [h]; decide), if_pos h]
  · refine ⟨p, 0, p1, p2, p3, Or.inl rfl, ?_, p5, isNu_f hT p2 hNu⟩
    rw [noD_x (fun z => hNu (Or.inl z)), z_b1, if_pos rfl, if_neg (fun z => hNu (Or.inr (Or.inl z))), if_neg (fun z => hNu (Or.inr (Or.inr (Or.inl z)))), if_neg (fun z => hNu (Or.inr (Or.inr (Or.inr z))))]
