/-! L3: read. Characters, blanks, numerals. -/
def sgn (n : Nat) (yc : Nat → Int32) (i : Nat) : Int32 := if i < n then yc i else 0
theorem sgn_0 {n i : Nat} {yc : Nat → Int32} (h : n ≤ i) : sgn n yc i = 0 := by unfold sgn; rw [if_neg (by omega)]
theorem sgn_lt {n i : Nat} {yc : Nat → Int32} (h : ¬ sgn n yc i = 0) : i < n := by
  unfold sgn at h
  by_cases q : i < n
  · exact q
  · rw [if_neg q] at h; exact absurd rfl h
theorem sgn_b {n i : Nat} {xc yc : Nat → Int32} (hT : rT n xc yc) : 0 ≤ (sgn n yc i).toInt ∧ (sgn n yc i).toInt ≤ 126 := by
  unfold sgn
  by_cases q : i < n
  · rw [if_pos q]; have := hT.2 i q; omega
  · rw [if_neg q]; decide
theorem at_eq {n i : Nat} {xc yc : Nat → Int32} (hT : rT n xc yc) (hi : i ≤ 2400) : xRow_at 1200 (nI i) (nI n) xc = some (sgn n yc i) := by
  have hn := hT.1
  unfold xRow_at sgn
  rw [if_neg (i_n0 (by omega)), show Int32.ofNat 1200 = nI 1200 from rfl]
  by_cases h : i < n
  · obtain ⟨a, b, c⟩ := hT.2 i h
    rw [if_neg (by rw [z_le (by omega) (by omega)]; omega), if_neg (show ¬ nI 1200 ≤ nI i by rw [z_le (by omega) (by omega)]; omega), z_kg (by omega) (by omega), z_clamp (by omega), a, kg_t (ch_kcI (by omega) (by omega)), if_pos h]
  · rw [if_pos (by rw [z_le (by omega) (by omega)]; omega), if_neg h]
theorem sign_eq {n i : Nat} {xc yc : Nat → Int32} (hT : rT n xc yc) (hi : i ≤ 2400) : m_sign (nI n) (nI i) yc = some (sgn n yc i) := by
  have hn := hT.1
  unfold m_sign sgn
  by_cases h : i < n
  · rw [if_neg (by rw [z_le (by omega) (by omega)]; omega), z_kg (by omega) (by omega), z_clamp (by omega), if_pos h]
  · rw [if_pos (by rw [z_le (by omega) (by omega)]; omega), if_neg h]
def nb (c : Int32) : Prop := ¬ c = 32 ∧ ¬ c = 44
theorem sk_L {N n : Nat} {xc yc : Nat → Int32} (hT : rT n xc yc) : ∀ f i, i ≤ n → n < f + i → ∃ i', i ≤ i' ∧ i' ≤ n ∧ nb (sgn n yc i') ∧ xReader_passBlanks_L0 N f (nI i) (nI n) xc = some (nI i') ∧ m_skip_L0 N f (nI n) (nI i) yc = some (nI i') := by
  have hn := hT.1
  intro f
  induction f with
  | zero => intro i a b; omega
  | succ f ih =>
    intro i hi hf
    show ∃ i', _ ∧ _ ∧ _ ∧ xReader_passBlanks_B0 N (xReader_passBlanks_L0 N f) (nI i) (nI n) xc = _ ∧ m_skip_B0 N (m_skip_L0 N f) (nI n) (nI i) yc = _
    unfold xReader_passBlanks_B0 m_skip_B0 xReader_passBlanks_b46 m_skip_b18
    rw [at_eq hT (by omega), sign_eq hT (by omega), z_b1, z_b1, z_b1, z_b1, show nI i + 1 = nI (i + 1) from z_add i 1]
    by_cases h : i = n
    · subst h
      rw [sgn_0 (by omega), if_pos (by rw [z_le (by omega) (by omega)]; omega), if_neg (by decide), if_neg (by decide)]
      exact ⟨i, by omega, by omega, by rw [sgn_0 (by omega)]; exact ⟨by decide, by decide⟩, rfl, rfl⟩
    · rw [if_neg (by rw [z_le (by omega) (by omega)]; omega)]
      by_cases h1 : sgn n yc i = 32
      · rw [if_pos h1, if_pos h1]
        obtain ⟨i', a, b, c, d, e⟩ := ih (i + 1) (by omega) (by omega)
        exact ⟨i', by omega, b, c, d, e⟩
      · rw [if_neg h1, if_neg h1]
        by_cases h2 : sgn n yc i = 44
        · rw [if_pos h2, if_pos h2]
          obtain ⟨i', a, b, c, d, e⟩ := ih (i + 1) (by omega) (by omega)
          exact ⟨i', by omega, b, c, d, e⟩
        · rw [if_neg h2, if_neg h2]
          exact ⟨i, by omega, hi, ⟨h1, h2⟩, rfl, rfl⟩
theorem sk_eq {N n i : Nat} {xc yc : Nat → Int32} (hN : 2000 ≤ N) (hT : rT n xc yc) (hi : i ≤ n) : ∃ i', i ≤ i' ∧ i' ≤ n ∧ nb (sgn n yc i') ∧ xReader_passBlanks N (nI i) (nI n) xc = some (nI i') ∧ m_skip N (nI n) (nI i) yc = some (nI i') := by
  have hn := hT.1
  exact sk_L hT N i hi (by omega)
/-- there is nothing to pass -/
theorem sk_no {N n i : Nat} {xc yc : Nat → Int32} (hN : 2000 ≤ N) (hT : rT n xc yc) (hi : i ≤ n) (hb : nb (sgn n yc i)) : xReader_passBlanks N (nI i) (nI n) xc = some (nI i) ∧ m_skip N (nI n) (nI i) yc = some (nI i) := by
  have hn := hT.1
  obtain ⟨f, hf⟩ : ∃ f, N = f + 1 := ⟨N - 1, by omega⟩
  have a : xReader_passBlanks_L0 N (f + 1) (nI i) (nI n) xc = some (nI i) := by
    show xReader_passBlanks_B0 N (xReader_passBlanks_L0 N f) (nI i) (nI n) xc = _
    unfold xReader_passBlanks_B0
    rw [at_eq hT (by omega), z_b1, z_b1, if_neg hb.1, if_neg hb.2, ite_self]
  have b : m_skip_L0 N (f + 1) (nI n) (nI i) yc = some (nI i) := by
    show m_skip_B0 N (m_skip_L0 N f) (nI n) (nI i) yc = _
    unfold m_skip_B0
    rw [sign_eq hT (by omega), z_b1, z_b1, if_neg hb.1, if_neg hb.2]
  rw [← hf] at a b
  exact ⟨a, b⟩
/-- is it a digit? -/
def isD (c : Int32) : Prop := 48 ≤ c.toInt ∧ c.toInt ≤ 57
theorem isD_x {c : Int32} (h : isD c) : xReader_isDigit c = some 1 := by
  unfold xReader_isDigit
  rw [if_neg (by rw [i_lt]; exact Int.not_lt.mpr h.1), if_neg (by rw [i_lt]; exact Int.not_lt.mpr h.2)]
theorem isD_m {c : Int32} (h : isD c) : m_isDigit c = some 1 := isD_x h
theorem noD_x {c : Int32} (h : ¬ isD c) : xReader_isDigit c = some 0 := by
  unfold xReader_isDigit
  by_cases h1 : c < 48
  · rw [if_pos h1]
  · rw [if_neg h1]
    by_cases h2 : (57 : Int32) < c
    · rw [if_pos h2]
    · rw [i_lt] at h1 h2
      exact absurd ⟨Int.not_lt.mp h1, Int.not_lt.mp h2⟩ h
theorem noD_m {c : Int32} (h : ¬ isD c) : m_isDigit c = some 0 := noD_x h
/-- the values of the digits so far -/
def rV (d : Nat) (a b : Int64) : Prop := d ≤ 9 → ∃ v, v < 10 ^ d ∧ a = jN v ∧ b = jN v
theorem p9 {d : Nat} (h : d ≤ 9) : 10 ^ d ≤ 1000000000 := by
  have := Nat.pow_le_pow_right (n := 10) (by omega) h
  exact this
theorem rV_x {d : Nat} {a b : Int64} {c : Int32} (h : rV d a b) (hc : isD c) (hd : d + 1 ≤ 9) : rV (d + 1) (a * 10 + Int32.toInt64 (c - 48)) (10 * b + Int32.toInt64 c - 48) ∧ ¬ (1000000000 : Int64) ≤ b := by
  obtain ⟨v, h1, rfl, rfl⟩ := h (by omega)
  have h9 := p9 (d := d) (by omega)
  have h8 := p9 hd
  have hp : 10 ^ (d + 1) = 10 ^ d * 10 := Nat.pow_succ 10 d
  obtain ⟨q, hq, rfl⟩ : ∃ q, q ≤ 57 ∧ c = nI q := ⟨c.toInt.toNat, by unfold isD at hc; omega, Int32.toInt_inj.mp (by unfold isD at hc; rw [nI_toInt (by omega)]; omega)⟩
  have hq2 : 48 ≤ q := by have := hc.1; rw [nI_toInt (by omega)] at this; omega
  have e1 : jN v * 10 + Int32.toInt64 (nI q - 48) = jN (10 * v + (q - 48)) := by
    rw [show nI q - 48 = nI (q - 48) from z_sub (b := 48) hq2, jN_up (by omega), show jN v * 10 = jN (v * 10) from jN_mul v 10, jN_add, Nat.mul_comm]
  have e2 : 10 * jN v + Int32.toInt64 (nI q) - 48 = jN (10 * v + (q - 48)) := by
    rw [jN_up (by omega), show (10 : Int64) * jN v = jN (10 * v) from jN_mul 10 v, jN_add, show (48 : Int64) = jN 48 from rfl, jN_sub (by omega)]; congr 1; omega
  refine ⟨fun _ => ⟨10 * v + (q - 48), by omega, e1, e2⟩, ?_⟩
  rw [show (1000000000 : Int64) = jN 1000000000 from rfl, jN_le (by omega) (by omega)]
  omega
theorem dig_L {N n : Nat} {k less at0 po : Int32} {xc yc : Nat → Int32} {nums : Nat → Int64} (hT : rT n xc yc) (hpo : po = 0 ∨ po = 1) : ∀ m e, e + m = n → ∀ f g d x b va wh, m < f → m < g → x ≤ d → d + m ≤ 3000 → rV d va wh → ∃ e' va' wh', e ≤ e' ∧ e' ≤ n ∧ ¬ isD (sgn n yc e') ∧ rV (d + (e' - e)) va' wh' ∧
    xReader_takeNumeral_L68 N f k less (nI e) va (nI d) (nI b) po at0 (nI n) xc nums = xReader_takeNumeral_L68 N (f - (e' - e)) k less (nI e') va' (nI (d + (e' - e))) (nI (b + (if po = 0 then 0 else e' - e))) po at0 (nI n) xc nums ∧
    m_passDigits_L2 N g (nI x) (nI n) (nI e) wh yc = some (nI (x + (e' - e)), nI e', wh') := by
  have hn := hT.1
  intro m
  induction m with
  | zero =>
    intro e he f g d x b va wh hf hg hx hd hV
    obtain ⟨g, rfl⟩ : ∃ g', g = g' + 1 := ⟨g - 1, by omega⟩
    have hs : sgn n yc e = 0 := sgn_0 (by omega)
    have h0 : ¬ isD (0 : Int32) := by unfold isD; decide
    refine ⟨e, va, wh, by omega, by omega, by rw [hs]; exact h0, by rw [Nat.sub_self]; exact hV, ?_, ?_⟩
    · rw [Nat.sub_self, ite_self]; rfl
    · show m_passDigits_B2 N (m_passDigits_L2 N g) (nI x) (nI n) (nI e) wh yc = _
      unfold m_passDigits_B2
      rw [sign_eq hT (by omega), z_b1, hs, noD_m h0, z_b1, if_pos rfl, Nat.sub_self]; rfl
  | succ m ih =>
    intro e he f g d x b va wh hf hg hx hd hV
    obtain ⟨f, rfl⟩ : ∃ f', f = f' + 1 := ⟨f - 1, by omega⟩
    obtain ⟨g, rfl⟩ : ∃ g', g = g' + 1 := ⟨g - 1, by omega⟩
    by_cases hD : isD (sgn n yc e)
    · have e1 : nI e + 1 = nI (e + 1) := z_add e 1
      have ed : nI d + 1 = nI (d + 1) := z_add d 1
      have ex : nI x + 1 = nI (x + 1) := z_add x 1
      have n1 : ¬ (1 : Int32) = 0 := by decide
      obtain ⟨vb, wb, hV', hx', hm'⟩ : ∃ vb wb, rV (d + 1) vb wb ∧ xReader_takeNumeral_L68 N (f + 1) k less (nI e) va (nI d) (nI b) po at0 (nI n) xc nums = xReader_takeNumeral_L68 N f k less (nI (e + 1)) vb (nI (d + 1)) (nI (b + (if po = 0 then 0 else 1))) po at0 (nI n) xc nums ∧ m_passDigits_L2 N (g + 1) (nI x) (nI n) (nI e) wh yc = m_passDigits_L2 N g (nI (x + 1)) (nI n) (nI (e + 1)) wb yc := by
        have X : ∀ vb, (if nI (d + 1) ≤ (9 : Int32) then xReader_takeNumeral_b124 N (xReader_takeNumeral_L68 N f) k less (nI e) (nI (d + 1)) (nI b) po (va * 10 + Int32.toInt64 (sgn n yc e - 48)) at0 (nI n) xc nums else xReader_takeNumeral_b124 N (xReader_takeNumeral_L68 N f) k less (nI e) (nI (d + 1)) (nI b) po 0 at0 (nI n) xc nums) = xReader_takeNumeral_b124 N (xReader_takeNumeral_L68 N f) k less (nI e) (nI (d + 1)) (nI b) po vb at0 (nI n) xc nums → xReader_takeNumeral_L68 N (f + 1) k less (nI e) va (nI d) (nI b) po at0 (nI n) xc nums = xReader_takeNumeral_L68 N f k less (nI (e + 1)) vb (nI (d + 1)) (nI (b + (if po = 0 then 0 else 1))) po at0 (nI n) xc nums := fun vb h => by
          show xReader_takeNumeral_B68 N (xReader_takeNumeral_L68 N f) k less (nI e) va (nI d) (nI b) po at0 (nI n) xc nums = _
          unfold xReader_takeNumeral_B68
          rw [if_neg (by rw [z_le (by omega) (by omega)]; omega), at_eq hT (by omega), z_b1, isD_x hD, z_b1, if_neg n1, ed, h]
          unfold xReader_takeNumeral_b124 xReader_takeNumeral_b138
          rw [e1]
          rcases hpo with rfl | rfl
          · rw [if_pos rfl, if_pos rfl, show nI b + 0 = nI (b + 0) from z_add b 0]
          · rw [if_neg n1, if_neg n1, show nI b + 1 = nI (b + 1) from z_add b 1]
        have Y : ∀ wb, (if (10 : Int32) ≤ nI x then m_passDigits_b51 N (m_passDigits_L2 N g) (nI x) (nI n) (nI e) wh yc else if (1000000000 : Int64) ≤ wh then m_passDigits_b51 N (m_passDigits_L2 N g) (nI x) (nI n) (nI e) wh yc else kb1 (m_sign (nI n) (nI e) yc) fun r39 => m_passDigits_b55 N (m_passDigits_L2 N g) (nI x) (10 * wh + Int32.toInt64 r39 - 48) (nI n) (nI e) yc) = m_passDigits_b55 N (m_passDigits_L2 N g) (nI x) wb (nI n) (nI e) yc → m_passDigits_L2 N (g + 1) (nI x) (nI n) (nI e) wh yc = m_passDigits_L2 N g (nI (x + 1)) (nI n) (nI (e + 1)) wb yc := fun wb h => by
          show m_passDigits_B2 N (m_passDigits_L2 N g) (nI x) (nI n) (nI e) wh yc = _
          unfold m_passDigits_B2
          rw [show (kb1 (m_sign (nI n) (nI e) yc) fun r3 => kb1 (m_isDigit r3) fun r6 => if r6 = (0 : Int32) then some (nI x, nI e, wh) else if (10 : Int32) ≤ nI x then m_passDigits_b51 N (m_passDigits_L2 N g) (nI x) (nI n) (nI e) wh yc else if (1000000000 : Int64) ≤ wh then m_passDigits_b51 N (m_passDigits_L2 N g) (nI x) (nI n) (nI e) wh yc else kb1 (m_sign (nI n) (nI e) yc) fun r39 => m_passDigits_b55 N (m_passDigits_L2 N g) (nI x) (10 * wh + Int32.toInt64 r39 - 48) (nI n) (nI e) yc) = (if (10 : Int32) ≤ nI x then m_passDigits_b51 N (m_passDigits_L2 N g) (nI x) (nI n) (nI e) wh yc else if (1000000000 : Int64) ≤ wh then m_passDigits_b51 N (m_passDigits_L2 N g) (nI x) (nI n) (nI e) wh yc else kb1 (m_sign (nI n) (nI e) yc) fun r39 => m_passDigits_b55 N (m_passDigits_L2 N g) (nI x) (10 * wh + Int32.toInt64 r39 - 48) (nI n) (nI e) yc) by rw [sign_eq hT (by omega), z_b1, isD_m hD, z_b1, if_neg n1], h]
          unfold m_passDigits_b55
          rw [e1, ex]
        by_cases h9 : d + 1 ≤ 9
        · obtain ⟨r1, r2⟩ := rV_x hV hD h9
          refine ⟨_, _, r1, X _ ?_, Y _ ?_⟩
          · rw [if_pos (show nI (d + 1) ≤ (9 : Int32) by rw [show (9 : Int32) = nI 9 from rfl, z_le (by omega) (by omega)]; omega)]
          · rw [if_neg (show ¬ (10 : Int32) ≤ nI x by rw [show (10 : Int32) = nI 10 from rfl, z_le (by omega) (by omega)]; omega), if_neg r2, sign_eq hT (by omega), z_b1]
        · have hX := X 0 (by rw [if_neg (show ¬ nI (d + 1) ≤ (9 : Int32) by rw [show (9 : Int32) = nI 9 from rfl, z_le (by omega) (by omega)]; omega)])
          by_cases q1 : (10 : Int32) ≤ nI x
          · exact ⟨0, wh, fun h => by omega, hX, Y wh (by rw [if_pos q1]; rfl)⟩
          · by_cases q2 : (1000000000 : Int64) ≤ wh
            · exact ⟨0, wh, fun h => by omega, hX, Y wh (by rw [if_neg q1, if_pos q2]; rfl)⟩
            · exact ⟨0, _, fun h => by omega, hX, Y _ (by rw [if_neg q1, if_neg q2, sign_eq hT (by omega), z_b1])⟩
      obtain ⟨e', va', wh', a1, a2, a3, a4, a5, a6⟩ := ih (e + 1) (by omega) f g (d + 1) (x + 1) (b + (if po = 0 then 0 else 1)) vb wb (by omega) (by omega) (by omega) (by omega) hV'
      refine ⟨e', va', wh', by omega, a2, a3, ?_, ?_, ?_⟩
      · rw [show d + (e' - e) = d + 1 + (e' - (e + 1)) by omega]; exact a4
      · rw [hx', a5, show f - (e' - (e + 1)) = f + 1 - (e' - e) by omega, show d + 1 + (e' - (e + 1)) = d + (e' - e) by omega]
        have : b + (if po = 0 then 0 else 1) + (if po = 0 then 0 else e' - (e + 1)) = b + (if po = 0 then 0 else e' - e) := by split <;> omega
        rw [this]
      · rw [hm', a6, show x + 1 + (e' - (e + 1)) = x + (e' - e) by omega]
    · refine ⟨e, va, wh, by omega, by omega, hD, by rw [Nat.sub_self]; exact hV, ?_, ?_⟩
      · rw [Nat.sub_self, ite_self]; rfl
      · show m_passDigits_B2 N (m_passDigits_L2 N g) (nI x) (nI n) (nI e) wh yc = _
        unfold m_passDigits_B2
        rw [sign_eq hT (by omega), z_b1, noD_m hD, z_b1, if_pos rfl, Nat.sub_self]; rfl
