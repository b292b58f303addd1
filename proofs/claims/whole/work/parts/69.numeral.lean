/-! L3: write. The class's digits behind the point, and the characters of both sides. -/
theorem tn_eq {b : Nat} (h : b ≤ 4) : xWriter_tens (nI b) = some (jN (10 ^ b)) := by
  have h : b = 0 ∨ b = 1 ∨ b = 2 ∨ b = 3 ∨ b = 4 := by omega
  rcases h with rfl | rfl | rfl | rfl | rfl <;> rfl
theorem p10 {b : Nat} (h : b ≤ 3) : 10 ^ b = 1 ∨ 10 ^ b = 10 ∨ 10 ^ b = 100 ∨ 10 ^ b = 1000 := by
  have h : b = 0 ∨ b = 1 ∨ b = 2 ∨ b = 3 := by omega
  rcases h with rfl | rfl | rfl | rfl <;> decide
theorem dn_eq {s b : Nat} (hs : s ≤ 1048576) (hb : b ≤ 3) : xWriter_decimalNextTo (jN s) (nI b) = some (jN (dN s (10 ^ b))) := by
  have hu := p10 hb
  have hsu : s * 10 ^ b ≤ 1048576 * 1000 := Nat.mul_le_mul hs (by omega)
  unfold xWriter_decimalNextTo dN
  rw [tn_eq (by omega), z_b1]
  have e : (2 : Int64) * jN s * jN (10 ^ b) + 256 - 1 = jN (2 * (s * 10 ^ b) + 255) := by
    rw [show (2 : Int64) * jN s = jN (2 * s) from jN_mul 2 s, jN_mul, show jN (2 * s * 10 ^ b) + 256 = jN (2 * s * 10 ^ b + 256) from jN_add _ 256, show (1 : Int64) = jN 1 from rfl, jN_sub (by omega), Nat.mul_assoc]; rfl
  rw [e]
  unfold jMath_floorDiv
  rw [kg_t (by decide), if_pos ((i64_xor_sign (by decide)).mpr (by rw [show (0 : Int64) = jN 0 from rfl, jN_le (by omega) (by omega)]; omega)), show (512 : Int64) = jN 512 from rfl, jN_div (by omega) (by omega), z_b1]
theorem dN_le {s u : Nat} (hs : s ≤ 1048576) (hu : u ≤ 1000) : dN s u < 2 ^ 23 := by
  have hsu : s * u ≤ 1048576 * 1000 := Nat.mul_le_mul hs hu
  unfold dN; omega
theorem ld_step {N n s b : Nat} {neg : Bool} {v : Int32} (hv : isV v neg s) (hb : b ≤ 2) : xWriter_leastDigitsBehind_L2 N (n + 1) v (jN s) (nI b) = if sat neg s (10 ^ b) (dN s (10 ^ b)) = true then some (nI b) else xWriter_leastDigitsBehind_L2 N n v (jN s) (nI (b + 1)) := by
  have hu := p10 (b := b) (by omega)
  obtain ⟨hs, hv⟩ := hv
  have hd := dN_le (s := s) (u := 10 ^ b) hs (by omega)
  have go : ∀ X, (nr X (jN (10 ^ b)) = Int32.toInt64 v ↔ sat neg s (10 ^ b) (dN s (10 ^ b)) = true) → ∀ s0, s0 * 256 = X → xWriter_leastDigitsBehind_b26 N (xWriter_leastDigitsBehind_L2 N n) v (jN s) (nI b) s0 = if sat neg s (10 ^ b) (dN s (10 ^ b)) = true then some (nI b) else xWriter_leastDigitsBehind_L2 N n v (jN s) (nI (b + 1)) := fun X hX s0 h0 => by
    unfold xWriter_leastDigitsBehind_b26
    rw [tn_eq (by omega), z_b1, h0, xP_nearest_eq (by rw [show (1 : Int64) = jN 1 from rfl, jN_le (by omega) (by omega)]; omega) (by rw [show 2 * jN (10 ^ b) = jN (2 * 10 ^ b) from jN_mul 2 _, show (0 : Int64) = jN 0 from rfl, jN_lt (by omega) (by omega)]; omega), z_b1, show nI b + 1 = nI (b + 1) from z_add b 1]
    by_cases h : sat neg s (10 ^ b) (dN s (10 ^ b)) = true
    · rw [if_pos (hX.mpr h), if_pos h]
    · rw [if_neg (fun e => h (hX.mp e)), if_neg h]
  show xWriter_leastDigitsBehind_B2 N (xWriter_leastDigitsBehind_L2 N n) v (jN s) (nI b) = _
  unfold xWriter_leastDigitsBehind_B2
  rw [if_neg (show ¬ (3 : Int32) ≤ nI b by rw [show (3 : Int32) = nI 3 from rfl, z_le (by omega) (by omega)]; omega), dn_eq hs (by omega), z_b1]
  rcases hv with ⟨rfl, e, h, _⟩ | ⟨rfl, e, h, _⟩
  · rw [if_pos h]
    exact go _ (by rw [e]; exact near_p hu (by omega) (by omega)) _ (Int64.mul_comm _ _)
  · rw [if_neg h]
    refine go _ (by rw [e]; exact near_n hu (by omega) (by omega)) _ ?_
    rw [Int64.neg_mul, Int64.mul_comm]
    exact (Int64.neg_mul 256 _).symm
theorem ld_eq {N s : Nat} {neg : Bool} {v : Int32} (hN : 200 ≤ N) (hv : isV v neg s) : xWriter_leastDigitsBehind N v (jN s) = some (nI (fb neg s)) := by
  obtain ⟨n, hn⟩ : ∃ n, N = n + 4 := ⟨N - 4, by omega⟩
  have : xWriter_leastDigitsBehind_L2 N (n + 4) v (jN s) (nI 0) = some (nI (fb neg s)) := by
    rw [ld_step (n := n + 3) hv (by omega), ld_step (n := n + 2) hv (by omega), ld_step (n := n + 1) hv (by omega)]
    unfold fb
    simp only [Nat.zero_add, Nat.reduceAdd, Nat.reducePow]
    by_cases h1 : sat neg s 1 (dN s 1) = true
    · rw [if_pos h1, if_pos h1]
    · rw [if_neg h1, if_neg h1]
      by_cases h2 : sat neg s 10 (dN s 10) = true
      · rw [if_pos h2, if_pos h2]
      · rw [if_neg h2, if_neg h2]
        by_cases h3 : sat neg s 100 (dN s 100) = true
        · rw [if_pos h3, if_pos h3]
        · rw [if_neg h3, if_neg h3]; rfl
  rw [← hn] at this
  exact this
/-- what is written, the same on both sides -/
def rW (n : Nat) (xs ys : Nat → Int32) : Prop := n ≤ 8250 ∧ ∀ k, k < n → xs k = ys k ∧ kc (ys k) = true
theorem rW_push {n : Nat} {xs ys : Nat → Int32} {v : Int32} (h : rW n xs ys) (hn : n < 8250) (h0 : 0 ≤ v.toInt) (h1 : v.toInt < 256) : rW (n + 1) (upd xs n v) (upd ys n v) := by
  refine ⟨by omega, fun k hk => ?_⟩
  by_cases e : k = n
  · subst e; rw [upd_at, upd_at]; exact ⟨rfl, ch_kcI h0 (by omega)⟩
  · rw [upd_ne e, upd_ne e]; exact h.2 k (by omega)
theorem say_ok {n : Nat} {ys : Nat → Int32} {v : Int32} (hn : n < 12000) : m_say v (nI n) ys = some (nI (n + 1), upd ys n v) := by
  unfold m_say
  rw [z_kg hn (by omega), z_clamp (by omega), show nI n + 1 = nI (n + 1) from z_add n 1]
theorem xp_ok {n : Nat} {xs : Nat → Int32} {v : Int32} (hn : n < 8250) (h0 : 0 ≤ v.toInt) (h1 : v.toInt < 256) : xRow_put 8250 v (nI n) xs = some (nI (n + 1), upd xs n v) := put_ok hn (by omega) h0 h1
def dg (a i : Nat) : Nat := 48 + a / 10 ^ i % 10
theorem dg_ok (a i : Nat) : 0 ≤ (nI (dg a i)).toInt ∧ (nI (dg a i)).toInt < 256 := by
  unfold dg; rw [nI_toInt (by omega)]; omega
theorem dg_eq {a i : Nat} (ha : a < 2 ^ 40) (hi : i ≤ 4) : Int64.toInt32 ((48 : Int64) + (jN a / jN (10 ^ i) - jN a / jN (10 ^ i) / 10 * 10)) = nI (dg a i) := by
  have hp : 10 ^ i ≤ 10000 := by
    have h : i = 0 ∨ i = 1 ∨ i = 2 ∨ i = 3 ∨ i = 4 := by omega
    rcases h with rfl | rfl | rfl | rfl | rfl <;> decide
  have hq : a / 10 ^ i ≤ a := Nat.div_le_self _ _
  rw [jN_div (by omega) (by omega)]
  unfold dg
  generalize a / 10 ^ i = q at *
  rw [show (10 : Int64) = jN 10 from rfl, jN_div (by omega) (by omega), jN_mul, jN_sub (by omega), show (48 : Int64) = jN 48 from rfl, jN_add, jN_down (by omega)]
  congr 1; omega
def pu (m : Nat) : Nat := 10 ^ m / 10
theorem pu_s (m : Nat) : pu (m + 1) = 10 ^ m := by unfold pu; rw [Nat.pow_succ]; omega
theorem w_dig {N a b : Nat} (ha : a < 2 ^ 40) (hb : b < 2 ^ 40) : ∀ m, m ≤ 4 → (∀ i, i < m → dg a i = dg b i) → ∀ f g n xs ys, m < f → m < g → rW n xs ys → n + m ≤ 8250 → ∃ xs' ys', xWriter_putDigits_L5 N 8250 f (jN a) (nI m - 1) (nI n) xs = some (nI (n + m), xs') ∧ m_sayDigits_L37 N g (jN b) (jN (pu m)) (nI n) ys = some (nI (n + m), ys') ∧ rW (n + m) xs' ys' := by
  intro m
  induction m with
  | zero =>
    intro hm hab f g n xs ys hf hg hW hn
    obtain ⟨f, rfl⟩ : ∃ f', f = f' + 1 := ⟨f - 1, by omega⟩
    obtain ⟨g, rfl⟩ : ∃ g', g = g' + 1 := ⟨g - 1, by omega⟩
    exact ⟨xs, ys, rfl, rfl, hW⟩
  | succ m ih =>
    intro hm hab f g n xs ys hf hg hW hn
    obtain ⟨f, rfl⟩ : ∃ f', f = f' + 1 := ⟨f - 1, by omega⟩
    obtain ⟨g, rfl⟩ : ∃ g', g = g' + 1 := ⟨g - 1, by omega⟩
    have hp : 0 < 10 ^ m ∧ 10 ^ m ≤ 1000 := by have := p10 (b := m) (by omega); omega
    obtain ⟨d0, d1⟩ := dg_ok b m
    obtain ⟨xs', ys', e1, e2, e3⟩ := ih (by omega) (fun i hi => hab i (by omega)) f g (n + 1) (upd xs n (nI (dg b m))) (upd ys n (nI (dg b m))) (by omega) (by omega) (rW_push hW (by omega) d0 d1) (by omega)
    refine ⟨xs', ys', ?_, ?_, ?_⟩
    · show xWriter_putDigits_B5 N 8250 (xWriter_putDigits_L5 N 8250 f) (jN a) (nI (m + 1) - 1) (nI n) xs = _
      unfold xWriter_putDigits_B5
      rw [show nI (m + 1) - 1 = nI m from z_sub (b := 1) (by omega), if_neg (i_n0 (by omega)), tn_eq (by omega), z_b1, kg_t (jN_nl (by omega) hp.1), dg_eq ha (by omega), hab m (by omega), xp_ok (by omega) d0 d1, z_b2, show nI m + -1 = nI m - 1 from (Int32.sub_eq_add_neg _ _).symm, e1, show n + 1 + m = n + (m + 1) by omega]
    · show m_sayDigits_B37 N (m_sayDigits_L37 N g) (jN b) (jN (pu (m + 1))) (nI n) ys = _
      unfold m_sayDigits_B37
      rw [pu_s, if_neg (by rw [show (0 : Int64) = jN 0 from rfl, jN_le (by omega) (by omega)]; omega), kg_t (jN_nl (by omega) hp.1), dg_eq hb (by omega), say_ok (by omega), z_b2, show jN (10 ^ m) / 10 = jN (pu m) from jN_div (b := 10) (by omega) (by omega), e2, show n + 1 + m = n + (m + 1) by omega]
    · rw [show n + (m + 1) = n + 1 + m by omega]; exact e3
theorem pw_step {N n w k : Nat} {l : Int32} {xs : Nat → Int32} (hw : w < 2 ^ 40) (hk : k ≤ 4) : xWriter_putWhole_L2 N 8250 (n + 1) (jN w) (nI k) l xs = if w < 10 ^ k then xWriter_putDigits N 8250 (jN w) (nI k) l xs else xWriter_putWhole_L2 N 8250 n (jN w) (nI (k + 1)) l xs := by
  have hp : 10 ^ k ≤ 10000 := by
    have h : k = 0 ∨ k = 1 ∨ k = 2 ∨ k = 3 ∨ k = 4 := by omega
    rcases h with rfl | rfl | rfl | rfl | rfl <;> decide
  have hb : ∀ o : Option (Int32 × (Nat → Int32)), (kb2 o fun a b => some (a, b)) = o := fun o => by cases o <;> rfl
  show xWriter_putWhole_B2 N 8250 (xWriter_putWhole_L2 N 8250 n) (jN w) (nI k) l xs = _
  unfold xWriter_putWhole_B2 xWriter_putWhole_b23
  rw [if_neg (show ¬ (9 : Int32) ≤ nI k by rw [show (9 : Int32) = nI 9 from rfl, z_le (by omega) (by omega)]; omega), tn_eq hk, z_b1, hb, show nI k + 1 = nI (k + 1) from z_add k 1]
  simp only [jN_lt (show w < 2 ^ 63 by omega) (show 10 ^ k < 2 ^ 63 by omega)]
theorem sd_step {N n v k least : Nat} {l : Int32} {ys : Nat → Int32} (hv : v < 2 ^ 40) (hk : k ≤ 4) (hl : least ≤ 3) : m_sayDigits_L6 N (n + 1) (jN v) (nI least) (jN (10 ^ k)) (nI (k + 1)) l ys = if v / 10 ^ k ≤ 9 ∧ least ≤ k + 1 then m_sayDigits_L37 N N (jN v) (jN (10 ^ k)) l ys else m_sayDigits_L6 N n (jN v) (nI least) (jN (10 ^ (k + 1))) (nI (k + 2)) l ys := by
  have hp : 0 < 10 ^ k ∧ 10 ^ k ≤ 10000 := by
    have h : k = 0 ∨ k = 1 ∨ k = 2 ∨ k = 3 ∨ k = 4 := by omega
    rcases h with rfl | rfl | rfl | rfl | rfl <;> decide
  have hq : v / 10 ^ k ≤ v := Nat.div_le_self _ _
  show m_sayDigits_B6 N (m_sayDigits_L6 N n) (jN v) (nI least) (jN (10 ^ k)) (nI (k + 1)) l ys = _
  unfold m_sayDigits_B6 m_sayDigits_b23
  rw [kg_t (jN_nl (by omega) hp.1), jN_div (by omega) (by omega), show jN (10 ^ k) * 10 = jN (10 ^ (k + 1)) from jN_mul _ 10, show nI (k + 1) + 1 = nI (k + 2) from z_add _ 1]
  simp only [show (9 : Int64) = jN 9 from rfl, jN_lt (show 9 < 2 ^ 63 by omega) (show v / 10 ^ k < 2 ^ 63 by omega), z_le (show least < 2 ^ 31 by omega) (show k + 1 < 2 ^ 31 by omega)]
  by_cases h : 9 < v / 10 ^ k
  · rw [if_pos h, if_neg (by omega)]
  · rw [if_neg h]
    by_cases h' : least ≤ k + 1
    · rw [if_pos h', if_pos (by omega)]
    · rw [if_neg h', if_neg (by omega)]
theorem w_whole {N w n : Nat} {xs ys : Nat → Int32} (hN : 200 ≤ N) (hw : w < 10000) (hW : rW n xs ys) (hn : n + 4 ≤ 8250) : ∃ n' xs' ys', xWriter_putWhole N 8250 (jN w) (nI n) xs = some (nI n', xs') ∧ m_sayDigits N (jN w) 0 (nI n) ys = some (nI n', ys') ∧ rW n' xs' ys' ∧ n' ≤ n + 4 := by
  have go : ∀ m, 1 ≤ m → m ≤ 4 → (xWriter_putWhole N 8250 (jN w) (nI n) xs = xWriter_putDigits N 8250 (jN w) (nI m) (nI n) xs) → m_sayDigits N (jN w) 0 (nI n) ys = m_sayDigits_L37 N N (jN w) (jN (10 ^ (m - 1))) (nI n) ys → ∃ n' xs' ys', xWriter_putWhole N 8250 (jN w) (nI n) xs = some (nI n', xs') ∧ m_sayDigits N (jN w) 0 (nI n) ys = some (nI n', ys') ∧ rW n' xs' ys' ∧ n' ≤ n + 4 := fun m h1 h4 e1 e2 => by
    obtain ⟨xs', ys', a, b, c⟩ := w_dig (N := N) (a := w) (b := w) (by omega) (by omega) m h4 (fun _ _ => rfl) N N n xs ys (by omega) (by omega) hW (by omega)
    have e3 : pu m = 10 ^ (m - 1) := by have := pu_s (m - 1); rw [show m - 1 + 1 = m by omega] at this; exact this
    rw [e3] at b
    exact ⟨n + m, xs', ys', e1.trans a, e2.trans b, c, by omega⟩
  obtain ⟨f, hf⟩ : ∃ f, N = f + 4 := ⟨N - 4, by omega⟩
  have px : xWriter_putWhole N 8250 (jN w) (nI n) xs = xWriter_putWhole_L2 N 8250 (f + 4) (jN w) (nI 1) (nI n) xs := by rw [← hf]; rfl
  have py : m_sayDigits N (jN w) 0 (nI n) ys = m_sayDigits_L6 N (f + 4) (jN w) (nI 0) (jN (10 ^ 0)) (nI (0 + 1)) (nI n) ys := by rw [← hf]; rfl
  have sx : ∀ f k, k ≤ 4 → _ := fun f k hk => pw_step (N := N) (n := f) (w := w) (k := k) (l := nI n) (xs := xs) (by omega) hk
  have sy : ∀ f k, k ≤ 4 → _ := fun f k hk => sd_step (N := N) (n := f) (v := w) (k := k) (least := 0) (l := nI n) (ys := ys) (by omega) hk (by omega)
  by_cases h1 : w < 10
  · refine go 1 (by omega) (by omega) ?_ ?_
    · rw [px, sx (f + 3) 1 (by omega), if_pos (by omega)]
    · rw [py, sy (f + 3) 0 (by omega), if_pos (by omega)]
  by_cases h2 : w < 100
  · refine go 2 (by omega) (by omega) ?_ ?_
    · rw [px, sx (f + 3) 1 (by omega), if_neg (by omega), sx (f + 2) 2 (by omega), if_pos (by omega)]
    · rw [py, sy (f + 3) 0 (by omega), if_neg (by omega), sy (f + 2) 1 (by omega), if_pos (by omega)]
  by_cases h3 : w < 1000
  · refine go 3 (by omega) (by omega) ?_ ?_
    · rw [px, sx (f + 3) 1 (by omega), if_neg (by omega), sx (f + 2) 2 (by omega), if_neg (by omega), sx (f + 1) 3 (by omega), if_pos (by omega)]
    · rw [py, sy (f + 3) 0 (by omega), if_neg (by omega), sy (f + 2) 1 (by omega), if_neg (by omega), sy (f + 1) 2 (by omega), if_pos (by omega)]
  · refine go 4 (by omega) (by omega) ?_ ?_
    · rw [px, sx (f + 3) 1 (by omega), if_neg (by omega), sx (f + 2) 2 (by omega), if_neg (by omega), sx (f + 1) 3 (by omega), if_neg (by omega), sx f 4 (by omega), if_pos (by omega)]
    · rw [py, sy (f + 3) 0 (by omega), if_neg (by omega), sy (f + 2) 1 (by omega), if_neg (by omega), sy (f + 1) 2 (by omega), if_neg (by omega), sy f 3 (by omega), if_pos (by omega)]
theorem w_frac {N D b n : Nat} {xs ys : Nat → Int32} (hN : 200 ≤ N) (hD : D < 2 ^ 23) (hb0 : 1 ≤ b) (hb : b ≤ 3) (hW : rW n xs ys) (hn : n + 3 ≤ 8250) : ∃ xs' ys', xWriter_putDigits N 8250 (jN D) (nI b) (nI n) xs = some (nI (n + b), xs') ∧ m_sayDigits N (jN D - jN D / jN (10 ^ b) * jN (10 ^ b)) (nI b) (nI n) ys = some (nI (n + b), ys') ∧ rW (n + b) xs' ys' := by
  have hp := p10 hb
  have ev : jN D - jN D / jN (10 ^ b) * jN (10 ^ b) = jN (D % 10 ^ b) := by
    have e0 : D / 10 ^ b * 10 ^ b ≤ D := Nat.div_mul_le_self _ _
    have e1 := Nat.div_add_mod D (10 ^ b)
    have e2 : 10 ^ b * (D / 10 ^ b) = D / 10 ^ b * 10 ^ b := Nat.mul_comm _ _
    rw [jN_div (by omega) (by omega), jN_mul, jN_sub e0]; congr 1; omega
  have hm : D % 10 ^ b < 10 ^ b := Nat.mod_lt _ (by omega)
  obtain ⟨xs', ys', a1, a2, a3⟩ := w_dig (N := N) (a := D) (b := D % 10 ^ b) (by omega) (by omega) b (by omega) (fun i hi => by
    unfold dg
    have h : (b = 1 ∧ i = 0) ∨ (b = 2 ∧ i = 0) ∨ (b = 2 ∧ i = 1) ∨ (b = 3 ∧ i = 0) ∨ (b = 3 ∧ i = 1) ∨ (b = 3 ∧ i = 2) := by omega
    rcases h with ⟨rfl, rfl⟩ | ⟨rfl, rfl⟩ | ⟨rfl, rfl⟩ | ⟨rfl, rfl⟩ | ⟨rfl, rfl⟩ | ⟨rfl, rfl⟩ <;> simp only [Nat.reducePow] <;> omega) N N n xs ys (by omega) (by omega) hW (by omega)
  refine ⟨xs', ys', a1, ?_, a3⟩
  rw [ev, ← a2]
  obtain ⟨f, hf⟩ : ∃ f, N = f + 4 := ⟨N - 4, by omega⟩
  have py : m_sayDigits N (jN (D % 10 ^ b)) (nI b) (nI n) ys = m_sayDigits_L6 N (f + 4) (jN (D % 10 ^ b)) (nI b) (jN (10 ^ 0)) (nI (0 + 1)) (nI n) ys := by rw [← hf]; rfl
  have sy : ∀ f k, k ≤ 4 → _ := fun f k hk => sd_step (N := N) (n := f) (v := D % 10 ^ b) (k := k) (least := b) (l := nI n) (ys := ys) (by omega) hk hb
  have h : b = 1 ∨ b = 2 ∨ b = 3 := by omega
  rw [py]
  rcases h with rfl | rfl | rfl
  · rw [sy (f + 3) 0 (by omega), if_pos (by omega)]; rfl
  · rw [sy (f + 3) 0 (by omega), if_neg (by omega), sy (f + 2) 1 (by omega), if_pos (by omega)]; rfl
  · rw [sy (f + 3) 0 (by omega), if_neg (by omega), sy (f + 2) 1 (by omega), if_neg (by omega), sy (f + 1) 2 (by omega), if_pos (by omega)]; rfl
/-- a numeral: from the point on, from the whole part on, from the sign on, from the blank on -/
theorem w104 {N D b n : Nat} {xs ys : Nat → Int32} (hN : 200 ≤ N) (hD : D < 2 ^ 23) (hb : b ≤ 3) (hW : rW n xs ys) (hn : n + 4 ≤ 8250) : ∃ r n' xs' ys', xWriter_writeNumeral_b104 N 8250 (nI b) (jN D) (nI n) xs = some (r, nI n', xs') ∧ m_sayNumeral_b109 N (jN (10 ^ b)) (nI n) (nI b) (jN D) ys = some (r, nI n', nI b, jN D, ys') ∧ rW n' xs' ys' ∧ n' ≤ n + 4 := by
  unfold xWriter_writeNumeral_b104 m_sayNumeral_b109 xWriter_writeNumeral_b123 m_sayNumeral_b137
  by_cases h : b = 0
  · subst h
    exact ⟨0, n, xs, ys, rfl, rfl, hW, by omega⟩
  · have h0 : ¬ nI b ≤ 0 := by rw [show (0 : Int32) = nI 0 from rfl, z_le (by omega) (by omega)]; omega
    obtain ⟨xs', ys', a1, a2, a3⟩ := w_frac (n := n + 1) hN hD (by omega) hb (rW_push (v := 46) hW (by omega) (by decide) (by decide)) (by omega)
    refine ⟨1, n + 1 + b, xs', ys', ?_, ?_, a3, by omega⟩
    · rw [if_neg h0, xp_ok (by omega) (by decide) (by decide), z_b2, a1, z_b2, if_neg h0]
    · rw [if_neg h0, say_ok (by omega), z_b2, kg_t (jN_nl (by have := p10 hb; omega) (by have := p10 hb; omega)), a2, z_b2, if_neg h0]
theorem w93 {N D a b n : Nat} {x : Int32} {xs ys : Nat → Int32} (hN : 200 ≤ N) (hD : D < 2 ^ 23) (ha : a < 10000) (hb : b ≤ 3) (hW : rW n xs ys) (hn : n + 8 ≤ 8250) : ∃ r n' xs' ys', xWriter_writeNumeral_b93 N 8250 (nI b) (jN D) (jN a) x (nI n) xs = some (r, nI n', xs') ∧ m_sayNumeral_b97 N (jN (10 ^ b)) (jN a) x (nI n) (nI b) (jN D) ys = some (r, nI n', nI b, jN D, ys') ∧ rW n' xs' ys' ∧ n' ≤ n + 8 := by
  unfold xWriter_writeNumeral_b93 m_sayNumeral_b97
  by_cases h : x = 0
  · obtain ⟨n1, xs1, ys1, a1, a2, a3, a4⟩ := w_whole hN ha hW (by omega)
    obtain ⟨r, n', xs', ys', c1, c2, c3, c4⟩ := w104 hN hD hb a3 (by omega)
    refine ⟨r, n', xs', ys', ?_, ?_, c3, by omega⟩
    · rw [if_pos h, a1, z_b2, c1]
    · rw [if_pos h, a2, z_b2, c2]
  · obtain ⟨r, n', xs', ys', c1, c2, c3, c4⟩ := w104 hN hD hb hW (by omega)
    refine ⟨r, n', xs', ys', ?_, ?_, c3, by omega⟩
    · rw [if_neg h, c1]
    · rw [if_neg h, c2]
theorem w83 {N D a b n : Nat} {x v : Int32} {xs ys : Nat → Int32} (hN : 200 ≤ N) (hD : D < 2 ^ 23) (ha : a < 10000) (hb : b ≤ 3) (hW : rW n xs ys) (hn : n + 8 + (if (0 : Int32) ≤ v then 0 else 1) ≤ 8250) : ∃ r n' xs' ys', xWriter_writeNumeral_b83 N 8250 v (nI b) (jN D) (jN a) x (nI n) xs = some (r, nI n', xs') ∧ m_sayNumeral_b87 N v (jN (10 ^ b)) (jN a) x (nI n) (nI b) (jN D) ys = some (r, nI n', nI b, jN D, ys') ∧ rW n' xs' ys' ∧ n' ≤ n + 8 + (if (0 : Int32) ≤ v then 0 else 1) := by
  unfold xWriter_writeNumeral_b83 m_sayNumeral_b87
  by_cases h : (0 : Int32) ≤ v
  · rw [if_pos h] at hn
    simp only [if_pos h]
    exact w93 hN hD ha hb hW hn
  · rw [if_neg h] at hn
    simp only [if_neg h]
    obtain ⟨r, n', xs', ys', c1, c2, c3, c4⟩ := w93 (n := n + 1) (x := x) hN hD ha hb (rW_push (v := 45) hW (by omega) (by decide) (by decide)) (by omega)
    refine ⟨r, n', xs', ys', ?_, ?_, c3, by omega⟩
    · rw [xp_ok (by omega) (by decide) (by decide), z_b2, c1]
    · rw [say_ok (by omega), z_b2, c2]
theorem w58 {N D a b n : Nat} {s0 x1 x2 v : Int32} {xs ys : Nat → Int32} (hN : 200 ≤ N) (hD : D < 2 ^ 23) (ha : a < 10000) (hb : b ≤ 3) (hW : rW n xs ys) (hn : n + 9 ≤ 8250) (hv : v < 0 ↔ ¬ (0 : Int32) ≤ v) : ∃ r n' xs' ys', xWriter_writeNumeral_b58 N 8250 v x1 x2 (nI b) (jN D) (jN a) s0 (nI n) xs = some (r, nI n', xs') ∧ m_sayNumeral_b62 N v x1 x2 (jN (10 ^ b)) (jN a) s0 (nI n) (nI b) (jN D) ys = some (r, nI n', nI b, jN D, ys') ∧ rW n' xs' ys' ∧ n' ≤ n + 9 := by
  have A : ∃ r n' xs' ys', xWriter_writeNumeral_b83 N 8250 v (nI b) (jN D) (jN a) s0 (nI n) xs = some (r, nI n', xs') ∧ m_sayNumeral_b87 N v (jN (10 ^ b)) (jN a) s0 (nI n) (nI b) (jN D) ys = some (r, nI n', nI b, jN D, ys') ∧ rW n' xs' ys' ∧ n' ≤ n + 9 := by
    obtain ⟨r, n', xs', ys', c1, c2, c3, c4⟩ := w83 (n := n) (x := s0) (v := v) hN hD ha hb hW (by split <;> omega)
    exact ⟨r, n', xs', ys', c1, c2, c3, by revert c4; split <;> omega⟩
  have B : ¬ v < 0 → ∃ r n' xs' ys', xWriter_writeNumeral_b77 N 8250 v (nI b) (jN D) (jN a) s0 (nI n) xs = some (r, nI n', xs') ∧ m_sayNumeral_b81 N v (jN (10 ^ b)) (jN a) s0 (nI n) (nI b) (jN D) ys = some (r, nI n', nI b, jN D, ys') ∧ rW n' xs' ys' ∧ n' ≤ n + 9 := fun h => by
    have h1 : (0 : Int32) ≤ v := Classical.not_not.mp (fun q => h (hv.mpr q))
    obtain ⟨r, n', xs', ys', c1, c2, c3, c4⟩ := w83 (n := n + 1) (x := s0) (v := v) hN hD ha hb (rW_push (v := 32) hW (by omega) (by decide) (by decide)) (by rw [if_pos h1]; omega)
    rw [if_pos h1] at c4
    refine ⟨r, n', xs', ys', ?_, ?_, c3, by omega⟩
    · unfold xWriter_writeNumeral_b77; rw [xp_ok (by omega) (by decide) (by decide), z_b2, c1]
    · unfold m_sayNumeral_b81; rw [say_ok (by omega), z_b2, c2]
  unfold xWriter_writeNumeral_b58 m_sayNumeral_b62
  by_cases h1 : x1 = 0
  · simp only [if_pos h1]
    by_cases h2 : v < 0
    · simp only [if_pos h2]; exact A
    · simp only [if_neg h2]
      by_cases h3 : s0 = 0
      · simp only [if_pos h3]; exact B h2
      · simp only [if_neg h3]
        by_cases h4 : x2 = 0
        · simp only [if_pos h4]; exact B h2
        · simp only [if_neg h4]; exact A
  · simp only [if_neg h1]; exact A
theorem sn_L {N b D : Nat} {v x1 x2 l : Int32} {ys : Nat → Int32} (hb : b ≤ 3) : ∀ n j, j ≤ b → b < n + j → m_sayNumeral_L11 N n v x1 x2 (jN (10 ^ j)) (nI j) l (nI b) (jN D) ys = m_sayNumeral_B11 N (m_sayNumeral_L11 N 0) v x1 x2 (jN (10 ^ b)) (nI b) l (nI b) (jN D) ys := by
  have hbb : nI b ≤ nI b := by rw [z_le (by omega) (by omega)]; omega
  intro n
  induction n with
  | zero => intro j h1 h2; omega
  | succ n ih =>
    intro j h1 h2
    by_cases h : j = b
    · subst h
      show m_sayNumeral_B11 N (m_sayNumeral_L11 N n) v x1 x2 (jN (10 ^ j)) (nI j) l (nI j) (jN D) ys = _
      unfold m_sayNumeral_B11
      rw [if_pos hbb, if_pos hbb]
    · rw [← ih (j + 1) (by omega) (by omega)]
      show m_sayNumeral_B11 N (m_sayNumeral_L11 N n) v x1 x2 (jN (10 ^ j)) (nI j) l (nI b) (jN D) ys = _
      unfold m_sayNumeral_B11
      rw [if_neg (by rw [z_le (by omega) (by omega)]; omega), show jN (10 ^ j) * 10 = jN (10 ^ (j + 1)) from jN_mul _ 10, show nI j + 1 = nI (j + 1) from z_add j 1]
theorem w_num {N n : Nat} {v x1 x2 : Int32} {xs ys : Nat → Int32} {w : Int64} (hN : 200 ≤ N) (hv : ok32 v) (hW : rW n xs ys) (hn : n + 9 ≤ 8250) : ∃ r n' xs' ys' bh wh, xWriter_writeNumeral N 8250 v x1 x2 (nI n) xs = some (r, nI n', xs') ∧ m_sayNumeral N v x1 x2 (nI n) w ys = some (r, nI n', bh, wh, ys') ∧ rW n' xs' ys' ∧ n' ≤ n + 9 := by
  obtain ⟨neg, s, hV⟩ := isV_of hv
  have hb := fb_le neg s
  have e1 := ld_eq hN hV
  have e2 := e_find (w := w) hN hV
  generalize fb neg s = b at *
  have hp := p10 hb
  have hs := hV.1
  have hD := dN_le (s := s) (u := 10 ^ b) hs (by omega)
  have ed := dn_eq hs hb
  have ha : dN s (10 ^ b) / 10 ^ b < 10000 := by
    unfold dN
    rcases hp with h | h | h | h <;> rw [h] <;> omega
  generalize dN s (10 ^ b) = D at *
  have hvv : v < 0 ↔ ¬ (0 : Int32) ≤ v := by rw [i_lt, i_le]; exact ⟨fun h => Int.not_le.mpr h, fun h => Int.not_le.mp h⟩
  have ew : xWriter_writeNumeral N 8250 v x1 x2 (nI n) xs = xWriter_writeNumeral_b12 N 8250 v x1 x2 (jN s) (nI n) xs := by
    unfold xWriter_writeNumeral
    rcases hV.2 with ⟨_, e, h, _⟩ | ⟨_, e, h, _⟩
    · rw [if_pos h, e]
    · rw [if_neg h, e, Int64.neg_neg]
  have ey : m_sayNumeral N v x1 x2 (nI n) w ys = m_sayNumeral_B11 N (m_sayNumeral_L11 N 0) v x1 x2 (jN (10 ^ b)) (nI b) (nI n) (nI b) (jN D) ys := by
    unfold m_sayNumeral
    rw [e2, z_b2]
    exact sn_L hb N 0 (by omega) (by omega)
  rw [ew, ey]
  unfold xWriter_writeNumeral_b12 m_sayNumeral_B11 xWriter_writeNumeral_b57 m_sayNumeral_b61
  rw [e1, z_b1, ed, z_b1, tn_eq (by omega), z_b1, kg_t (jN_nl (by omega) (by omega)), if_pos (show nI b ≤ nI b by rw [z_le (by omega) (by omega)]; omega), kg_t (jN_nl (by omega) (by omega)), jN_div (by omega) (by omega)]
  have A : ∀ s0, ∃ r n' xs' ys' bh wh, xWriter_writeNumeral_b58 N 8250 v x1 x2 (nI b) (jN D) (jN (D / 10 ^ b)) s0 (nI n) xs = some (r, nI n', xs') ∧ m_sayNumeral_b62 N v x1 x2 (jN (10 ^ b)) (jN (D / 10 ^ b)) s0 (nI n) (nI b) (jN D) ys = some (r, nI n', bh, wh, ys') ∧ rW n' xs' ys' ∧ n' ≤ n + 9 := fun s0 => by
    obtain ⟨r, n', xs', ys', c1, c2, c3, c4⟩ := w58 (n := n) (s0 := s0) (x1 := x1) (x2 := x2) (v := v) hN hD ha hb hW hn hvv
    exact ⟨r, n', xs', ys', _, _, c1, c2, c3, c4⟩
  by_cases h0 : nI b ≤ 0
  · simp only [if_pos h0, ite_self]; exact A 0
  · simp only [if_neg h0]
    by_cases h1 : jN (D / 10 ^ b) = 0
    · simp only [if_pos h1]; exact A 1
    · simp only [if_neg h1]; exact A 0
theorem w_in {N cn kk : Nat} {xk xn yk yn : Nat → Int32} {k7 : Int32 → Int32 → (Nat → Int32) → (Nat → Int32) → Int32 → (Nat → Int32) → Option (Int32 × (Nat → Int32))} {k12 : Int32 → Int32 → Int32 → Int32 → Int32 → Int64 → (Nat → Int32) → (Nat → Int32) → (Nat → Int32) → Option (Int32 × Int32 × Int32 × Int32 × Int64 × (Nat → Int32))} {fa : Int32} (hN : 200 ≤ N) (hD : rD cn xk xn yk yn) (hk : kk < cn) :
    ∀ f i, i ≤ nd (yk kk) → nd (yk kk) < f + i → ∀ n xs ys po bh wh, rW n xs ys → n + 9 * (nd (yk kk) - i) ≤ 8250 → ∃ n' xs' ys' bh' wh', rW n' xs' ys' ∧ n' ≤ n + 9 * (nd (yk kk) - i) ∧ xWriter_writeDrawing_L40 N 8250 k7 f (nI kk) po (nI i) (nI cn) xk xn (nI n) xs = k7 (nI (kk + 1)) (nI cn) xk xn (nI n') xs' ∧ m_write_L74 N k12 f (nI kk) po (nI i) fa (nI cn) (nI n) bh wh yk ys yn = k12 (nI (kk + 1)) fa (nI cn) (nI n') bh' wh' yk ys' yn := by
  obtain ⟨hc, hD⟩ := hD
  obtain ⟨h1, h2, h3⟩ := hD kk hk
  have h6 := nd_le (yk kk)
  intro f
  induction f with
  | zero => intro i a b; omega
  | succ f ih =>
    intro i hi hf n xs ys po bh wh hW hn
    show ∃ n' xs' ys' bh' wh', _ ∧ _ ∧ xWriter_writeDrawing_B40 N 8250 k7 (xWriter_writeDrawing_L40 N 8250 k7 f) (nI kk) po (nI i) (nI cn) xk xn (nI n) xs = _ ∧ m_write_B74 N k12 (m_write_L74 N k12 f) (nI kk) po (nI i) fa (nI cn) (nI n) bh wh yk ys yn = _
    unfold xWriter_writeDrawing_B40 m_write_B74
    rw [z_kg (by omega) (by omega), z_clamp (by omega), h2, nd_x h1, z_b1, z_kg (by omega) (by omega), nd_m, z_b1, show nI kk + 1 = nI (kk + 1) from z_add kk 1, show nI kk * 6 = nI (kk * 6) from z_mul kk 6, z_add, show (6 : Int32) * nI kk = nI (6 * kk) from z_mul 6 kk, z_add]
    by_cases h : nd (yk kk) ≤ i
    · rw [if_pos (by rw [z_le (by omega) (by omega)]; exact h), if_pos (by rw [z_le (by omega) (by omega)]; exact h)]
      exact ⟨n, xs, ys, bh, wh, hW, by omega, rfl, rfl⟩
    · have hle : ¬ nI (nd (yk kk)) ≤ nI i := by rw [z_le (by omega) (by omega)]; exact h
      simp only [if_neg hle]
      rw [z_kg (by omega) (by omega), z_kg (by omega) (by omega), z_clamp (by omega), z_clamp (by omega), show kk * 6 + i = 6 * kk + i by omega, (h3 i (by omega)).1]
      have go : ∀ x1, ∃ n' xs' ys' bh' wh', rW n' xs' ys' ∧ n' ≤ n + 9 * (nd (yk kk) - i) ∧ xWriter_writeDrawing_b76 N 8250 k7 (xWriter_writeDrawing_L40 N 8250 k7 f) (nI kk) po (nI i) (yn (6 * kk + i)) x1 (nI cn) xk xn (nI n) xs = k7 (nI (kk + 1)) (nI cn) xk xn (nI n') xs' ∧ m_write_b108 N k12 (m_write_L74 N k12 f) (nI kk) po (nI i) (yn (6 * kk + i)) x1 fa (nI cn) (nI n) wh yk ys yn = k12 (nI (kk + 1)) fa (nI cn) (nI n') bh' wh' yk ys' yn := fun x1 => by
        obtain ⟨r, n1, xs1, ys1, bh1, wh1, c1, c2, c3, c4⟩ := w_num (n := n) (x1 := x1) (x2 := po) (w := wh) hN (h3 i (by omega)).2 hW (by omega)
        obtain ⟨n', xs', ys', bh', wh', d1, d2, d3, d4⟩ := ih (i + 1) (by omega) (by omega) n1 xs1 ys1 r bh1 wh1 c3 (by omega)
        refine ⟨n', xs', ys', bh', wh', d1, by omega, ?_, ?_⟩
        · unfold xWriter_writeDrawing_b76
          rw [c1]
          show xWriter_writeDrawing_L40 N 8250 k7 f (nI kk) r (nI i + 1) (nI cn) xk xn (nI n1) xs1 = _
          rw [show nI i + 1 = nI (i + 1) from z_add i 1, d3]
        · unfold m_write_b108
          rw [c2, z_b5, show nI i + 1 = nI (i + 1) from z_add i 1, d4]
      by_cases h9 : nI i = 0
      · simp only [if_pos h9]; exact go 1
      · simp only [if_neg h9]; exact go 0
theorem w_out {N cn : Nat} {xk xn yk yn : Nat → Int32} {fa : Int32} (hN : 200 ≤ N) (hD : rD cn xk xn yk yn) : ∀ f d, d ≤ cn → d < f → ∀ n xs ys bh wh, rW n xs ys → n ≤ 55 * (cn - d) → ∃ n' xs' ys' bh' wh', rW n' xs' ys' ∧ xWriter_writeDrawing_L7 N 8250 f (nI (cn - d)) (nI cn) xk xn (nI n) xs = some (nI n', xs') ∧ m_write_L12 N f (nI (cn - d)) fa (nI cn) (nI n) bh wh yk ys yn = some (nI n', fa, nI n', bh', wh', ys') := by
  have hc := hD.1
  intro f
  induction f with
  | zero => intro d a b; omega
  | succ f ih =>
    intro d hd hf n xs ys bh wh hW hn
    show ∃ n' xs' ys' bh' wh', _ ∧ xWriter_writeDrawing_B7 N 8250 (xWriter_writeDrawing_L7 N 8250 f) (nI (cn - d)) (nI cn) xk xn (nI n) xs = _ ∧ m_write_B12 N (m_write_L12 N f) (nI (cn - d)) fa (nI cn) (nI n) bh wh yk ys yn = _
    unfold xWriter_writeDrawing_B7 m_write_B12
    by_cases h : d = 0
    · subst h
      have h9 : nI cn ≤ nI (cn - 0) := by rw [z_le (by omega) (by omega)]; omega
      refine ⟨n, xs, ys, bh, wh, hW, ?_, ?_⟩
      · rw [if_pos h9, ite_self]
      · rw [if_pos h9]
    · obtain ⟨k1, k2, k3⟩ := hD.2 (cn - d) (by omega)
      have h6 := nd_le (yk (cn - d))
      have hk : cn - d < cn := by omega
      have e1 : cn - d + 1 = cn - (d - 1) := by omega
      rw [if_neg (show ¬ (150 : Int32) ≤ nI (cn - d) by rw [show (150 : Int32) = nI 150 from rfl, z_le (by omega) (by omega)]; omega), if_neg (show ¬ nI cn ≤ nI (cn - d) by rw [z_le (by omega) (by omega)]; omega), if_neg (show ¬ nI cn ≤ nI (cn - d) by rw [z_le (by omega) (by omega)]; omega)]
      simp (disch := omega) only [z_kg, z_clamp, k2]
      have go : ∀ c : Int32, 0 ≤ c.toInt → c.toInt < 256 → ∃ n' xs' ys' bh' wh', rW n' xs' ys' ∧ (kb1 (some c) fun r29 => kb2 (xRow_put 8250 r29 (nI n) xs) fun v_p2_length_32 c_p2_characters_32 => xWriter_writeDrawing_L40 N 8250 (xWriter_writeDrawing_L7 N 8250 f) N (nI (cn - d)) (0 : Int32) (0 : Int32) (nI cn) xk xn v_p2_length_32 c_p2_characters_32) = some (nI n', xs') ∧ m_write_b67 N (m_write_L12 N f) (nI (cn - d)) c fa (nI cn) (nI n) bh wh yk ys yn = some (nI n', fa, nI n', bh', wh', ys') := fun c c0 c1 => by
        obtain ⟨n1, xs1, ys1, bh1, wh1, a1, a2, a3, a4⟩ := w_in (N := N) (k7 := xWriter_writeDrawing_L7 N 8250 f) (k12 := m_write_L12 N f) (fa := fa) hN hD hk N 0 (by omega) (by omega) (n + 1) (upd xs n c) (upd ys n c) 0 bh wh (rW_push hW (by omega) c0 c1) (by omega)
        rw [e1] at a3 a4
        obtain ⟨n', xs', ys', bh', wh', b1, b2, b3⟩ := ih (d - 1) (by omega) (by omega) n1 xs1 ys1 bh1 wh1 a1 (by omega)
        refine ⟨n', xs', ys', bh', wh', b1, ?_, ?_⟩
        · rw [z_b1, xp_ok (by omega) c0 c1, z_b2]
          exact a3.trans b2
        · unfold m_write_b67
          rw [say_ok (by omega), z_b2]
          exact a4.trans b3
      rcases k1 with q | q | q | q
      · simp only [q]; exact go 77 (by decide) (by decide)
      · simp only [q]; exact go 76 (by decide) (by decide)
      · simp only [q]; exact go 67 (by decide) (by decide)
      · simp only [q]; exact go 90 (by decide) (by decide)
theorem e_write {N cn : Nat} {xk xn yk yn xs ys : Nat → Int32} {bh : Int32} {wh : Int64} (hN : 200 ≤ N) (hD : rD cn xk xn yk yn) : ∃ r n' xs' ys' bh' wh', xP_write N (nI cn) xk xn xs = some (r, nI n', xs') ∧ m_write N (nI cn) bh wh yk ys yn = some (r, 0, nI n', bh', wh', ys') ∧ rW n' xs' ys' := by
  have hc := hD.1
  obtain ⟨n', xs', ys', bh', wh', a, b, c⟩ := w_out (N := N) (fa := 0) hN hD N cn (by omega) (by omega) 0 xs ys bh wh ⟨by omega, fun k hk => by omega⟩ (by omega)
  rw [Nat.sub_self] at b c
  refine ⟨nI n', n', xs', ys', bh', wh', ?_, c, a⟩
  unfold xP_write xWriter_writeDrawing
  rw [show xWriter_writeDrawing_L7 N 8250 N 0 (nI cn) xk xn 0 xs = _ from b]
  rfl
