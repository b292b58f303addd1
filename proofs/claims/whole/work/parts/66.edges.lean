/-! The division of both sides. -/
def nr (a b : Int64) : Int64 :=
  if (0 : Int64) ≤ 2 * a + b then (2 * a + b) / (2 * b)
  else if ((2 * a + b) / (2 * b)) * (2 * b) = 2 * a + b then (2 * a + b) / (2 * b) else (2 * a + b) / (2 * b) - 1
theorem i64_nonneg (x : Int64) : (0 ≤ x) ↔ x.toBitVec.msb = false := by
  rw [Int64.le_iff_toInt_le, BitVec.msb_eq_toInt]
  show (0 : Int) ≤ x.toInt ↔ _
  rw [decide_eq_false_iff_not]
  show _ ↔ ¬ x.toInt < 0
  omega
theorem i64_xor_sign {x y : Int64} (hy : 0 ≤ y) : (0 ≤ x ^^^ y) ↔ 0 ≤ x := by
  rw [i64_nonneg] at hy
  rw [i64_nonneg, i64_nonneg, Int64.toBitVec_xor, BitVec.msb_xor, hy, Bool.xor_false]
theorem m_nearest_eq {a b : Int64} (hb : ¬ 2 * b = 0) : m_nearest a b = some (nr a b) := by
  unfold m_nearest nr
  rw [kg_t (by unfold knl; exact decide_eq_true hb)]
  split
  · rfl
  · rw [Int64.mul_assoc]
    split
    · rfl
    · rfl
theorem xP_nearest_eq {a b : Int64} (h1 : 1 ≤ b) (h2 : 0 < 2 * b) : xP_nearest a b = some (nr a b) := by
  have hb : ¬ 2 * b = 0 := fun h => by rw [h] at h2; exact absurd h2 (by decide)
  have h0 : 0 ≤ 2 * b := Int64.le_of_lt h2
  unfold xP_nearest nr
  rw [if_pos h1]
  unfold jMath_floorDiv
  rw [kg_t (by unfold knl; exact decide_eq_true hb)]
  by_cases h : 0 ≤ 2 * a + b
  · rw [if_pos ((i64_xor_sign h0).mpr h), if_pos h]
    rfl
  · rw [if_neg (fun z => h ((i64_xor_sign h0).mp z)), if_neg h]
    split
    · rfl
    · rfl
/-! L3: the edges of a drawing. -/
abbrev Ed : Type := Int64 × Int64 × Int64 × Int64
def betw (a b c d k : Int64) : Int64 := nr ((((((a * (16 - k)) * (16 - k)) * (16 - k)) + ((((3 * b) * (16 - k)) * (16 - k)) * k)) + ((((3 * c) * (16 - k)) * k) * k)) + (((d * k) * k) * k)) 4096
theorem betw_m (a b c d : Int64) (k : Int32) : m_between a b c d k = some (betw a b c d (Int32.toInt64 k)) := by
  unfold m_between betw
  rw [m_nearest_eq (by decide)]
  rfl
def pX (x0 : Int64) (num : Nat → Int32) (k t : Nat) : Int64 := betw x0 (Int32.toInt64 (num (6 * k))) (Int32.toInt64 (num (6 * k + 2))) (Int32.toInt64 (num (6 * k + 4))) (Int32.toInt64 (nI t))
def pY (y0 : Int64) (num : Nat → Int32) (k t : Nat) : Int64 := betw y0 (Int32.toInt64 (num (6 * k + 1))) (Int32.toInt64 (num (6 * k + 3))) (Int32.toInt64 (num (6 * k + 5))) (Int32.toInt64 (nI t))
def cubL (yn : Nat → Int32) (k : Nat) (x0 y0 : Int64) : Nat → Int64 → Int64 → List Ed
  | 0, _, _ => []
  | d + 1, hx, hy => (hx, hy, pX x0 yn k (16 - d), pY y0 yn k (16 - d)) :: cubL yn k x0 y0 d (pX x0 yn k (16 - d)) (pY y0 yn k (16 - d))
def edO (op : Bool) (hx hy bx yb : Int64) : List Ed := if op = true then [(hx, hy, bx, yb)] else []
def edS (yk yn : Nat → Int32) : Nat → Nat → Int64 → Int64 → Int64 → Int64 → Bool → List Ed
  | 0, _, hx, hy, bx, yb, op => edO op hx hy bx yb
  | d + 1, k, hx, hy, bx, yb, op =>
    if yk k = 0 then edO op hx hy bx yb ++ edS yk yn d (k + 1) (Int32.toInt64 (yn (6 * k))) (Int32.toInt64 (yn (6 * k + 1))) (Int32.toInt64 (yn (6 * k))) (Int32.toInt64 (yn (6 * k + 1))) false
    else if yk k = 3 then edO op hx hy bx yb ++ edS yk yn d (k + 1) bx yb bx yb false
    else if yk k = 1 then (hx, hy, Int32.toInt64 (yn (6 * k)), Int32.toInt64 (yn (6 * k + 1))) :: edS yk yn d (k + 1) (Int32.toInt64 (yn (6 * k))) (Int32.toInt64 (yn (6 * k + 1))) bx yb true
    else cubL yn k hx hy 16 hx hy ++ edS yk yn d (k + 1) (pX hx yn k 16) (pY hy yn k 16) bx yb true
theorem edS_0 {yk yn : Nat → Int32} {d k : Nat} {hx hy bx yb : Int64} {op : Bool} (h : yk k = 0) : edS yk yn (d + 1) k hx hy bx yb op = edO op hx hy bx yb ++ edS yk yn d (k + 1) (Int32.toInt64 (yn (6 * k))) (Int32.toInt64 (yn (6 * k + 1))) (Int32.toInt64 (yn (6 * k))) (Int32.toInt64 (yn (6 * k + 1))) false := by
  rw [edS, if_pos h]
theorem edS_3 {yk yn : Nat → Int32} {d k : Nat} {hx hy bx yb : Int64} {op : Bool} (h : yk k = 3) : edS yk yn (d + 1) k hx hy bx yb op = edO op hx hy bx yb ++ edS yk yn d (k + 1) bx yb bx yb false := by
  rw [edS, if_neg (by rw [h]; decide), if_pos h]
theorem edS_1 {yk yn : Nat → Int32} {d k : Nat} {hx hy bx yb : Int64} {op : Bool} (h : yk k = 1) : edS yk yn (d + 1) k hx hy bx yb op = (hx, hy, Int32.toInt64 (yn (6 * k)), Int32.toInt64 (yn (6 * k + 1))) :: edS yk yn d (k + 1) (Int32.toInt64 (yn (6 * k))) (Int32.toInt64 (yn (6 * k + 1))) bx yb true := by
  rw [edS, if_neg (by rw [h]; decide), if_neg (by rw [h]; decide), if_pos h]
theorem edS_2 {yk yn : Nat → Int32} {d k : Nat} {hx hy bx yb : Int64} {op : Bool} (h : yk k = 2) : edS yk yn (d + 1) k hx hy bx yb op = cubL yn k hx hy 16 hx hy ++ edS yk yn d (k + 1) (pX hx yn k 16) (pY hy yn k 16) bx yb true := by
  rw [edS, if_neg (by rw [h]; decide), if_neg (by rw [h]; decide), if_neg (by rw [h]; decide)]
theorem cubL_len (yn : Nat → Int32) (k : Nat) (x0 y0 : Int64) : ∀ d hx hy, (cubL yn k x0 y0 d hx hy).length = d := by
  intro d
  induction d with
  | zero => intro hx hy; rfl
  | succ d ih => intro hx hy; show (cubL yn k x0 y0 d _ _).length + 1 = d + 1; rw [ih]
theorem edO_len (op : Bool) (hx hy bx yb : Int64) : (edO op hx hy bx yb).length = if op = true then 1 else 0 := by cases op <;> rfl
theorem edS_len (yk yn : Nat → Int32) : ∀ d k hx hy bx yb op, (edS yk yn d k hx hy bx yb op).length ≤ 17 * d + 1 := by
  intro d
  induction d with
  | zero => intro k hx hy bx yb op; show (edO op hx hy bx yb).length ≤ _; rw [edO_len]; split <;> omega
  | succ d ih =>
    intro k hx hy bx yb op
    unfold edS
    have ho : (edO op hx hy bx yb).length ≤ 1 := by rw [edO_len]; split <;> omega
    split
    · rw [List.length_append]; have := ih (k + 1) (Int32.toInt64 (yn (6 * k))) (Int32.toInt64 (yn (6 * k + 1))) (Int32.toInt64 (yn (6 * k))) (Int32.toInt64 (yn (6 * k + 1))) false; omega
    · split
      · rw [List.length_append]; have := ih (k + 1) bx yb bx yb false; omega
      · split
        · rw [List.length_cons]; have := ih (k + 1) (Int32.toInt64 (yn (6 * k))) (Int32.toInt64 (yn (6 * k + 1))) bx yb true; omega
        · rw [List.length_append, cubL_len]; have := ih (k + 1) (pX hx yn k 16) (pY hy yn k 16) bx yb true; omega
/-- the class's count of edges -/
theorem xe_L {N cn : Nat} {xk xn yk yn : Nat → Int32} (hD : rD cn xk xn yk yn) : ∀ n d, d ≤ cn → d < n → ∀ c hx hy bx yb (op : Bool), c + (edS yk yn d (cn - d) hx hy bx yb op).length < 2 ^ 31 → xDrawing_edges_L6 N n (nI c) (if op = true then 1 else 0) (nI (cn - d)) (nI cn) xk = some (nI (c + (edS yk yn d (cn - d) hx hy bx yb op).length)) := by
  have hc := hD.1
  intro n
  induction n with
  | zero => intro d h1 h2; omega
  | succ n ih =>
    intro d h1 h2 c hx hy bx yb op hb
    show xDrawing_edges_B6 N (xDrawing_edges_L6 N n) (nI c) (if op = true then 1 else 0) (nI (cn - d)) (nI cn) xk = _
    unfold xDrawing_edges_B6
    cases d with
    | zero =>
      rw [show xDrawing_edges_b85 N (nI c) (if op = true then 1 else 0) = some (nI (c + (edS yk yn 0 (cn - 0) hx hy bx yb op).length)) from ?_]
      · rw [if_pos (show nI cn ≤ nI (cn - 0) by rw [z_le (by omega) (by omega)]; omega)]
        split <;> rfl
      · cases op
        · rfl
        · show some (nI c + 1) = _; rw [show nI c + 1 = nI (c + 1) from z_add c 1]; rfl
    | succ d =>
      obtain ⟨k1, k2, k3⟩ := hD.2 (cn - (d + 1)) (by omega)
      have e1 : cn - (d + 1) + 1 = cn - d := by omega
      have e2 : nI (cn - (d + 1)) + 1 = nI (cn - d) := by rw [show (1 : Int32) = nI 1 from rfl, z_add, e1]
      rw [if_neg (show ¬ (150 : Int32) ≤ nI (cn - (d + 1)) by rw [show (150 : Int32) = nI 150 from rfl, z_le (by omega) (by omega)]; omega), if_neg (show ¬ nI cn ≤ nI (cn - (d + 1)) by rw [z_le (by omega) (by omega)]; omega)]
      unfold xDrawing_edges_b41 xDrawing_edges_b58 xDrawing_edges_b75
      simp (disch := omega) only [z_kg, z_clamp, k2, e2]
      rcases k1 with q | q | q | q
      · rw [edS_0 q, e1, List.length_append, edO_len] at hb ⊢
        rw [q]
        simp (decide := true) only [reduceIte]
        cases op
        · have := ih d (by omega) (by omega) c _ _ _ _ false (by simpa using hb)
          simpa [show nI c + 0 = nI c from z_add c 0] using this
        · rw [show nI c + 1 = nI (c + 1) from z_add c 1]
          have := ih d (by omega) (by omega) (c + 1) _ _ _ _ false (by simpa [Nat.add_assoc] using hb)
          simpa [Nat.add_assoc] using this
      · rw [edS_1 q, e1, List.length_cons] at hb ⊢
        rw [q]
        simp (decide := true) only [reduceIte]
        rw [show nI c + 1 = nI (c + 1) from z_add c 1]
        have := ih d (by omega) (by omega) (c + 1) _ _ _ _ true (by omega)
        rw [show ∀ L : Nat, c + (L + 1) = c + 1 + L by omega]
        exact this
      · rw [edS_2 q, e1, List.length_append, cubL_len] at hb ⊢
        rw [q]
        simp (decide := true) only [reduceIte]
        rw [show nI c + 16 = nI (c + 16) from z_add c 16]
        have := ih d (by omega) (by omega) (c + 16) _ _ _ _ true (by omega)
        rw [show ∀ L : Nat, c + (16 + L) = c + 16 + L by omega]
        exact this
      · rw [edS_3 q, e1, List.length_append, edO_len] at hb ⊢
        rw [q]
        simp (decide := true) only [reduceIte]
        cases op
        · have := ih d (by omega) (by omega) c _ _ _ _ false (by simpa using hb)
          simpa [show nI c + 0 = nI c from z_add c 0] using this
        · rw [show nI c + 1 = nI (c + 1) from z_add c 1]
          have := ih d (by omega) (by omega) (c + 1) _ _ _ _ false (by simpa [Nat.add_assoc] using hb)
          simpa [Nat.add_assoc] using this
