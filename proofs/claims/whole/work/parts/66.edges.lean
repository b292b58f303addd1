/-! The division of both sides. -/
def nr (a b : Int64) : Int64 :=
  if (0 : Int64) ≤ 2 * a + b then (2 * a + b) / (2 * b)
  else if ((2 * a + b) / (2 * b)) * (2 * b) = 2 * a + b then (2 * a + b) / (2 * b) else (2 * a + b) / (2 * b) - 1
theorem i64_nonneg (x : Int64) : (0 ≤ x) ↔ x.toBitVec.msb = false := by
  rw [Int64.le_iff_toInt_le, BitVec.msb_eq_toInt]
  show (0 : Int) ≤ x.toInt ↔ _
  rw [decide_eq_false_iff_not]
  show _ ↔ ¬ x.toInt < 0
  omega
theorem i64_xor_sign {x y : Int64} (hy : 0 ≤ y) : (0 ≤ x ^^^ y) ↔ 0 ≤ x := by
  rw [i64_nonneg] at hy
  rw [i64_nonneg, i64_nonneg, Int64.toBitVec_xor, BitVec.msb_xor, hy, Bool.xor_false]
theorem m_nearest_eq {a b : Int64} (hb : ¬ 2 * b = 0) : m_nearest a b = some (nr a b) := by
  unfold m_nearest nr
  rw [kg_t (by unfold knl; exact decide_eq_true hb)]
  split
  · rfl
  · rw [Int64.mul_assoc]
    split
    · rfl
    · rfl
theorem xP_nearest_eq {a b : Int64} (h1 : 1 ≤ b) (h2 : 0 < 2 * b) : xP_nearest a b = some (nr a b) := by
  have hb : ¬ 2 * b = 0 := fun h => by rw [h] at h2; exact absurd h2 (by decide)
  have h0 : 0 ≤ 2 * b := Int64.le_of_lt h2
  unfold xP_nearest nr
  rw [if_pos h1]
  unfold jMath_floorDiv
  rw [kg_t (by unfold knl; exact decide_eq_true hb)]
  by_cases h : 0 ≤ 2 * a + b
  · rw [if_pos ((i64_xor_sign h0).mpr h), if_pos h]
    rfl
  · rw [if_neg (fun z => h ((i64_xor_sign h0).mp z)), if_neg h]
    split
    · rfl
    · rfl
/-! L3: the edges of a drawing. -/
abbrev Ed : Type := Int64 × Int64 × Int64 × Int64
def betw (a b c d k : Int64) : Int64 := nr ((((((a * (16 - k)) * (16 - k)) * (16 - k)) + ((((3 * b) * (16 - k)) * (16 - k)) * k)) + ((((3 * c) * (16 - k)) * k) * k)) + (((d * k) * k) * k)) 4096
theorem betw_m (a b c d : Int64) (k : Int32) : m_between a b c d k = some (betw a b c d (Int32.toInt64 k)) := by
  unfold m_between betw
  rw [m_nearest_eq (by decide)]
  rfl
def pX (x0 : Int64) (num : Nat → Int32) (k t : Nat) : Int64 := betw x0 (Int32.toInt64 (num (6 * k))) (Int32.toInt64 (num (6 * k + 2))) (Int32.toInt64 (num (6 * k + 4))) (Int32.toInt64 (nI t))
def pY (y0 : Int64) (num : Nat → Int32) (k t : Nat) : Int64 := betw y0 (Int32.toInt64 (num (6 * k + 1))) (Int32.toInt64 (num (6 * k + 3))) (Int32.toInt64 (num (6 * k + 5))) (Int32.toInt64 (nI t))
def cubL (yn : Nat → Int32) (k : Nat) (x0 y0 : Int64) : Nat → Int64 → Int64 → List Ed
  | 0, _, _ => []
  | d + 1, hx, hy => (hx, hy, pX x0 yn k (16 - d), pY y0 yn k (16 - d)) :: cubL yn k x0 y0 d (pX x0 yn k (16 - d)) (pY y0 yn k (16 - d))
def edO (op : Bool) (hx hy bx yb : Int64) : List Ed := if op = true then [(hx, hy, bx, yb)] else []
def edS (yk yn : Nat → Int32) : Nat → Nat → Int64 → Int64 → Int64 → Int64 → Bool → List Ed
  | 0, _, hx, hy, bx, yb, op => edO op hx hy bx yb
  | d + 1, k, hx, hy, bx, yb, op =>
    if yk k = 0 then edO op hx hy bx yb ++ edS yk yn d (k + 1) (Int32.toInt64 (yn (6 * k))) (Int32.toInt64 (yn (6 * k + 1))) (Int32.toInt64 (yn (6 * k))) (Int32.toInt64 (yn (6 * k + 1))) false
    else if yk k = 3 then edO op hx hy bx yb ++ edS yk yn d (k + 1) bx yb bx yb false
    else if yk k = 1 then (hx, hy, Int32.toInt64 (yn (6 * k)), Int32.toInt64 (yn (6 * k + 1))) :: edS yk yn d (k + 1) (Int32.toInt64 (yn (6 * k))) (Int32.toInt64 (yn (6 * k + 1))) bx yb true
    else cubL yn k hx hy 16 hx hy ++ edS yk yn d (k + 1) (pX hx yn k 16) (pY hy yn k 16) bx yb true
theorem edS_0 {yk yn : Nat → Int32} {d k : Nat} {hx hy bx yb : Int64} {op : Bool} (h : yk k = 0) : edS yk yn (d + 1) k hx hy bx yb op = edO op hx hy bx yb ++ edS yk yn d (k + 1) (Int32.toInt64 (yn (6 * k))) (Int32.toInt64 (yn (6 * k + 1))) (Int32.toInt64 (yn (6 * k))) (Int32.toInt64 (yn (6 * k + 1))) false := by
  rw [edS, if_pos h]
theorem edS_3 {yk yn : Nat → Int32} {d k : Nat} {hx hy bx yb : Int64} {op : Bool} (h : yk k = 3) : edS yk yn (d + 1) k hx hy bx yb op = edO op hx hy bx yb ++ edS yk yn d (k + 1) bx yb bx yb false := by
  rw [edS, if_neg (by rw [h]; decide), if_pos h]
theorem edS_1 {yk yn : Nat → Int32} {d k : Nat} {hx hy bx yb : Int64} {op : Bool} (h : yk k = 1) : edS yk yn (d + 1) k hx hy bx yb op = (hx, hy, Int32.toInt64 (yn (6 * k)), Int32.toInt64 (yn (6 * k + 1))) :: edS yk yn d (k + 1) (Int32.toInt64 (yn (6 * k))) (Int32.toInt64 (yn (6 * k + 1))) bx yb true := by
  rw [edS, if_neg (by rw [h]; decide), if_neg (by rw [h]; decide), if_pos h]
theorem edS_2 {yk yn : Nat → Int32} {d k : Nat} {hx hy bx yb : Int64} {op : Bool} (h : yk k = 2) : edS yk yn (d + 1) k hx hy bx yb op = cubL yn k hx hy 16 hx hy ++ edS yk yn d (k + 1) (pX hx yn k 16) (pY hy yn k 16) bx yb true := by
  rw [edS, if_neg (by rw [h]; decide), if_neg (by rw [h]; decide), if_neg (by rw [h]; decide)]
theorem cubL_len (yn : Nat → Int32) (k : Nat) (x0 y0 : Int64) : ∀ d hx hy, (cubL yn k x0 y0 d hx hy).length = d := by
  intro d
  induction d with
  | zero => intro hx hy; rfl
  | succ d ih => intro hx hy; show (cubL yn k x0 y0 d _ _).length + 1 = d + 1; rw [ih]
theorem edO_len (op : Bool) (hx hy bx yb : Int64) : (edO op hx hy bx yb).length = if op = true then 1 else 0 := by cases op <;> rfl
theorem edS_len (yk yn : Nat → Int32) : ∀ d k hx hy bx yb op, (edS yk yn d k hx hy bx yb op).length ≤ 17 * d + 1 := by
  intro d
  induction d with
  | zero => intro k hx hy bx yb op; show (edO op hx hy bx yb).length ≤ _; rw [edO_len]; split <;> omega
  | succ d ih =>
    intro k hx hy bx yb op
    unfold edS
    have ho : (edO op hx hy bx yb).length ≤ 1 := by rw [edO_len]; split <;> omega
    split
    · rw [List.length_append]; have := ih (k + 1) (Int32.toInt64 (yn (6 * k))) (Int32.toInt64 (yn (6 * k + 1))) (Int32.toInt64 (yn (6 * k))) (Int32.toInt64 (yn (6 * k + 1))) false; omega
    · split
      · rw [List.length_append]; have := ih (k + 1) bx yb bx yb false; omega
      · split
        · rw [List.length_cons]; have := ih (k + 1) (Int32.toInt64 (yn (6 * k))) (Int32.toInt64 (yn (6 * k + 1))) bx yb true; omega
        · rw [List.length_append, cubL_len]; have := ih (k + 1) (pX hx yn k 16) (pY hy yn k 16) bx yb true; omega
/-- the class's count of edges -/
theorem xe_L {N cn : Nat} {xk xn yk yn : Nat → Int32} (hD : rD cn xk xn yk yn) : ∀ n d, d ≤ cn → d < n → ∀ c hx hy bx yb (op : Bool), c + (edS yk yn d (cn - d) hx hy bx yb op).length < 2 ^ 31 → xDrawing_edges_L6 N n (nI c) (if op = true then 1 else 0) (nI (cn - d)) (nI cn) xk = some (nI (c + (edS yk yn d (cn - d) hx hy bx yb op).length)) := by
  have hc := hD.1
  intro n
  induction n with
  | zero => intro d h1 h2; omega
  | succ n ih =>
    intro d h1 h2 c hx hy bx yb op hb
    show xDrawing_edges_B6 N (xDrawing_edges_L6 N n) (nI c) (if op = true then 1 else 0) (nI (cn - d)) (nI cn) xk = _
    unfold xDrawing_edges_B6
    cases d with
    | zero =>
      rw [show xDrawing_edges_b85 N (nI c) (if op = true then 1 else 0) = some (nI (c + (edS yk yn 0 (cn - 0) hx hy bx yb op).length)) from ?_]
      · rw [if_pos (show nI cn ≤ nI (cn - 0) by rw [z_le (by omega) (by omega)]; omega)]
        split <;> rfl
      · cases op
        · rfl
        · show some (nI c + 1) = _; rw [show nI c + 1 = nI (c + 1) from z_add c 1]; rfl
    | succ d =>
      obtain ⟨k1, k2, k3⟩ := hD.2 (cn - (d + 1)) (by omega)
      have e1 : cn - (d + 1) + 1 = cn - d := by omega
      have e2 : nI (cn - (d + 1)) + 1 = nI (cn - d) := by rw [show (1 : Int32) = nI 1 from rfl, z_add, e1]
      rw [if_neg (show ¬ (150 : Int32) ≤ nI (cn - (d + 1)) by rw [show (150 : Int32) = nI 150 from rfl, z_le (by omega) (by omega)]; omega), if_neg (show ¬ nI cn ≤ nI (cn - (d + 1)) by rw [z_le (by omega) (by omega)]; omega)]
      unfold xDrawing_edges_b41 xDrawing_edges_b58 xDrawing_edges_b75
      simp (disch := omega) only [z_kg, z_clamp, k2, e2]
      rcases k1 with q | q | q | q
      · rw [edS_0 q, e1, List.length_append, edO_len] at hb ⊢
        rw [q]
        simp (decide := true) only [reduceIte]
        cases op
        · have := ih d (by omega) (by omega) c _ _ _ _ false (by simpa using hb)
          simpa [show nI c + 0 = nI c from z_add c 0] using this
        · rw [show nI c + 1 = nI (c + 1) from z_add c 1]
          have := ih d (by omega) (by omega) (c + 1) _ _ _ _ false (by simpa [Nat.add_assoc] using hb)
          simpa [Nat.add_assoc] using this
      · rw [edS_1 q, e1, List.length_cons] at hb ⊢
        rw [q]
        simp (decide := true) only [reduceIte]
        rw [show nI c + 1 = nI (c + 1) from z_add c 1]
        have := ih d (by omega) (by omega) (c + 1) (Int32.toInt64 (yn (6 * (cn - (d + 1))))) (Int32.toInt64 (yn (6 * (cn - (d + 1)) + 1))) bx yb true (by omega)
        exact this.trans (by congr 2; omega)
      · rw [edS_2 q, e1, List.length_append, cubL_len] at hb ⊢
        rw [q]
        simp (decide := true) only [reduceIte]
        rw [show nI c + 16 = nI (c + 16) from z_add c 16]
        have := ih d (by omega) (by omega) (c + 16) (pX hx yn (cn - (d + 1)) 16) (pY hy yn (cn - (d + 1)) 16) bx yb true (by omega)
        exact this.trans (by congr 2; omega)
      · rw [edS_3 q, e1, List.length_append, edO_len] at hb ⊢
        rw [q]
        simp (decide := true) only [reduceIte]
        cases op
        · have := ih d (by omega) (by omega) c _ _ _ _ false (by simpa using hb)
          simpa [show nI c + 0 = nI c from z_add c 0] using this
        · rw [show nI c + 1 = nI (c + 1) from z_add c 1]
          have := ih d (by omega) (by omega) (c + 1) _ _ _ _ false (by simpa [Nat.add_assoc] using hb)
          simpa [Nat.add_assoc] using this
/-! the reference's edges -/
theorem z_b5 {α β γ δ ε ρ : Type} (a : α) (b : β) (c : γ) (d : δ) (e : ε) (k : α → β → γ → δ → ε → Option ρ) : kb5 (some (a, b, c, d, e)) k = k a b c d e := rfl
def pE (s : Ed → Int64) : List Ed → Nat → (Nat → Int32) → Nat → Int32
  | [], _, f => f
  | a :: l, e, f => pE s l (e + 1) (upd f e (Int64.toInt32 (s a)))
theorem pE_cons (s : Ed → Int64) (a : Ed) (l : List Ed) (e : Nat) (f : Nat → Int32) : pE s (a :: l) e f = pE s l (e + 1) (upd f e (Int64.toInt32 (s a))) := rfl
theorem cubL_s (yn : Nat → Int32) (k : Nat) (x0 y0 : Int64) (d : Nat) (hx hy : Int64) : cubL yn k x0 y0 (d + 1) hx hy = (hx, hy, pX x0 yn k (16 - d), pY y0 yn k (16 - d)) :: cubL yn k x0 y0 d (pX x0 yn k (16 - d)) (pY y0 yn k (16 - d)) := rfl
theorem pE_app (s : Ed → Int64) (l l' : List Ed) : ∀ e f, pE s (l ++ l') e f = pE s l' (e + l.length) (pE s l e f) := by
  induction l with
  | nil => intro e f; rfl
  | cons a l ih =>
    intro e f
    show pE s (l ++ l') (e + 1) _ = pE s l' (e + (l.length + 1)) (pE s l (e + 1) _)
    rw [ih, show e + (l.length + 1) = e + 1 + l.length by omega]
def eX (a : Ed) : Int64 := a.1
def eY (a : Ed) : Int64 := a.2.1
def eU (a : Ed) : Int64 := a.2.2.1
def eV (a : Ed) : Int64 := a.2.2.2
def edR (l : List Ed) (e : Nat) (fx fy tx ty : Nat → Int32) : Int32 × (Nat → Int32) × (Nat → Int32) × (Nat → Int32) × (Nat → Int32) := (nI (e + l.length), pE eX l e fx, pE eY l e fy, pE eU l e tx, pE eV l e ty)
theorem edR_app (l l' : List Ed) (e : Nat) (fx fy tx ty : Nat → Int32) : edR (l ++ l') e fx fy tx ty = edR l' (e + l.length) (pE eX l e fx) (pE eY l e fy) (pE eU l e tx) (pE eV l e ty) := by
  unfold edR
  rw [pE_app, pE_app, pE_app, pE_app, List.length_append, Nat.add_assoc]
theorem edR_cons (a : Ed) (l : List Ed) (e : Nat) (fx fy tx ty : Nat → Int32) : edR (a :: l) e fx fy tx ty = edR l (e + 1) (upd fx e (Int64.toInt32 (eX a))) (upd fy e (Int64.toInt32 (eY a))) (upd tx e (Int64.toInt32 (eU a))) (upd ty e (Int64.toInt32 (eV a))) := edR_app [a] l e fx fy tx ty
theorem m_edge_eq {e : Nat} (h : e < 2700) {a b c d : Int64} {fx fy tx ty : Nat → Int32} : m_edge a b c d (nI e) fx fy tx ty = some (nI (e + 1), upd fx e (Int64.toInt32 a), upd fy e (Int64.toInt32 b), upd tx e (Int64.toInt32 c), upd ty e (Int64.toInt32 d)) := by
  unfold m_edge
  simp (disch := omega) only [z_kg, z_clamp]
  rw [show nI e + 1 = nI (e + 1) from z_add e 1]
theorem me_cub {N cn k : Nat} {k21 : Int64 → Int64 → Int64 → Int64 → Int32 → Int32 → Int32 → Int32 → (Nat → Int32) → (Nat → Int32) → (Nat → Int32) → (Nat → Int32) → (Nat → Int32) → (Nat → Int32) → Option (Int32 × (Nat → Int32) × (Nat → Int32) × (Nat → Int32) × (Nat → Int32))} {yk yn : Nat → Int32} (hk : k < 150) {x0 y0 bx yb : Int64} : ∀ n d, d ≤ 16 → d < n → ∀ e fx fy tx ty hx hy, e + d ≤ 2700 → m_makeEdges_L207 N k21 n hx hy bx yb (nI k) (nI (6 * k)) x0 y0 (nI (17 - d)) (nI cn) (nI e) yk fx fy tx ty yn = k21 (if d = 0 then hx else pX x0 yn k 16) (if d = 0 then hy else pY y0 yn k 16) bx yb 1 (nI (k + 1)) (nI cn) (nI (e + d)) yk (pE eX (cubL yn k x0 y0 d hx hy) e fx) (pE eY (cubL yn k x0 y0 d hx hy) e fy) (pE eU (cubL yn k x0 y0 d hx hy) e tx) (pE eV (cubL yn k x0 y0 d hx hy) e ty) yn := by
  have a1 : nI (6 * k) + 1 = nI (6 * k + 1) := z_add _ 1
  have a2 : nI (6 * k) + 2 = nI (6 * k + 2) := z_add _ 2
  have a3 : nI (6 * k) + 3 = nI (6 * k + 3) := z_add _ 3
  have a4 : nI (6 * k) + 4 = nI (6 * k + 4) := z_add _ 4
  have a5 : nI (6 * k) + 5 = nI (6 * k + 5) := z_add _ 5
  intro n
  induction n with
  | zero => intro d h1 h2; omega
  | succ n ih =>
    intro d h1 h2 e fx fy tx ty hx hy he
    show m_makeEdges_B207 N k21 (m_makeEdges_L207 N k21 n) hx hy bx yb (nI k) (nI (6 * k)) x0 y0 (nI (17 - d)) (nI cn) (nI e) yk fx fy tx ty yn = _
    unfold m_makeEdges_B207
    cases d with
    | zero =>
      rw [if_pos (show (16 : Int32) < nI (17 - 0) by decide), show nI k + 1 = nI (k + 1) from z_add k 1]
      rfl
    | succ d =>
      have e7 : 17 - (d + 1) = 16 - d := by omega
      rw [e7, if_neg (show ¬ (16 : Int32) < nI (16 - d) by rw [show (16 : Int32) = nI 16 from rfl, z_lt (by omega) (by omega)]; omega)]
      simp (disch := omega) only [a1, a2, a3, a4, a5, z_kg, z_clamp, betw_m, z_b1, m_edge_eq, z_b5]
      rw [show nI (16 - d) + 1 = nI (17 - d) from (z_add _ 1).trans (by congr 1; omega)]
      have := ih d (by omega) (by omega) (e + 1) (upd fx e (Int64.toInt32 hx)) (upd fy e (Int64.toInt32 hy)) (upd tx e (Int64.toInt32 (pX x0 yn k (16 - d)))) (upd ty e (Int64.toInt32 (pY y0 yn k (16 - d)))) (pX x0 yn k (16 - d)) (pY y0 yn k (16 - d)) (by omega)
      have ex : (if d = 0 then pX x0 yn k (16 - d) else pX x0 yn k 16) = pX x0 yn k 16 := by
        split
        · rename_i h; rw [h]
        · rfl
      have ey : (if d = 0 then pY y0 yn k (16 - d) else pY y0 yn k 16) = pY y0 yn k 16 := by
        split
        · rename_i h; rw [h]
        · rfl
      rw [ex, ey, show e + 1 + d = e + (d + 1) by omega] at this
      rw [show betw x0 (Int32.toInt64 (yn (6 * k))) (Int32.toInt64 (yn (6 * k + 2))) (Int32.toInt64 (yn (6 * k + 4))) (Int32.toInt64 (nI (16 - d))) = pX x0 yn k (16 - d) from rfl, show betw y0 (Int32.toInt64 (yn (6 * k + 1))) (Int32.toInt64 (yn (6 * k + 3))) (Int32.toInt64 (yn (6 * k + 5))) (Int32.toInt64 (nI (16 - d))) = pY y0 yn k (16 - d) from rfl, this, if_neg (show ¬ d + 1 = 0 by omega), if_neg (show ¬ d + 1 = 0 by omega), cubL_s, pE_cons, pE_cons, pE_cons, pE_cons]
      simp only [eX, eY, eU, eV]
theorem me_L {N cn : Nat} {yk yn : Nat → Int32} (hN : 17 ≤ N) (hc : cn ≤ 150) (hk : ∀ k, k < cn → kd (yk k)) : ∀ n d, d ≤ cn → d < n → ∀ e fx fy tx ty hx hy bx yb (op : Bool), e + (edS yk yn d (cn - d) hx hy bx yb op).length ≤ 2700 → m_makeEdges_L21 N n hx hy bx yb (if op = true then 1 else 0) (nI (cn - d)) (nI cn) (nI e) yk fx fy tx ty yn = some (edR (edS yk yn d (cn - d) hx hy bx yb op) e fx fy tx ty) := by
  intro n
  induction n with
  | zero => intro d h1 h2; omega
  | succ n ih =>
    intro d h1 h2 e fx fy tx ty hx hy bx yb op hb
    show m_makeEdges_B21 N (m_makeEdges_L21 N n) hx hy bx yb (if op = true then 1 else 0) (nI (cn - d)) (nI cn) (nI e) yk fx fy tx ty yn = _
    unfold m_makeEdges_B21
    cases d with
    | zero =>
      rw [if_pos (show nI cn ≤ nI (cn - 0) by rw [z_le (by omega) (by omega)]; omega)]
      cases op with
      | false => rfl
      | true =>
        have hb : e + 1 ≤ 2700 := hb
        rw [m_edge_eq (by omega)]; rfl
    | succ d =>
      have e1 : cn - (d + 1) + 1 = cn - d := by omega
      have hk1 := hk (cn - (d + 1)) (by omega)
      have h5 : cn - (d + 1) < 150 := by omega
      rw [if_neg (show ¬ nI cn ≤ nI (cn - (d + 1)) by rw [z_le (by omega) (by omega)]; omega)]
      unfold m_makeEdges_b63
      have IH := ih d (by omega) (by omega)
      rw [← e1] at IH
      clear ih
      generalize cn - (d + 1) = k at *
      have e2 : nI k + 1 = nI (k + 1) := z_add k 1
      have e6 : (6 : Int32) * nI k = nI (6 * k) := z_mul 6 k
      have a1 : nI (6 * k) + 1 = nI (6 * k + 1) := z_add _ 1
      have n1 : ¬ (if (true : Bool) = true then (1 : Int32) else 0) = 0 := by decide
      rcases hk1 with q | q | q | q
      · have A : ∀ x9 e fx fy tx ty, m_makeEdges_b76 N (m_makeEdges_L21 N n) hx hy bx yb x9 (nI k) (6 * nI k) (nI cn) (nI e) yk fx fy tx ty yn = m_makeEdges_L21 N n (Int32.toInt64 (yn (6 * k))) (Int32.toInt64 (yn (6 * k + 1))) (Int32.toInt64 (yn (6 * k))) (Int32.toInt64 (yn (6 * k + 1))) x9 (nI (k + 1)) (nI cn) (nI e) yk fx fy tx ty yn := fun x9 e fx fy tx ty => by
          unfold m_makeEdges_b76
          simp (disch := omega) only [e6, a1, z_kg, z_clamp, q, e2, if_true]
        rw [edS_0 q] at hb ⊢
        cases op with
        | false =>
          rw [if_pos (by rfl), A]
          exact IH e fx fy tx ty _ _ _ _ false hb
        | true =>
          have hb' : e + ((edS yk yn d (k + 1) (Int32.toInt64 (yn (6 * k))) (Int32.toInt64 (yn (6 * k + 1))) (Int32.toInt64 (yn (6 * k))) (Int32.toInt64 (yn (6 * k + 1))) false).length + 1) ≤ 2700 := hb
          rw [if_neg n1, z_kg h5 (by omega), z_clamp (by omega), if_pos q, m_edge_eq (by omega), z_b5, A]
          exact (IH (e + 1) (upd fx e (Int64.toInt32 hx)) (upd fy e (Int64.toInt32 hy)) (upd tx e (Int64.toInt32 bx)) (upd ty e (Int64.toInt32 yb)) _ _ _ _ false (by omega)).trans (congrArg some (edR_cons (hx, hy, bx, yb) _ e fx fy tx ty).symm)
      · have A : ∀ x9 e fx fy tx ty, e < 2700 → m_makeEdges_b76 N (m_makeEdges_L21 N n) hx hy bx yb x9 (nI k) (6 * nI k) (nI cn) (nI e) yk fx fy tx ty yn = m_makeEdges_L21 N n (Int32.toInt64 (yn (6 * k))) (Int32.toInt64 (yn (6 * k + 1))) bx yb 1 (nI (k + 1)) (nI cn) (nI (e + 1)) yk (upd fx e (Int64.toInt32 hx)) (upd fy e (Int64.toInt32 hy)) (upd tx e (Int64.toInt32 (Int32.toInt64 (yn (6 * k))))) (upd ty e (Int64.toInt32 (Int32.toInt64 (yn (6 * k + 1))))) yn := fun x9 e fx fy tx ty he => by
          unfold m_makeEdges_b76
          simp (disch := omega) only [e6, a1, z_kg, z_clamp, q, e2, if_true, if_false, show ¬ (1 : Int32) = 0 by decide, show ¬ (1 : Int32) = 3 by decide, m_edge_eq, z_b5]
        rw [edS_1 q] at hb ⊢
        have hb' : e + ((edS yk yn d (k + 1) (Int32.toInt64 (yn (6 * k))) (Int32.toInt64 (yn (6 * k + 1))) bx yb true).length + 1) ≤ 2700 := hb
        simp (disch := omega) only [z_kg, z_clamp, q, if_false, show ¬ (1 : Int32) = 0 by decide, show ¬ (1 : Int32) = 3 by decide, ite_self, A]
        exact (IH (e + 1) (upd fx e (Int64.toInt32 hx)) (upd fy e (Int64.toInt32 hy)) (upd tx e (Int64.toInt32 (Int32.toInt64 (yn (6 * k))))) (upd ty e (Int64.toInt32 (Int32.toInt64 (yn (6 * k + 1))))) _ _ _ _ true (by omega)).trans (congrArg some (edR_cons (hx, hy, Int32.toInt64 (yn (6 * k)), Int32.toInt64 (yn (6 * k + 1))) _ e fx fy tx ty).symm)
      · have A : ∀ x9 e fx fy tx ty, e + 16 ≤ 2700 → m_makeEdges_b76 N (m_makeEdges_L21 N n) hx hy bx yb x9 (nI k) (6 * nI k) (nI cn) (nI e) yk fx fy tx ty yn = m_makeEdges_L21 N n (pX hx yn k 16) (pY hy yn k 16) bx yb 1 (nI (k + 1)) (nI cn) (nI (e + 16)) yk (pE eX (cubL yn k hx hy 16 hx hy) e fx) (pE eY (cubL yn k hx hy 16 hx hy) e fy) (pE eU (cubL yn k hx hy 16 hx hy) e tx) (pE eV (cubL yn k hx hy 16 hx hy) e ty) yn := fun x9 e fx fy tx ty he => by
          unfold m_makeEdges_b76
          simp (disch := omega) only [e6, a1, z_kg, z_clamp, q, e2, if_true, if_false, show ¬ (2 : Int32) = 0 by decide, show ¬ (2 : Int32) = 3 by decide, show ¬ (2 : Int32) = 1 by decide]
          have t := me_cub (N := N) (cn := cn) (k21 := m_makeEdges_L21 N n) (yk := yk) (yn := yn) (x0 := hx) (y0 := hy) (bx := bx) (yb := yb) h5 N 16 (by omega) (by omega) e fx fy tx ty hx hy he
          rw [if_neg (show ¬ 16 = 0 by omega), if_neg (show ¬ 16 = 0 by omega)] at t
          exact t
        rw [edS_2 q] at hb ⊢
        rw [List.length_append, cubL_len] at hb
        simp (disch := omega) only [z_kg, z_clamp, q, if_false, show ¬ (2 : Int32) = 0 by decide, show ¬ (2 : Int32) = 3 by decide, ite_self, A]
        rw [edR_app, cubL_len]
        exact IH (e + 16) _ _ _ _ (pX hx yn k 16) (pY hy yn k 16) bx yb true (by omega)
      · have A : ∀ x9 e fx fy tx ty, m_makeEdges_b76 N (m_makeEdges_L21 N n) hx hy bx yb x9 (nI k) (6 * nI k) (nI cn) (nI e) yk fx fy tx ty yn = m_makeEdges_L21 N n bx yb bx yb x9 (nI (k + 1)) (nI cn) (nI e) yk fx fy tx ty yn := fun x9 e fx fy tx ty => by
          unfold m_makeEdges_b76
          simp (disch := omega) only [e6, a1, z_kg, z_clamp, q, e2, if_true, if_false, show ¬ (3 : Int32) = 0 by decide]
        rw [edS_3 q] at hb ⊢
        cases op with
        | false =>
          rw [if_pos (by rfl), A]
          exact IH e fx fy tx ty _ _ _ _ false hb
        | true =>
          have hb' : e + ((edS yk yn d (k + 1) bx yb bx yb false).length + 1) ≤ 2700 := hb
          rw [if_neg n1, z_kg h5 (by omega), z_clamp (by omega), if_neg (by rw [q]; decide), z_kg h5 (by omega), if_pos q, m_edge_eq (by omega), z_b5, A]
          exact (IH (e + 1) (upd fx e (Int64.toInt32 hx)) (upd fy e (Int64.toInt32 hy)) (upd tx e (Int64.toInt32 bx)) (upd ty e (Int64.toInt32 yb)) _ _ _ _ false (by omega)).trans (congrArg some (edR_cons (hx, hy, bx, yb) _ e fx fy tx ty).symm)
/-- all edges of a drawing -/
def edA (cn : Nat) (yk yn : Nat → Int32) : List Ed := edS yk yn cn 0 0 0 0 0 false
theorem edA_len {cn : Nat} {yk yn : Nat → Int32} (hc : cn ≤ 150) : (edA cn yk yn).length ≤ 2551 := by
  have := edS_len yk yn cn 0 0 0 0 0 false
  unfold edA
  omega
theorem me_A {N cn : Nat} {yk yn fx fy tx ty : Nat → Int32} (hN : 200 ≤ N) (hc : cn ≤ 150) (hk : ∀ k, k < cn → kd (yk k)) : m_makeEdges N (nI cn) yk fx fy tx ty yn = some (edR (edA cn yk yn) 0 fx fy tx ty) := by
  have h := edA_len (yk := yk) (yn := yn) hc
  unfold m_makeEdges
  have := me_L (N := N) (yk := yk) (yn := yn) (by omega) hc hk N cn (by omega) (by omega) 0 fx fy tx ty 0 0 0 0 false
  rw [Nat.sub_self] at this
  exact this (by show 0 + (edA cn yk yn).length ≤ 2700; omega)
theorem e_told {N cn ln : Nat} {x1 wr ed : Int32} {xk xn yk yn fx fy tx ty : Nat → Int32} (hN : 200 ≤ N) (hD : rD cn xk xn yk yn) : ∃ r ed' fx' fy' tx' ty', xP_told N x1 (nI cn) xk wr (nI ln) = some r ∧ m_told N x1 (nI ln) (nI cn) wr ed yk fx fy tx ty yn = some (r, 0, ed', fx', fy', tx', ty') := by
  have hc := hD.1
  unfold xP_told m_told
  by_cases h3 : x1 = 3
  · subst h3
    have h := edA_len (yk := yk) (yn := yn) hc
    have hx := xe_L (N := N) hD N cn (by omega) (by omega) 0 0 0 0 0 false
    rw [Nat.sub_self] at hx
    have hx := hx (by show 0 + (edA cn yk yn).length < 2 ^ 31; omega)
    have hy := me_A (N := N) (yn := yn) (fx := fx) (fy := fy) (tx := tx) (ty := ty) hN hc (fun k hk => (hD.2 k hk).1)
    rw [hy]
    unfold xDrawing_edges
    rw [show xDrawing_edges_L6 N N 0 0 0 (nI cn) xk = _ from hx]
    exact ⟨_, _, _, _, _, _, rfl, rfl⟩
  · simp only [h3, if_false]
    unfold m_told_b14
    simp only [h3, if_false]
    by_cases h0 : x1 = 0
    · simp only [h0, if_true]; exact ⟨_, _, _, _, _, _, rfl, rfl⟩
    · by_cases h1 : x1 = 1
      · simp (decide := true) only [h1, if_true, if_false]; exact ⟨_, _, _, _, _, _, rfl, rfl⟩
      · by_cases h2 : x1 = 2
        · simp (decide := true) only [h2, if_true, if_false]; exact ⟨_, _, _, _, _, _, rfl, rfl⟩
        · simp only [h0, h1, h2, if_false]; exact ⟨_, _, _, _, _, _, rfl, rfl⟩
