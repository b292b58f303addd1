/-! L3: move, line, cubic, close. -/
def okL (v : Int64) : Prop := -1048576 ≤ v.toInt ∧ v.toInt ≤ 1048576
def ok32 (v : Int32) : Prop := -1048576 ≤ v.toInt ∧ v.toInt ≤ 1048576
theorem ok_up {v : Int32} : okL (Int32.toInt64 v) ↔ ok32 v := by unfold okL ok32; rw [j_of32]
theorem isN_t {v : Int64} (h : okL v) : xP_isNumber v = some 1 := by
  unfold xP_isNumber
  rw [if_neg (by rw [Int64.lt_iff_toInt_lt]; exact Int.not_lt.mpr h.1), if_neg (by rw [Int64.lt_iff_toInt_lt]; exact Int.not_lt.mpr h.2)]
theorem isN_f {v : Int64} (h : ¬ okL v) : xP_isNumber v = some 0 := by
  unfold xP_isNumber
  by_cases h1 : v < -1048576
  · rw [if_pos h1]
  · rw [if_neg h1]
    by_cases h2 : (1048576 : Int64) < v
    · rw [if_pos h2]
    · rw [Int64.lt_iff_toInt_lt] at h1 h2
      exact absurd ⟨Int.not_lt.mp h1, Int.not_lt.mp h2⟩ h
theorem mn_t {v : Int32} (h : ok32 v) : m_isNumber v = some 1 := by
  unfold m_isNumber; rw [m_in_t (a := -1048576) (b := 1048576) h.1 h.2]; rfl
theorem mn_f {v : Int32} (h : ¬ ok32 v) : m_isNumber v = some 0 := by
  unfold m_isNumber
  rw [m_in_f (a := -1048576) (b := 1048576) (by
    by_cases h1 : v.toInt < -1048576
    · exact Or.inl h1
    · exact Or.inr (Int.not_le.mp fun h2 => h ⟨Int.not_lt.mp h1, h2⟩))]
  rfl
theorem are_L {N m : Nat} {row : Nat → Int64} (hm : m ≤ 6) : ∀ n i, i ≤ m → m < n + i → ((∀ j, i ≤ j → j < m → okL (row j)) → xP_areNumbers_L2 N n (nI m) (nI i) row = some 1) ∧ ((¬ ∀ j, i ≤ j → j < m → okL (row j)) → xP_areNumbers_L2 N n (nI m) (nI i) row = some 0) := by
  intro n
  induction n with
  | zero => intro i h1 h2; omega
  | succ n ih =>
    intro i h1 h2
    show (_ → xP_areNumbers_B2 N (xP_areNumbers_L2 N n) (nI m) (nI i) row = _) ∧ (_ → xP_areNumbers_B2 N (xP_areNumbers_L2 N n) (nI m) (nI i) row = _)
    unfold xP_areNumbers_B2
    simp (disch := omega) only [z_lit, z_le]
    by_cases h : m ≤ i
    · rw [if_pos h]
      exact ⟨fun _ => rfl, fun h9 => absurd (fun j a b => by omega) h9⟩
    · simp (disch := omega) only [h, if_false, z_kg, z_clamp, z_add]
      rw [if_neg (by omega)]
      by_cases h5 : okL (row i)
      · rw [isN_t h5, z_b1, if_neg (by decide)]
        obtain ⟨a, b⟩ := ih (i + 1) (by omega) (by omega)
        exact ⟨fun h9 => a (fun j q1 q2 => h9 j (by omega) q2), fun h9 => b (fun h8 => h9 (fun j q1 q2 => by
          by_cases e : j = i
          · rw [e]; exact h5
          · exact h8 j (by omega) q2))⟩
      · rw [isN_f h5, z_b1, if_pos (by decide)]
        exact ⟨fun h9 => absurd (h9 i (by omega) (by omega)) h5, fun _ => rfl⟩
theorem are_t {N m : Nat} {row : Nat → Int64} (hm : m ≤ 6) (hN : 7 ≤ N) (h : ∀ j, j < m → okL (row j)) : xP_areNumbers N (nI m) row = some 1 :=
  (are_L hm N 0 (by omega) (by omega)).1 (fun j _ q => h j q)
theorem are_f {N m : Nat} {row : Nat → Int64} (hm : m ≤ 6) (hN : 7 ≤ N) (h : ¬ ∀ j, j < m → okL (row j)) : xP_areNumbers N (nI m) row = some 0 :=
  (are_L hm N 0 (by omega) (by omega)).2 (fun h9 => h (fun j q => h9 j (by omega) q))
/-- numbers, with n of command c put there -/
def putN (nums : Nat → Int32) (c n : Nat) (row : Nat → Int32) : Nat → Int32 := fun j => if 6 * c ≤ j ∧ j < 6 * c + n then row (j - 6 * c) else nums j
theorem putN_0 (nums : Nat → Int32) (c : Nat) (row : Nat → Int32) : putN nums c 0 row = nums := by
  funext j; unfold putN; rw [if_neg (by omega)]
theorem putN_s (nums : Nat → Int32) (c i : Nat) (row : Nat → Int32) : upd (putN nums c i row) (6 * c + i) (row i) = putN nums c (i + 1) row := by
  funext j; unfold putN upd; dsimp only
  by_cases h : j = 6 * c + i
  · rw [if_pos h, if_pos (by omega), show j - 6 * c = i by omega]
  · rw [if_neg h]
    by_cases h2 : 6 * c ≤ j ∧ j < 6 * c + i
    · rw [if_pos h2, if_pos (by omega)]
    · rw [if_neg h2, if_neg (by omega)]
theorem add_L {N m c : Nat} {kind : Int32} {nums kinds : Nat → Int32} {row : Nat → Int64} (hm : m ≤ 6) (hc : c < 150) : ∀ n i, i ≤ m → m < n + i → xDrawing_add_L41 N n kind (nI m) (nI i) (nI c) (putN nums c i (fun j => (row j).toInt32)) kinds row = some (1, nI (c + 1), putN nums c m (fun j => (row j).toInt32), upd kinds c kind) := by
  intro n
  induction n with
  | zero => intro i h1 h2; omega
  | succ n ih =>
    intro i h1 h2
    show xDrawing_add_B41 N (xDrawing_add_L41 N n) kind (nI m) (nI i) (nI c) (putN nums c i (fun j => (row j).toInt32)) kinds row = _
    unfold xDrawing_add_B41
    simp (disch := omega) only [z_lit, z_le, z_add, z_mul]
    by_cases h : m ≤ i
    · have e : i = m := by omega
      subst e
      simp (disch := omega) only [h, if_true, z_kg, z_clamp]
    · simp (disch := omega) only [h, if_false, z_kg, z_clamp]
      rw [show c * 6 + i = 6 * c + i by omega, putN_s nums c i (fun j => (row j).toInt32)]
      exact ih (i + 1) (by omega) (by omega)
theorem add_ok {N c : Nat} {kind : Int32} {nums kinds : Nat → Int32} {row : Nat → Int64} (hk : kd kind) (hc : c < 150) (hN : 7 ≤ N) (hr : ∀ j, j < nd kind → okL (row j)) : xDrawing_add N kind (nI c) nums kinds row = some (1, nI (c + 1), putN nums c (nd kind) (fun j => (row j).toInt32), upd kinds c kind) := by
  have h6 := nd_le kind
  unfold xDrawing_add
  rw [nd_x hk, z_b1, are_t h6 hN hr]
  simp (disch := omega) only [z_lit, z_lt, z_le, z_b1]
  rw [if_neg (by omega), if_neg (by omega), if_neg (by omega), if_neg (by decide)]
  have := add_L (N := N) (kind := kind) (nums := nums) (kinds := kinds) (row := row) h6 hc N 0 (by omega) (by omega)
  rw [putN_0] at this
  exact this
theorem add_bad {N c : Nat} {kind : Int32} {nums kinds : Nat → Int32} {row : Nat → Int64} (hk : kd kind) (hc : c ≤ 150) (hN : 7 ≤ N) (hr : c = 150 ∨ ¬ ∀ j, j < nd kind → okL (row j)) : xDrawing_add N kind (nI c) nums kinds row = some (0, nI c, nums, kinds) := by
  have h6 := nd_le kind
  unfold xDrawing_add
  rw [nd_x hk, z_b1]
  simp (disch := omega) only [z_lit, z_lt, z_le]
  rw [if_neg (by omega)]
  by_cases h : 150 ≤ c
  · rw [if_pos h]
  · rw [if_neg h, if_neg (by omega), are_f h6 hN (hr.resolve_left (by omega)), z_b1, if_pos (by decide)]
def rM (n : Nat) (yk : Nat → Int32) : Prop := 0 < n → yk 0 = 0
theorem rD_push {c : Nat} {kind : Int32} {xk xn yk yn xn' yn' : Nat → Int32} (hD : rD c xk xn yk yn) (hc : c < 150) (hk : kd kind) (h1 : ∀ j, j < 6 * c → xn' j = xn j) (h2 : ∀ j, j < 6 * c → yn' j = yn j) (h3 : ∀ i, i < nd kind → xn' (6 * c + i) = yn' (6 * c + i) ∧ ok32 (yn' (6 * c + i))) : rD (c + 1) (upd xk c kind) xn' (upd yk c kind) yn' := by
  refine ⟨by omega, fun k hk9 => ?_⟩
  by_cases e : k = c
  · subst e
    have e1 : upd yk k kind k = kind := by unfold upd; rw [if_pos rfl]
    have e2 : upd xk k kind k = kind := by unfold upd; rw [if_pos rfl]
    rw [e1, e2]
    exact ⟨hk, rfl, fun i hi => ⟨(h3 i hi).1, (h3 i hi).2.1, (h3 i hi).2.2⟩⟩
  · have e1 : upd yk c kind k = yk k := by unfold upd; rw [if_neg e]
    have e2 : upd xk c kind k = xk k := by unfold upd; rw [if_neg e]
    obtain ⟨q1, q2, q3⟩ := hD.2 k (by omega)
    have h6 := nd_le (yk k)
    rw [e1, e2]
    refine ⟨q1, q2, fun i hi => ?_⟩
    rw [h1 _ (by omega), h2 _ (by omega)]
    exact q3 i hi
theorem rM_push {c : Nat} {kind : Int32} {yk : Nat → Int32} (hM : rM c yk) (h : c = 0 → kind = 0) : rM (c + 1) (upd yk c kind) := by
  intro _
  unfold upd
  by_cases e : 0 = c
  · rw [if_pos e]; exact h e.symm
  · rw [if_neg e]; exact hM (by omega)
theorem hm_1 {N c : Nat} {yk : Nat → Int32} (hc : c ≤ 150) : ∀ n k, k ≤ c → c < n + k → m_hasMove_L4 N n 1 (nI k) (nI c) yk = some 1 := by
  intro n
  induction n with
  | zero => intro k h1 h2; omega
  | succ n ih =>
    intro k h1 h2
    show m_hasMove_B4 N (m_hasMove_L4 N n) 1 (nI k) (nI c) yk = _
    unfold m_hasMove_B4
    simp (disch := omega) only [z_le]
    by_cases h : c ≤ k
    · rw [if_pos h]; rfl
    · rw [if_neg h, if_neg (by decide), show nI k + 1 = nI (k + 1) from z_add k 1]
      exact ih (k + 1) (by omega) (by omega)
theorem hm_eq {N c : Nat} {yk : Nat → Int32} (hc : c ≤ 150) (hN : 200 ≤ N) (hM : rM c yk) : m_hasMove N (nI c) yk = some (if c = 0 then 0 else 1) := by
  obtain ⟨n, rfl⟩ : ∃ n, N = n + 1 := ⟨N - 1, by omega⟩
  show m_hasMove_B4 (n + 1) (m_hasMove_L4 (n + 1) n) 0 (nI 0) (nI c) yk = _
  unfold m_hasMove_B4
  simp (disch := omega) only [z_le]
  by_cases h : c = 0
  · rw [if_pos (by omega), if_pos h]; rfl
  · rw [if_neg (by omega), if_neg h, if_pos trivial, z_kg (by omega) (by omega), z_clamp (by omega), if_pos (hM (by omega)), show nI 0 + 1 = nI 1 from z_add 0 1]
    exact hm_1 hc n 1 (by omega) (by omega)
theorem hm_0 {N : Nat} {yk : Nat → Int32} (hN : 200 ≤ N) : m_hasMove N (nI 0) yk = some 0 := hm_eq (by omega) hN (fun h => absurd h (by omega))
theorem hm_p {N c : Nat} {yk : Nat → Int32} (hc : c ≤ 150) (hN : 200 ≤ N) (hM : rM c yk) (h : ¬ c = 0) : m_hasMove N (nI c) yk = some 1 := by rw [hm_eq hc hN hM, if_neg h]
/-- what addGiven says -/
theorem ag_num {N c : Nat} {kind : Int32} {g : Nat → Int64} {xn xk : Nat → Int32} (hk : kd kind) (hN : 7 ≤ N) (h : ¬ ∀ j, j < nd kind → okL (g j)) : xP_addGiven N kind g (nI c) xn xk = some (1, 0, nI c, xn, xk) := by
  unfold xP_addGiven; rw [nd_x hk, z_b1, are_f (nd_le _) hN h]; rfl
theorem ag_no {N : Nat} {kind : Int32} {g : Nat → Int64} {xn xk : Nat → Int32} (hk : kd kind) (hN : 7 ≤ N) (h : ∀ j, j < nd kind → okL (g j)) (h0 : ¬ kind = 0) : xP_addGiven N kind g (nI 0) xn xk = some (2, 0, nI 0, xn, xk) := by
  unfold xP_addGiven; rw [nd_x hk, z_b1, are_t (nd_le _) hN h, z_b1, if_neg (by decide), if_neg h0]; rfl
theorem ag_full {N : Nat} {kind : Int32} {g : Nat → Int64} {xn xk : Nat → Int32} (hk : kd kind) (hN : 7 ≤ N) (h : ∀ j, j < nd kind → okL (g j)) : xP_addGiven N kind g (nI 150) xn xk = some (3, 0, nI 150, xn, xk) := by
  unfold xP_addGiven xP_addGiven_b48; rw [nd_x hk, z_b1, are_t (nd_le _) hN h, z_b1, if_neg (by decide), add_bad hk (by omega) hN (Or.inl rfl), if_neg (show ¬ nI 150 = 0 by decide)]
  split <;> rfl
theorem ag_ok {N c : Nat} {kind : Int32} {g : Nat → Int64} {xn xk : Nat → Int32} (hk : kd kind) (hN : 7 ≤ N) (h : ∀ j, j < nd kind → okL (g j)) (hc : c < 150) (h0 : c = 0 → kind = 0) : xP_addGiven N kind g (nI c) xn xk = some (0, nI (c + 1), nI (c + 1), putN xn c (nd kind) (fun j => (g j).toInt32), upd xk c kind) := by
  unfold xP_addGiven xP_addGiven_b48; rw [nd_x hk, z_b1, are_t (nd_le _) hN h, z_b1, if_neg (by decide), add_ok hk hc hN h]
  by_cases e : kind = 0
  · rw [if_pos e]; rfl
  · rw [if_neg e, if_neg (by rw [show (0 : Int32) = nI 0 from rfl, z_inj (by omega) (by omega)]; exact fun h => e (h0 h))]; rfl
theorem mp_eq {c i : Nat} {v : Int32} {yn : Nat → Int32} (hc : c < 150) (hi : i < 6) : m_put (nI i) v (nI c) yn = some (upd yn (6 * c + i) v) := by
  unfold m_put
  simp (disch := omega) only [z_lit, z_add, z_mul, z_kg, z_clamp]
theorem ma_eq {c : Nat} {kind : Int32} {yk : Nat → Int32} (hc : c < 150) : m_add kind (nI c) yk = some (nI (c + 1), nI (c + 1), upd yk c kind) := by
  unfold m_add
  simp (disch := omega) only [z_lit, z_add, z_kg, z_clamp]
