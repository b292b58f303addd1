/-! L3: what both sides answer. Small rows on whole numbers. -/
theorem z_lit (k : Nat) : (OfNat.ofNat k : Int32) = nI k := by
  have h : nI k = (OfNat.ofNat k : Int32) := rfl
  rw [h]
theorem z_add (a b : Nat) : nI a + nI b = nI (a + b) := (Int32.ofNat_add a b).symm
theorem z_mul (a b : Nat) : nI a * nI b = nI (a * b) := (Int32.ofNat_mul a b).symm
theorem z_sub {a b : Nat} (h : b ≤ a) : nI a - nI b = nI (a - b) := by
  have h1 : nI (a - b) + nI b = nI a := by rw [z_add]; congr 1; omega
  rw [← h1, Int32.add_sub_cancel]
theorem z_inj {a b : Nat} (ha : a < 2 ^ 31) (hb : b < 2 ^ 31) : (nI a = nI b) = (a = b) := propext ⟨fun h => by
  have h1 := congrArg Int32.toInt h
  rw [nI_toInt ha, nI_toInt hb] at h1
  omega, fun h => by rw [h]⟩
theorem z_le {a b : Nat} (ha : a < 2 ^ 31) (hb : b < 2 ^ 31) : (nI a ≤ nI b) = (a ≤ b) := propext ⟨fun h => by
  rw [Int32.le_iff_toInt_le, nI_toInt ha, nI_toInt hb] at h
  omega, fun h => nI_le h hb⟩
theorem z_lt {a b : Nat} (ha : a < 2 ^ 31) (hb : b < 2 ^ 31) : (nI a < nI b) = (a < b) := propext ⟨fun h => by
  rw [Int32.lt_iff_toInt_lt, nI_toInt ha, nI_toInt hb] at h
  omega, fun h => nI_lt h hb⟩
theorem z_ki {a n : Nat} (ha : a < n) (hn : n < 2 ^ 31) : ki (nI a) n = true := by
  unfold ki
  rw [nI_toInt (by omega)]
  exact decide_eq_true ⟨by omega, by omega⟩
theorem z_kg {ρ : Type} {a n : Nat} {k : Option ρ} (ha : a < n) (hn : n < 2 ^ 31) : kg (ki (nI a) n) k = k := kg_t (z_ki ha hn)
theorem z_clamp {n : Nat} (h : n < 2 ^ 31) : (nI n).toNatClampNeg = n := nI_clamp h
theorem z_b1 {α ρ : Type} (a : α) (k : α → Option ρ) : kb1 (some a) k = k a := rfl
theorem z_b2 {α β ρ : Type} (a : α) (b : β) (k : α → β → Option ρ) : kb2 (some (a, b)) k = k a b := rfl
/-- how many numbers a kind of command has -/
def nd (k : Int32) : Nat := if k = 2 then 6 else if k = 3 then 0 else 2
theorem nd_le (k : Int32) : nd k ≤ 6 := by unfold nd; (repeat' split) <;> omega
def kd (k : Int32) : Prop := k = 0 ∨ k = 1 ∨ k = 2 ∨ k = 3
theorem nd_x {k : Int32} (h : kd k) : xP_numbersOf k = some (nI (nd k)) := by
  rcases h with rfl | rfl | rfl | rfl <;> rfl
theorem nd_m (k : Int32) : m_many k = some (nI (nd k)) := by
  unfold m_many nd
  split
  · rfl
  · split <;> rfl
/-- n commands of the class and of the reference are the same -/
def rD (n : Nat) (xk xn yk yn : Nat → Int32) : Prop := n ≤ 150 ∧ ∀ k, k < n → (kd (yk k) ∧ xk k = yk k ∧ ∀ i, i < nd (yk k) → xn (6 * k + i) = yn (6 * k + i) ∧ -1048576 ≤ (yn (6 * k + i)).toInt ∧ (yn (6 * k + i)).toInt ≤ 1048576)
theorem z_l (x : Int32) (a : Int64) : (Int32.toInt64 x < a) = (x.toInt < a.toInt) := propext (by rw [Int64.lt_iff_toInt_lt, Int32.toInt_toInt64])
theorem z_r (x : Int32) (a : Int64) : (a < Int32.toInt64 x) = (a.toInt < x.toInt) := propext (by rw [Int64.lt_iff_toInt_lt, Int32.toInt_toInt64])
theorem z_4 {x : Int32} (h0 : 0 ≤ x.toInt) (h3 : x.toInt ≤ 3) : x = 0 ∨ x = 1 ∨ x = 2 ∨ x = 3 := by
  have e : ∀ a b : Int32, a.toInt = b.toInt → a = b := fun a b h => Int32.toInt_inj.mp h
  have h : x.toInt = 0 ∨ x.toInt = 1 ∨ x.toInt = 2 ∨ x.toInt = 3 := by omega
  rcases h with h | h | h | h
  · exact Or.inl (e _ 0 h)
  · exact Or.inr (Or.inl (e _ 1 h))
  · exact Or.inr (Or.inr (Or.inl (e _ 2 h)))
  · exact Or.inr (Or.inr (Or.inr (e _ 3 h)))
theorem m_in_eq (x : Int32) (a b : Int64) : m_in (Int32.toInt64 x) a b = some (if a.toInt ≤ x.toInt ∧ x.toInt ≤ b.toInt then 1 else 0) := by
  unfold m_in
  simp only [z_l, z_r]
  by_cases h : x.toInt < a.toInt
  · rw [if_pos h, if_neg (by omega)]
  · rw [if_neg h]
    by_cases h' : b.toInt < x.toInt
    · rw [if_pos h', if_neg (by omega)]
    · rw [if_neg h', if_pos (by omega)]
theorem m_in_t {x : Int32} {a b : Int64} (h1 : a.toInt ≤ x.toInt) (h2 : x.toInt ≤ b.toInt) : m_in (Int32.toInt64 x) a b = some 1 := by
  rw [m_in_eq, if_pos ⟨h1, h2⟩]
theorem m_in_f {x : Int32} {a b : Int64} (h : x.toInt < a.toInt ∨ b.toInt < x.toInt) : m_in (Int32.toInt64 x) a b = some 0 := by
  rw [m_in_eq, if_neg (by omega)]
theorem i_lt {x y : Int32} : (x < y) = (x.toInt < y.toInt) := propext Int32.lt_iff_toInt_lt
theorem i_le {x y : Int32} : (x ≤ y) = (x.toInt ≤ y.toInt) := propext Int32.le_iff_toInt_le
theorem z_cases (x : Int32) : x.toInt < 0 ∨ ∃ a, a < 2 ^ 31 ∧ x = nI a := by
  by_cases h : x.toInt < 0
  · exact Or.inl h
  · have h2 : x.toInt < 2 ^ 31 := x.toInt_lt
    exact Or.inr ⟨x.toInt.toNat, by omega, Int32.toInt_inj.mp (by rw [nI_toInt (by omega)]; omega)⟩
theorem j_sub {a b : Int64} (h : -2 ^ 63 ≤ a.toInt - b.toInt) (h' : a.toInt - b.toInt < 2 ^ 63) : (a - b).toInt = a.toInt - b.toInt := by
  rw [Int64.toInt_sub]; exact Int.bmod_eq_of_le (by omega) (by omega)
theorem j_add {a b : Int64} (h : -2 ^ 63 ≤ a.toInt + b.toInt) (h' : a.toInt + b.toInt < 2 ^ 63) : (a + b).toInt = a.toInt + b.toInt := by
  rw [Int64.toInt_add]; exact Int.bmod_eq_of_le (by omega) (by omega)
theorem j_mul {a b : Int64} (h : -2 ^ 63 ≤ a.toInt * b.toInt) (h' : a.toInt * b.toInt < 2 ^ 63) : (a * b).toInt = a.toInt * b.toInt := by
  rw [Int64.toInt_mul]; exact Int.bmod_eq_of_le (by omega) (by omega)
theorem j_neg {a : Int64} (h : -2 ^ 63 < a.toInt) : (-a).toInt = -a.toInt := by
  have := a.toInt_lt
  rw [Int64.toInt_neg]; exact Int.bmod_eq_of_le (by omega) (by omega)
theorem i_sub {a b : Int32} (h : -2 ^ 31 ≤ a.toInt - b.toInt) (h' : a.toInt - b.toInt < 2 ^ 31) : (a - b).toInt = a.toInt - b.toInt := by
  rw [Int32.toInt_sub]; exact Int.bmod_eq_of_le (by omega) (by omega)
theorem i_add {a b : Int32} (h : -2 ^ 31 ≤ a.toInt + b.toInt) (h' : a.toInt + b.toInt < 2 ^ 31) : (a + b).toInt = a.toInt + b.toInt := by
  rw [Int32.toInt_add]; exact Int.bmod_eq_of_le (by omega) (by omega)
theorem i_mul {a b : Int32} (h : -2 ^ 31 ≤ a.toInt * b.toInt) (h' : a.toInt * b.toInt < 2 ^ 31) : (a * b).toInt = a.toInt * b.toInt := by
  rw [Int32.toInt_mul]; exact Int.bmod_eq_of_le (by omega) (by omega)
theorem j_of32 (a : Int32) : (Int32.toInt64 a).toInt = a.toInt := Int32.toInt_toInt64 a
theorem z_n1 {n : Nat} (h : n < 2 ^ 31) : (Int32.toInt64 (nI n) - (1 : Int64)).toInt = (n : Int) - 1 := by
  have e : (Int32.toInt64 (nI n)).toInt = (n : Int) := by rw [j_of32, nI_toInt h]
  have e1 : (1 : Int64).toInt = 1 := rfl
  rw [j_sub (by rw [e, e1]; omega) (by rw [e, e1]; omega), e, e1]
/-- is a place before n? -/
theorem m_in0 {x : Int32} {n : Nat} (hn : n < 2 ^ 31) : (∃ a, a < n ∧ x = nI a ∧ m_in (Int32.toInt64 x) 0 (Int32.toInt64 (nI n) - 1) = some 1) ∨ ((x.toInt < 0 ∨ (n : Int) ≤ x.toInt) ∧ m_in (Int32.toInt64 x) 0 (Int32.toInt64 (nI n) - 1) = some 0) := by
  rcases z_cases x with h | ⟨a, ha, rfl⟩
  · exact Or.inr ⟨Or.inl h, m_in_f (Or.inl h)⟩
  · by_cases h : a < n
    · refine Or.inl ⟨a, h, rfl, m_in_t ?_ ?_⟩
      · rw [nI_toInt ha]; show (0 : Int) ≤ _; omega
      · rw [nI_toInt ha, z_n1 hn]; omega
    · refine Or.inr ⟨Or.inr (by rw [nI_toInt ha]; omega), m_in_f (Or.inr ?_)⟩
      rw [nI_toInt ha, z_n1 hn]; omega
theorem i_ge {x : Int32} {n : Nat} (hn : n < 2 ^ 31) (h : (n : Int) ≤ x.toInt) : nI n ≤ x := by rw [i_le, nI_toInt hn]; exact h
theorem i_0 {x : Int32} (h : x.toInt < 0) : x < 0 := by rw [i_lt]; exact h
theorem i_n0 {n : Nat} (h : n < 2 ^ 31) : ¬ nI n < 0 := nI_pos h
theorem i_n00 {x : Int32} {n : Nat} (h : (n : Int) ≤ x.toInt) : ¬ x < 0 := by rw [i_lt]; show ¬ _ < (0 : Int); omega
theorem i_nlt {x : Int32} {n : Nat} (hn : n < 2 ^ 31) (h : (n : Int) ≤ x.toInt) : ¬ x < nI n := by rw [i_lt, nI_toInt hn]; omega
theorem upd_at (f : Nat → Int32) (k : Nat) (x : Int32) : upd f k x k = x := by unfold upd; rw [if_pos rfl]
theorem upd_ne {f : Nat → Int32} {k j : Nat} {x : Int32} (h : ¬ j = k) : upd f k x j = f j := by unfold upd; rw [if_neg h]
theorem updL_at (f : Nat → Int64) (k : Nat) (x : Int64) : vp_updL f k x k = x := by unfold vp_updL; rw [if_pos rfl]
theorem updL_ne {f : Nat → Int64} {k j : Nat} {x : Int64} (h : ¬ j = k) : vp_updL f k x j = f j := by unfold vp_updL; rw [if_neg h]
