/-! L3: what both sides answer. Small rows on whole numbers. -/
theorem z_lit (k : Nat) : (OfNat.ofNat k : Int32) = nI k := rfl
theorem z_add (a b : Nat) : nI a + nI b = nI (a + b) := (Int32.ofNat_add a b).symm
theorem z_mul (a b : Nat) : nI a * nI b = nI (a * b) := (Int32.ofNat_mul a b).symm
theorem z_sub {a b : Nat} (h : b ≤ a) : nI a - nI b = nI (a - b) := by
  have h1 : nI (a - b) + nI b = nI a := by rw [z_add]; congr 1; omega
  rw [← h1, Int32.add_sub_cancel]
theorem z_inj {a b : Nat} (ha : a < 2 ^ 31) (hb : b < 2 ^ 31) : (nI a = nI b) = (a = b) := propext ⟨fun h => by
  have h1 := congrArg Int32.toInt h
  rw [nI_toInt ha, nI_toInt hb] at h1
  omega, fun h => by rw [h]⟩
theorem z_le {a b : Nat} (ha : a < 2 ^ 31) (hb : b < 2 ^ 31) : (nI a ≤ nI b) = (a ≤ b) := propext ⟨fun h => by
  rw [Int32.le_iff_toInt_le, nI_toInt ha, nI_toInt hb] at h
  omega, fun h => nI_le h hb⟩
theorem z_lt {a b : Nat} (ha : a < 2 ^ 31) (hb : b < 2 ^ 31) : (nI a < nI b) = (a < b) := propext ⟨fun h => by
  rw [Int32.lt_iff_toInt_lt, nI_toInt ha, nI_toInt hb] at h
  omega, fun h => nI_lt h hb⟩
theorem z_ki {a n : Nat} (ha : a < n) (hn : n < 2 ^ 31) : ki (nI a) n = true := by
  unfold ki
  rw [nI_toInt (by omega)]
  exact decide_eq_true ⟨by omega, by omega⟩
theorem z_kg {ρ : Type} {a n : Nat} {k : Option ρ} (ha : a < n) (hn : n < 2 ^ 31) : kg (ki (nI a) n) k = k := kg_t (z_ki ha hn)
theorem z_clamp {n : Nat} (h : n < 2 ^ 31) : (nI n).toNatClampNeg = n := nI_clamp h
theorem z_b1 {α ρ : Type} (a : α) (k : α → Option ρ) : kb1 (some a) k = k a := rfl
theorem z_b2 {α β ρ : Type} (a : α) (b : β) (k : α → β → Option ρ) : kb2 (some (a, b)) k = k a b := rfl
/-- how many numbers a kind of command has -/
def nd (k : Int32) : Nat := if k = 2 then 6 else if k = 3 then 0 else 2
theorem nd_le (k : Int32) : nd k ≤ 6 := by unfold nd; (repeat' split) <;> omega
def kd (k : Int32) : Prop := k = 0 ∨ k = 1 ∨ k = 2 ∨ k = 3
theorem nd_x {k : Int32} (h : kd k) : xP_numbersOf k = some (nI (nd k)) := by
  rcases h with rfl | rfl | rfl | rfl <;> rfl
theorem nd_m (k : Int32) : m_many k = some (nI (nd k)) := by
  unfold m_many nd
  split
  · rfl
  · split <;> rfl
/-- n commands of the class and of the reference are the same -/
def rD (n : Nat) (xk xn yk yn : Nat → Int32) : Prop := n ≤ 150 ∧ ∀ k, k < n → (kd (yk k) ∧ xk k = yk k ∧ ∀ i, i < nd (yk k) → xn (6 * k + i) = yn (6 * k + i) ∧ -1048576 ≤ (yn (6 * k + i)).toInt ∧ (yn (6 * k + i)).toInt ≤ 1048576)
theorem z_l (x : Int32) (a : Int64) : (Int32.toInt64 x < a) = (x.toInt < a.toInt) := propext (by rw [Int64.lt_iff_toInt_lt, Int32.toInt_toInt64])
theorem z_r (x : Int32) (a : Int64) : (a < Int32.toInt64 x) = (a.toInt < x.toInt) := propext (by rw [Int64.lt_iff_toInt_lt, Int32.toInt_toInt64])
theorem z_4 {x : Int32} (h0 : 0 ≤ x.toInt) (h3 : x.toInt ≤ 3) : x = 0 ∨ x = 1 ∨ x = 2 ∨ x = 3 := by
  have e : ∀ a b : Int32, a.toInt = b.toInt → a = b := fun a b h => Int32.toInt_inj.mp h
  have h : x.toInt = 0 ∨ x.toInt = 1 ∨ x.toInt = 2 ∨ x.toInt = 3 := by omega
  rcases h with h | h | h | h
  · exact Or.inl (e _ 0 h)
  · exact Or.inr (Or.inl (e _ 1 h))
  · exact Or.inr (Or.inr (Or.inl (e _ 2 h)))
  · exact Or.inr (Or.inr (Or.inr (e _ 3 h)))
theorem m_in_eq (x : Int32) (a b : Int64) : m_in (Int32.toInt64 x) a b = some (if a.toInt ≤ x.toInt ∧ x.toInt ≤ b.toInt then 1 else 0) := by
  unfold m_in
  simp only [z_l, z_r]
  by_cases h : x.toInt < a.toInt
  · rw [if_pos h, if_neg (by omega)]
  · rw [if_neg h]
    by_cases h' : b.toInt < x.toInt
    · rw [if_pos h', if_neg (by omega)]
    · rw [if_neg h', if_pos (by omega)]
theorem m_in_t {x : Int32} {a b : Int64} (h1 : a.toInt ≤ x.toInt) (h2 : x.toInt ≤ b.toInt) : m_in (Int32.toInt64 x) a b = some 1 := by
  rw [m_in_eq, if_pos ⟨h1, h2⟩]
theorem m_in_f {x : Int32} {a b : Int64} (h : x.toInt < a.toInt ∨ b.toInt < x.toInt) : m_in (Int32.toInt64 x) a b = some 0 := by
  rw [m_in_eq, if_neg (by omega)]
theorem i_lt {x y : Int32} : (x < y) = (x.toInt < y.toInt) := propext Int32.lt_iff_toInt_lt
theorem i_le {x y : Int32} : (x ≤ y) = (x.toInt ≤ y.toInt) := propext Int32.le_iff_toInt_le
