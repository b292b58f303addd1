/-! L3: write. The least digits behind the point. -/
def dN (s u : Nat) : Nat := (2 * (s * u) + 255) / 512
def offN (s u d : Nat) : Nat := (256 * d - s * u) + (s * u - 256 * d)
def sat (neg : Bool) (s u d : Nat) : Bool := if neg = true then decide (2 * (s * u) < 512 * d + u ∧ 512 * d ≤ 2 * (s * u) + u) else decide (2 * (s * u) ≤ 512 * d + u ∧ 512 * d < 2 * (s * u) + u)
def sg (neg : Bool) (x : Int64) : Int64 := if neg = true then -x else x
theorem sat_D {neg : Bool} {s u d : Nat} (hu : u = 1 ∨ u = 10 ∨ u = 100 ∨ u = 1000) (h : sat neg s u d = true) : sat neg s u (dN s u) = true := by
  unfold sat dN at *
  generalize s * u = p at *
  cases neg
  · have h := of_decide_eq_true h
    exact decide_eq_true (by omega)
  · have h := of_decide_eq_true h
    exact decide_eq_true (by omega)
theorem sat_3 (neg : Bool) (s : Nat) : sat neg s 1000 (dN s 1000) = true := by
  unfold sat dN
  cases neg
  · exact decide_eq_true (by omega)
  · exact decide_eq_true (by omega)
theorem off_lt {s u d : Nat} (h : d < dN s u) : offN s u (dN s u) < offN s u d := by
  unfold offN dN at *; generalize s * u = p at *; omega
theorem off_le {s u d : Nat} (h : dN s u < d) : offN s u (dN s u) ≤ offN s u d := by
  unfold offN dN at *; generalize s * u = p at *; omega
theorem near_p {s u d : Nat} (hu : u = 1 ∨ u = 10 ∨ u = 100 ∨ u = 1000) (hs : s < 2 ^ 30) (hd : d < 2 ^ 34) : nr ((256 : Int64) * jN d) (jN u) = jN s ↔ sat false s u d = true := by
  have hu2 : 0 < u ∧ u ≤ 1000 := by omega
  have e : (nr ((256 : Int64) * jN d) (jN u)).toInt = (2 * ((256 * d : Nat) : Int) + u) / (2 * u) := by
    rw [show (256 : Int64) * jN d = jN (256 * d) from jN_mul 256 d, nr_toInt (by rw [jN_toInt (by omega)]; omega) (by rw [jN_toInt (by omega)]; omega) (by rw [jN_toInt (by omega)]; omega) (by rw [jN_toInt (by omega)]; omega), jN_toInt (by omega), jN_toInt (by omega)]
  have i : nr ((256 : Int64) * jN d) (jN u) = jN s ↔ (2 * ((256 * d : Nat) : Int) + u) / (2 * u) = s := ⟨fun h => by rw [← e, h, jN_toInt (by omega)], fun h => j_ext (by rw [e, h, jN_toInt (by omega)])⟩
  rw [i]
  unfold sat
  rw [if_neg (by decide), decide_eq_true_iff]
  rcases hu with rfl | rfl | rfl | rfl <;> omega
theorem near_n {s u d : Nat} (hu : u = 1 ∨ u = 10 ∨ u = 100 ∨ u = 1000) (hs : s < 2 ^ 30) (hd : d < 2 ^ 34) : nr ((-256 : Int64) * jN d) (jN u) = -jN s ↔ sat true s u d = true := by
  have hu2 : 0 < u ∧ u ≤ 1000 := by omega
  have e0 : ((-256 : Int64) * jN d).toInt = -((256 * d : Nat) : Int) := by
    have e256 : (-256 : Int64).toInt = -256 := rfl
    rw [j_mul (by rw [e256, jN_toInt (by omega)]; omega) (by rw [e256, jN_toInt (by omega)]; omega), e256, jN_toInt (by omega)]; omega
  have es : (-jN s).toInt = -(s : Int) := by rw [j_neg (by rw [jN_toInt (by omega)]; omega), jN_toInt (by omega)]
  have e : (nr ((-256 : Int64) * jN d) (jN u)).toInt = (2 * (-((256 * d : Nat) : Int)) + u) / (2 * u) := by
    rw [nr_toInt (by rw [jN_toInt (by omega)]; omega) (by rw [jN_toInt (by omega)]; omega) (by rw [e0]; omega) (by rw [e0]; omega), e0, jN_toInt (by omega)]
  have i : nr ((-256 : Int64) * jN d) (jN u) = -jN s ↔ (2 * (-((256 * d : Nat) : Int)) + u) / (2 * u) = -(s : Int) := ⟨fun h => by rw [← e, h, es], fun h => j_ext (by rw [e, h, es])⟩
  rw [i]
  unfold sat
  rw [if_pos rfl, decide_eq_true_iff]
  rcases hu with rfl | rfl | rfl | rfl <;> omega
theorem dbl_ne {u : Nat} (h : 0 < u) (h' : u < 2 ^ 60) : ¬ 2 * jN u = 0 := fun e => by
  have e := congrArg Int64.toInt e
  rw [show 2 * jN u = jN (2 * u) from jN_mul 2 u, jN_toInt (by omega)] at e
  have e : ((2 * u : Nat) : Int) = 0 := e
  omega
theorem fd_in {N : Nat} {k27 : Int64 → Int32 → Int64 → Int32 → Int32 → Int64 → Option (Int32 × Int64)} {n64 : Int64} {x4 bh : Int32} {u hi D s : Nat} {S : Nat → Bool} (hu : u ≤ 1000) (hu0 : 0 < u) (hh : hi < 2 ^ 30) (hs : s ≤ 2 ^ 21) (hD : D ≤ hi)
    (near : ∀ d, d ≤ hi → (nr (if x4 = 0 then (256 : Int64) * jN d else (-256 : Int64) * jN d) (jN u) = n64 ↔ S d = true))
    (hoff : ∀ d, d ≤ hi → m_off (jN d) n64 (jN u) = some (jN (offN s u d)))
    (F1 : ∀ d, S d = true → S D = true) (F2 : ∀ d, d < D → offN s u D < offN s u d) (F3 : ∀ d, D < d → offN s u D ≤ offN s u d) :
    ∀ n d best, d ≤ hi + 1 → hi + 1 < n + d → ((d ≤ D ∧ (best = -1 ∨ ∃ b, b < d ∧ best = jN b ∧ S b = true)) ∨ (D < d ∧ best = if S D = true then jN D else -1)) → m_find_L124 N k27 n n64 x4 (jN u) (jN d) (jN hi) best bh = k27 n64 x4 (jN (u * 10)) (if S D = true then 1 else 0) bh (if S D = true then jN D else -1) := by
  have hsu : s * u ≤ 2 ^ 21 * 1000 := Nat.mul_le_mul hs hu
  have hof : ∀ d, d ≤ hi → offN s u d < 2 ^ 63 := fun d hd => by unfold offN; omega
  have nn : ∀ b, b < 2 ^ 63 → ¬ jN b < 0 := fun b hb => by rw [show (0 : Int64) = jN 0 from rfl, jN_lt hb (by omega)]; omega
  intro n
  induction n with
  | zero => intro d best h1 h2; omega
  | succ n ih =>
    intro d best h1 h2 hI
    show m_find_B124 N k27 (m_find_L124 N k27 n) n64 x4 (jN u) (jN d) (jN hi) best bh = _
    unfold m_find_B124 m_find_b214
    by_cases h : hi < d
    · rw [if_pos (by rw [jN_lt (by omega) (by omega)]; exact h), show jN u * 10 = jN (u * 10) from jN_mul u 10]
      have hb : best = if S D = true then jN D else -1 := by
        rcases hI with ⟨a, _⟩ | ⟨_, b⟩
        · omega
        · exact b
      subst hb
      by_cases hS : S D = true
      · simp only [if_pos hS]
        rw [if_neg (nn D (by omega))]
      · simp only [if_neg hS]
        rw [if_pos (by decide)]
    · rw [if_neg (by rw [jN_lt (by omega) (by omega)]; exact h)]
      have e : (if x4 = 0 then m_find_b152 N k27 (m_find_L124 N k27 n) n64 x4 (jN u) (jN d) (jN hi) best ((256 : Int64) * jN d) bh else m_find_b152 N k27 (m_find_L124 N k27 n) n64 x4 (jN u) (jN d) (jN hi) best ((-256 : Int64) * jN d) bh) = m_find_b152 N k27 (m_find_L124 N k27 n) n64 x4 (jN u) (jN d) (jN hi) best (if x4 = 0 then (256 : Int64) * jN d else (-256 : Int64) * jN d) bh := by split <;> rfl
      rw [e]
      unfold m_find_b152 m_find_b189 m_find_b193
      rw [m_nearest_eq (dbl_ne hu0 (by omega)), z_b1, show jN d + 1 = jN (d + 1) from jN_add d 1]
      by_cases hS : S d = true
      · rw [if_pos ((near d (by omega)).mpr hS)]
        have go : d ≤ D → m_find_L124 N k27 n n64 x4 (jN u) (jN (d + 1)) (jN hi) (jN d) bh = k27 n64 x4 (jN (u * 10)) (if S D = true then 1 else 0) bh (if S D = true then jN D else -1) := fun hd => ih (d + 1) (jN d) (by omega) (by omega) (by
          by_cases q : d = D
          · exact Or.inr ⟨by omega, by rw [if_pos (F1 d hS), q]⟩
          · exact Or.inl ⟨by omega, Or.inr ⟨d, by omega, rfl, hS⟩⟩)
        rcases hI with ⟨g1, rfl | ⟨b, hb, rfl, hSb⟩⟩ | ⟨g1, hb⟩
        · rw [if_pos (by decide)]; exact go g1
        · rw [if_neg (nn b (by omega)), hoff d (by omega), hoff b (by omega), z_b1, z_b1]
          by_cases hq : offN s u b ≤ offN s u d
          · rw [if_pos (by rw [jN_le (hof b (by omega)) (hof d (by omega))]; exact hq)]
            have : ¬ d = D := fun q => by have := F2 b (by omega); rw [q] at hq; omega
            exact ih (d + 1) (jN b) (by omega) (by omega) (Or.inl ⟨by omega, Or.inr ⟨b, by omega, rfl, hSb⟩⟩)
          · rw [if_neg (by rw [jN_le (hof b (by omega)) (hof d (by omega))]; exact hq)]
            exact go g1
        · rw [if_pos (F1 d hS)] at hb
          subst hb
          rw [if_neg (nn D (by omega)), hoff d (by omega), hoff D (by omega), z_b1, z_b1, if_pos (by rw [jN_le (hof D (by omega)) (hof d (by omega))]; exact F3 d g1)]
          exact ih (d + 1) (jN D) (by omega) (by omega) (Or.inr ⟨by omega, by rw [if_pos (F1 d hS)]⟩)
      · rw [if_neg (fun h => hS ((near d (by omega)).mp h))]
        refine ih (d + 1) best (by omega) (by omega) ?_
        rcases hI with ⟨g1, hb⟩ | ⟨g1, hb⟩
        · by_cases q : d = D
          · refine Or.inr ⟨by omega, ?_⟩
            rw [if_neg (by rw [← q]; exact hS)]
            rcases hb with hb | ⟨b, hb, _, hSb⟩
            · exact hb
            · exact absurd (F1 b hSb) (by rw [← q]; exact hS)
          · refine Or.inl ⟨by omega, ?_⟩
            rcases hb with hb | ⟨b, hb, e1, hSb⟩
            · exact Or.inl hb
            · exact Or.inr ⟨b, by omega, e1, hSb⟩
        · exact Or.inr ⟨by omega, hb⟩
theorem off_eq {neg : Bool} {s u d : Nat} (hs : s ≤ 2 ^ 21) (hu : u ≤ 1000) (hd : d < 2 ^ 34) (h0 : neg = true → 0 < s) : m_off (jN d) (sg neg (jN s)) (jN u) = some (jN (offN s u d)) := by
  have hsu : s * u ≤ 2 ^ 21 * 1000 := Nat.mul_le_mul hs hu
  have b17 : m_off_b17 (jN u) ((256 : Int64) * jN d) (jN s) = some (jN (offN s u d)) := by
    unfold m_off_b17 offN
    rw [show (256 : Int64) * jN d = jN (256 * d) from jN_mul 256 d, jN_mul]
    by_cases h : s * u ≤ 256 * d
    · rw [jN_sub h, if_pos (by rw [show (0 : Int64) = jN 0 from rfl, jN_le (by omega) (by omega)]; omega)]
      congr 2; omega
    · have e : -(jN (256 * d) - jN (s * u)) = jN (s * u - 256 * d) := by rw [Int64.neg_sub, jN_sub (by omega)]
      have e0 : (jN (256 * d) - jN (s * u)).toInt = (256 * d : Nat) - (s * u : Nat) := by rw [j_sub (by rw [jN_toInt (by omega), jN_toInt (by omega)]; omega) (by rw [jN_toInt (by omega), jN_toInt (by omega)]; omega), jN_toInt (by omega), jN_toInt (by omega)]
      rw [if_neg (by rw [Int64.le_iff_toInt_le, e0]; show ¬ (0 : Int) ≤ _; omega), e]
      congr 2; omega
  unfold m_off
  cases neg
  · show (if (0 : Int64) ≤ jN s then m_off_b17 (jN u) ((256 : Int64) * jN d) (jN s) else _) = _
    rw [if_pos (by rw [show (0 : Int64) = jN 0 from rfl, jN_le (by omega) (by omega)]; omega), b17]
  · show (if (0 : Int64) ≤ -jN s then _ else m_off_b17 (jN u) ((256 : Int64) * jN d) (-(-jN s))) = _
    have h0 := h0 rfl
    rw [if_neg (by rw [Int64.le_iff_toInt_le, j_neg (by rw [jN_toInt (by omega)]; omega), jN_toInt (by omega)]; show ¬ (0 : Int) ≤ _; omega), Int64.neg_neg, b17]
theorem fd_step {N n s u : Nat} {neg : Bool} {bh : Int32} {w : Int64} (hN : 200 ≤ N) (hu : u = 1 ∨ u = 10 ∨ u = 100 ∨ u = 1000) (hs : s ≤ 1048576) (h0 : neg = true → 0 < s) : m_find_L27 N (n + 1) (sg neg (jN s)) (if neg = true then 1 else 0) (jN u) 0 bh w = m_find_L27 N n (sg neg (jN s)) (if neg = true then 1 else 0) (jN (u * 10)) (if sat neg s u (dN s u) = true then 1 else 0) (bh + 1) (if sat neg s u (dN s u) = true then jN (dN s u) else -1) := by
  have hu2 : 0 < u ∧ u ≤ 1000 := by omega
  have hsu : s * u ≤ 1048576 * 1000 := Nat.mul_le_mul hs hu2.2
  have b53 : m_find_b53 N (m_find_L27 N n) (sg neg (jN s)) (if neg = true then 1 else 0) (jN u) (jN s) (bh + 1) = m_find_L27 N n (sg neg (jN s)) (if neg = true then 1 else 0) (jN (u * 10)) (if sat neg s u (dN s u) = true then 1 else 0) (bh + 1) (if sat neg s u (dN s u) = true then jN (dN s u) else -1) := by
    have eF : jN s * jN u / 256 = jN (s * u / 256) := by rw [jN_mul, show (256 : Int64) = jN 256 from rfl, jN_div (by omega) (by omega)]
    have eq : jN u / 256 = jN (u / 256) := by rw [show (256 : Int64) = jN 256 from rfl, jN_div (by omega) (by omega)]
    have b99 : m_find_b99 N (m_find_L27 N n) (sg neg (jN s)) (if neg = true then 1 else 0) (jN u) (jN (s * u / 256 - (u / 256 + 2))) (jN s) (bh + 1) = m_find_L27 N n (sg neg (jN s)) (if neg = true then 1 else 0) (jN (u * 10)) (if sat neg s u (dN s u) = true then 1 else 0) (bh + 1) (if sat neg s u (dN s u) = true then jN (dN s u) else -1) := by
      unfold m_find_b99
      rw [eF, eq, jN_add, show jN (s * u / 256 + u / 256) + 2 = jN (s * u / 256 + u / 256 + 2) from jN_add _ 2]
      have hD : dN s u ≤ s * u / 256 + u / 256 + 2 := by unfold dN; omega
      have hD2 : s * u / 256 - (u / 256 + 2) ≤ dN s u := by unfold dN; omega
      refine fd_in (s := s) (D := dN s u) (S := sat neg s u) hu2.2 hu2.1 (by omega) (by omega) hD ?_ ?_ (fun d h => sat_D hu h) (fun d h => off_lt h) (fun d h => off_le h) N _ (-1) (by omega) (by omega) (Or.inl ⟨hD2, Or.inl rfl⟩)
      · intro d hd
        cases neg
        · exact near_p hu (by omega) (by omega)
        · exact near_n hu (by omega) (by omega)
      · intro d hd
        exact off_eq (by omega) hu2.2 (by omega) h0
    have b86 : ∀ X, X = jN (s * u / 256 - (u / 256 + 2)) → m_find_b86 N (m_find_L27 N n) (sg neg (jN s)) (if neg = true then 1 else 0) (jN u) X (bh + 1) = m_find_L27 N n (sg neg (jN s)) (if neg = true then 1 else 0) (jN (u * 10)) (if sat neg s u (dN s u) = true then 1 else 0) (bh + 1) (if sat neg s u (dN s u) = true then jN (dN s u) else -1) := fun X hX => by
      subst hX
      rw [← b99]
      unfold m_find_b86
      cases neg
      · rfl
      · show m_find_b99 N _ (-jN s) _ (jN u) _ (-(-jN s)) _ = _
        rw [Int64.neg_neg]; rfl
    unfold m_find_b53
    rw [eF, eq]
    by_cases h : u / 256 + 2 ≤ s * u / 256
    · have e : jN (s * u / 256) - jN (u / 256) - 2 = jN (s * u / 256 - (u / 256 + 2)) := by
        rw [jN_sub (by omega), show (2 : Int64) = jN 2 from rfl, jN_sub (by omega), Nat.sub_sub]
      rw [if_pos (by rw [e, show (0 : Int64) = jN 0 from rfl, jN_le (by omega) (by omega)]; omega)]
      exact b86 _ e
    · have t2 : (2 : Int64).toInt = 2 := rfl
      have e1 : (jN (s * u / 256) - jN (u / 256)).toInt = (s * u / 256 : Nat) - (u / 256 : Nat) := by rw [j_sub (by rw [jN_toInt (by omega), jN_toInt (by omega)]; omega) (by rw [jN_toInt (by omega), jN_toInt (by omega)]; omega), jN_toInt (by omega), jN_toInt (by omega)]
      rw [if_neg (by rw [Int64.le_iff_toInt_le, j_sub (by rw [e1, t2]; omega) (by rw [e1, t2]; omega), e1, t2]; show ¬ (0 : Int) ≤ _; omega)]
      exact b86 0 (by rw [show s * u / 256 - (u / 256 + 2) = 0 by omega]; rfl)
  show m_find_B27 N (m_find_L27 N n) (sg neg (jN s)) (if neg = true then 1 else 0) (jN u) 0 bh w = _
  rw [← b53]
  unfold m_find_B27
  rw [if_pos rfl]
  cases neg
  · rfl
  · show m_find_b53 N _ (-jN s) _ (jN u) (-(-jN s)) _ = _
    rw [Int64.neg_neg]; rfl
theorem fd_end {N n : Nat} {a u w : Int64} {x bh : Int32} : m_find_L27 N (n + 1) a x u 1 bh w = some (bh, w) := rfl
def fb (neg : Bool) (s : Nat) : Nat := if sat neg s 1 (dN s 1) = true then 0 else if sat neg s 10 (dN s 10) = true then 1 else if sat neg s 100 (dN s 100) = true then 2 else 3
theorem fb_le (neg : Bool) (s : Nat) : fb neg s ≤ 3 := by unfold fb; (repeat' split) <;> omega
theorem fd_all {N n s : Nat} {neg : Bool} {w : Int64} (hN : 200 ≤ N) (hs : s ≤ 1048576) (h0 : neg = true → 0 < s) : m_find_L27 N (n + 5) (sg neg (jN s)) (if neg = true then 1 else 0) 1 0 (-1) w = some (nI (fb neg s), jN (dN s (10 ^ fb neg s))) := by
  rw [show m_find_L27 N (n + 5) (sg neg (jN s)) (if neg = true then 1 else 0) 1 0 (-1) w = _ from fd_step (n := n + 4) (u := 1) (bh := -1) (w := w) hN (by omega) hs h0]
  unfold fb
  by_cases h1 : sat neg s 1 (dN s 1) = true
  · simp only [if_pos h1]; rfl
  simp only [if_neg h1]
  rw [show m_find_L27 N (n + 4) (sg neg (jN s)) (if neg = true then 1 else 0) (jN (1 * 10)) 0 (-1 + 1) (-1) = _ from fd_step (n := n + 3) (u := 10) (bh := 0) (w := -1) hN (by omega) hs h0]
  by_cases h2 : sat neg s 10 (dN s 10) = true
  · simp only [if_pos h2]; rfl
  simp only [if_neg h2]
  rw [show m_find_L27 N (n + 3) (sg neg (jN s)) (if neg = true then 1 else 0) (jN (10 * 10)) 0 (0 + 1) (-1) = _ from fd_step (n := n + 2) (u := 100) (bh := 1) (w := -1) hN (by omega) hs h0]
  by_cases h3 : sat neg s 100 (dN s 100) = true
  · simp only [if_pos h3]; rfl
  simp only [if_neg h3]
  rw [show m_find_L27 N (n + 2) (sg neg (jN s)) (if neg = true then 1 else 0) (jN (100 * 10)) 0 (1 + 1) (-1) = _ from fd_step (n := n + 1) (u := 1000) (bh := 2) (w := -1) hN (by omega) hs h0]
  simp only [if_pos (sat_3 neg s)]
  rfl
/-- a number that a command may have: its sign and its size -/
def isV (v : Int32) (neg : Bool) (s : Nat) : Prop := s ≤ 1048576 ∧ ((neg = false ∧ Int32.toInt64 v = jN s ∧ (0 : Int32) ≤ v ∧ ¬ v < 0 ∧ (0 : Int64) ≤ Int32.toInt64 v) ∨ (neg = true ∧ Int32.toInt64 v = -jN s ∧ ¬ (0 : Int32) ≤ v ∧ v < 0 ∧ ¬ (0 : Int64) ≤ Int32.toInt64 v ∧ 0 < s))
theorem isV_of {v : Int32} (h : ok32 v) : ∃ neg s, isV v neg s := by
  unfold ok32 at h
  by_cases h0 : 0 ≤ v.toInt
  · refine ⟨false, v.toInt.toNat, by omega, Or.inl ⟨rfl, j_ext (by rw [j_of32, jN_toInt (by omega)]; omega), ?_, ?_, ?_⟩⟩
    · rw [i_le]; exact h0
    · rw [i_lt]; exact Int.not_lt.mpr h0
    · rw [Int64.le_iff_toInt_le, j_of32]; exact h0
  · refine ⟨true, (-v.toInt).toNat, by omega, Or.inr ⟨rfl, j_ext (by rw [j_of32, j_neg (by rw [jN_toInt (by omega)]; omega), jN_toInt (by omega)]; omega), ?_, ?_, ?_, by omega⟩⟩
    · rw [i_le]; exact h0
    · rw [i_lt]; exact Int.not_le.mp h0
    · rw [Int64.le_iff_toInt_le, j_of32]; exact h0
theorem e_find {N s : Nat} {neg : Bool} {v : Int32} {w : Int64} (hN : 200 ≤ N) (hv : isV v neg s) : m_find N v w = some (nI (fb neg s), jN (dN s (10 ^ fb neg s))) := by
  obtain ⟨n, hn⟩ : ∃ n, N = n + 5 := ⟨N - 5, by omega⟩
  obtain ⟨hs, hv⟩ := hv
  unfold m_find m_find_b14
  rcases hv with ⟨rfl, e, _, _, h⟩ | ⟨rfl, e, _, _, h, h0⟩
  · have := fd_all (n := n) (w := w) (neg := false) hN hs (fun h => by cases h)
    rw [← hn] at this
    rw [if_pos h, e]; exact this
  · have := fd_all (n := n) (w := w) (neg := true) hN hs (fun _ => h0)
    rw [← hn] at this
    rw [if_neg h, e]; exact this
