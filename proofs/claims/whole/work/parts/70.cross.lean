/-! L3: render. What an edge adds. -/
theorem fp_eq {x : Int64} {e : Nat} (he : e ≤ 128) (h1 : -2 ^ 50 ≤ x.toInt) (h2 : x.toInt ≤ 2 ^ 50) : ∃ k, k ≤ e ∧ xCover_firstPointFrom x (nI e) = some (nI k) ∧ ∀ c : Nat, c < e → (k ≤ c ↔ x.toInt ≤ 8 + 16 * (c : Int)) := by
  have t7 : (7 : Int64).toInt = 7 := rfl
  have e7 : (x + 7).toInt = x.toInt + 7 := by rw [j_add (by rw [t7]; omega) (by rw [t7]; omega), t7]
  have hs : ((x + 7) >>> (Int32.toInt64 (4 : Int32) &&& 63)).toInt = (x.toInt + 7) / 16 := by
    rw [← e7]
    show ((x + 7) >>> (Int32.toInt64 (4 : Int32) &&& 63)).toBitVec.toInt = (x + 7).toBitVec.toInt / 16
    have hb : (Int32.toInt64 (4 : Int32) &&& 63).toBitVec.smod 64#64 = BitVec.ofNat 64 4 := by decide +kernel
    rw [Int64.toBitVec_shiftRight]
    have hb' : (x + 7).toBitVec.sshiftRight' ((Int32.toInt64 (4 : Int32) &&& 63).toBitVec.smod 64) = (x + 7).toBitVec.sshiftRight 4 := by
      rw [show (Int32.toInt64 (4 : Int32) &&& 63).toBitVec.smod 64 = BitVec.ofNat 64 4 from hb]; rfl
    rw [hb', BitVec.toInt_sshiftRight, Int.shiftRight_eq_div_pow]
    rfl
  unfold xCover_firstPointFrom
  generalize (x + 7) >>> (Int32.toInt64 (4 : Int32) &&& 63) = s at *
  have te : (Int32.toInt64 (nI e)).toInt = (e : Int) := by rw [j_of32, nI_toInt (by omega)]
  by_cases h0 : (0 : Int64) ≤ s
  · rw [if_pos h0]
    have h0 : 0 ≤ s.toInt := by rw [Int64.le_iff_toInt_le] at h0; exact h0
    by_cases h9 : s ≤ Int32.toInt64 (nI e)
    · rw [if_pos h9]
      rw [Int64.le_iff_toInt_le, te] at h9
      refine ⟨s.toInt.toNat, by omega, ?_, fun c hc => by omega⟩
      rw [show s = jN s.toInt.toNat from j_ext (by rw [jN_toInt (by omega)]; omega), jN_down (by omega), jN_toInt (by omega)]
      rfl
    · rw [if_neg h9]
      rw [Int64.le_iff_toInt_le, te] at h9
      exact ⟨e, by omega, rfl, fun c hc => by omega⟩
  · rw [if_neg h0]
    have h0 : s.toInt < 0 := by rw [Int64.le_iff_toInt_le] at h0; exact Int.not_le.mp h0
    exact ⟨0, by omega, rfl, fun c hc => by omega⟩
/-- the sum of a row of changes before column m -/
def psn (ch : Nat → Int32) (r : Nat) : Nat → Int32
  | 0 => 0
  | c + 1 => psn ch r c + ch (128 * r + c)
theorem psn_upd {ch : Nat → Int32} {r0 c0 : Nat} {v : Int32} (h0 : c0 < 128) (r : Nat) : ∀ m, m ≤ 128 → psn (upd ch (128 * r0 + c0) (ch (128 * r0 + c0) + v)) r m = psn ch r m + (if r = r0 ∧ c0 < m then v else 0) := by
  intro m
  induction m with
  | zero => intro _; rw [if_neg (by omega)]; rfl
  | succ m ih =>
    intro hm
    show psn _ r m + upd ch (128 * r0 + c0) (ch (128 * r0 + c0) + v) (128 * r + m) = psn ch r m + ch (128 * r + m) + _
    rw [ih (by omega)]
    by_cases e : r = r0 ∧ c0 = m
    · obtain ⟨rfl, rfl⟩ := e
      rw [upd_at, if_neg (by omega), if_pos (by omega), Int32.add_zero, Int32.add_assoc]
    · rw [upd_ne (by omega)]
      by_cases e2 : r = r0 ∧ c0 < m
      · rw [if_pos e2, if_pos (by omega), Int32.add_assoc, Int32.add_comm v, ← Int32.add_assoc]
      · rw [if_neg e2, if_neg (by omega), Int32.add_zero, Int32.add_zero]
theorem cr_L {N E : Nat} {ux uy lx rise top : Int64} {g : Int32} {q : Nat → Int64} {col : Nat → Nat} (hE : E ≤ 16)
    (hq : ∀ r, r < 16 → jMath_floorDiv ((-(((top + (8 : Int64)) + ((16 : Int64) * (Int32.toInt64 (nI r)))) - uy)) * (lx - ux)) rise = some (q r))
    (hc : ∀ r, r < 16 → xCover_firstPointFrom (ux - q r) (128 : Int32) = some (nI (col r))) (hc8 : ∀ r, r < 16 → col r ≤ 128) :
    ∀ n r0, r0 ≤ 16 → 16 < n + r0 → ∀ ch, ∃ ch', xCover_addCrossings_L45 N n ux uy lx g rise (nI E) (nI r0) top ch = some ch' ∧ ∀ r m, r < 16 → m ≤ 128 → psn ch' r m = psn ch r m + (if r0 ≤ r ∧ r < E ∧ col r < m then g else 0) := by
  intro n
  induction n with
  | zero => intro r0 a b; omega
  | succ n ih =>
    intro r0 h1 h2 ch
    show ∃ ch', xCover_addCrossings_B45 N (xCover_addCrossings_L45 N n) ux uy lx g rise (nI E) (nI r0) top ch = some ch' ∧ _
    unfold xCover_addCrossings_B45
    by_cases h : E ≤ r0
    · rw [if_pos (by rw [z_le (by omega) (by omega)]; exact h)]
      exact ⟨ch, rfl, fun r m hr hm => by rw [if_neg (by omega), Int32.add_zero]⟩
    · have h8 := hc8 r0 (by omega)
      rw [if_neg (by rw [z_le (by omega) (by omega)]; exact h), hq r0 (by omega), z_b1, hc r0 (by omega), z_b1, show nI r0 + 1 = nI (r0 + 1) from z_add r0 1, show nI r0 * 128 = nI (r0 * 128) from z_mul r0 128, z_add]
      by_cases h9 : col r0 = 128
      · rw [if_pos (by rw [h9]; decide)]
        obtain ⟨ch', a, b⟩ := ih (r0 + 1) (by omega) (by omega) ch
        refine ⟨ch', a, fun r m hr hm => ?_⟩
        rw [b r m hr hm]
        by_cases e : r0 + 1 ≤ r ∧ r < E ∧ col r < m
        · rw [if_pos e, if_pos (by omega)]
        · rw [if_neg e, if_neg (fun e' => e ⟨by
            rcases Nat.lt_or_ge r0 r with q | q
            · exact q
            · have : r = r0 := by omega
              subst this; omega, e'.2⟩)]
      · rw [if_neg (by rw [show (128 : Int32) = nI 128 from rfl, z_le (by omega) (by omega)]; omega), z_kg (by omega) (by omega), z_kg (by omega) (by omega), z_clamp (by omega), show r0 * 128 + col r0 = 128 * r0 + col r0 by omega]
        obtain ⟨ch', a, b⟩ := ih (r0 + 1) (by omega) (by omega) (upd ch (128 * r0 + col r0) (ch (128 * r0 + col r0) + g))
        refine ⟨ch', a, fun r m hr hm => ?_⟩
        rw [b r m hr hm, psn_upd (by omega) r m hm]
        by_cases e : r = r0
        · subst e
          rw [if_neg (show ¬ (r + 1 ≤ r ∧ r < E ∧ col r < m) by omega), Int32.add_zero]
          by_cases e2 : col r < m
          · rw [if_pos ⟨rfl, e2⟩, if_pos (by omega)]
          · rw [if_neg (fun z => e2 z.2), if_neg (by omega)]
        · rw [if_neg (show ¬ (r = r0 ∧ col r0 < m) from fun z => e z.1), Int32.add_zero]
          by_cases e2 : r0 + 1 ≤ r ∧ r < E ∧ col r < m
          · rw [if_pos e2, if_pos (by omega)]
          · rw [if_neg e2, if_neg (by omega)]
theorem okL_abs {v : Int64} (h : okL v) : v.toInt.natAbs ≤ 1048576 := by unfold okL at h; omega
theorem okL_sub {a b : Int64} (ha : okL a) (hb : okL b) : (a - b).toInt = a.toInt - b.toInt := by
  unfold okL at *; exact j_sub (by omega) (by omega)
theorem cr_eq {N row : Nat} {ux uy lx ly : Int64} {g : Int32} {ch : Nat → Int32} (hN : 200 ≤ N) (hrow : row < 8) (h1 : okL ux) (h2 : okL uy) (h3 : okL lx) (h4 : okL ly) : ∃ ch', xCover_addCrossings N ux uy lx ly g (jN (256 * row)) ch = some ch' ∧ ∀ r c, r < 16 → c < 128 → psn ch' r (c + 1) = psn ch r (c + 1) + (if uy.toInt ≤ (256 * row + 8 + 16 * r : Nat) ∧ ((256 * row + 8 + 16 * r : Nat) : Int) < ly.toInt ∧ ((256 * row + 8 + 16 * r : Nat) - uy.toInt) * (lx.toInt - ux.toInt) ≤ ((8 + 16 * c : Nat) - ux.toInt) * (ly.toInt - uy.toInt) then g else 0) := by
  have er := okL_sub h4 h2
  have ex := okL_sub h3 h1
  have b1 := h1; have b2 := h2; have b3 := h3; have b4 := h4
  unfold okL at b1 b2 b3 b4
  unfold xCover_addCrossings
  by_cases h : (0 : Int64) < ly - uy
  · rw [if_pos h]
    have h : uy.toInt < ly.toInt := by rw [Int64.lt_iff_toInt_lt, er] at h; have h : (0 : Int) < ly.toInt - uy.toInt := h; omega
    have tT : (jN (256 * row)).toInt = (256 * row : Nat) := jN_toInt (by omega)
    have e1 : (uy - jN (256 * row)).toInt = uy.toInt - (256 * row : Nat) := by rw [j_sub (by omega) (by omega), tT]
    have e2 : (ly - jN (256 * row)).toInt = ly.toInt - (256 * row : Nat) := by rw [j_sub (by omega) (by omega), tT]
    obtain ⟨k1, q1, q2, q3⟩ := fp_eq (x := uy - jN (256 * row)) (e := 16) (by omega) (by omega) (by omega)
    obtain ⟨k2, p1, p2, p3⟩ := fp_eq (x := ly - jN (256 * row)) (e := 16) (by omega) (by omega) (by omega)
    have dn : ∀ r, r < 16 → (-((jN (256 * row) + (8 : Int64) + (16 : Int64) * Int32.toInt64 (nI r)) - uy)).toInt = -((256 * row + 8 + 16 * r : Nat) - uy.toInt) := fun r hr => by
      rw [jN_up (by omega), show (16 : Int64) * jN r = jN (16 * r) from jN_mul 16 r, show jN (256 * row) + 8 = jN (256 * row + 8) from jN_add _ 8, jN_add]
      have t : (jN (256 * row + 8 + 16 * r)).toInt = (256 * row + 8 + 16 * r : Nat) := jN_toInt (by omega)
      have s : (jN (256 * row + 8 + 16 * r) - uy).toInt = (256 * row + 8 + 16 * r : Nat) - uy.toInt := by rw [j_sub (by omega) (by omega), t]
      rw [j_neg (by omega), s]
    have pr : ∀ r, r < 16 → ((-((jN (256 * row) + (8 : Int64) + (16 : Int64) * Int32.toInt64 (nI r)) - uy)) * (lx - ux)).toInt = -((256 * row + 8 + 16 * r : Nat) - uy.toInt) * (lx.toInt - ux.toInt) ∧ (-((256 * row + 8 + 16 * r : Nat) - uy.toInt) * (lx.toInt - ux.toInt)).natAbs ≤ 4194304 * 4194304 := fun r hr => by
      have := j_mB (a := -((jN (256 * row) + (8 : Int64) + (16 : Int64) * Int32.toInt64 (nI r)) - uy)) (b := lx - ux) (A := 4194304) (B := 4194304) (by rw [dn r hr]; omega) (by rw [ex]; omega) (by omega)
      rw [dn r hr, ex] at this
      exact this
    have hr0 : 0 < (ly - uy).toInt := by omega
    have fq : ∀ r, r < 16 → (flr ((-((jN (256 * row) + (8 : Int64) + (16 : Int64) * Int32.toInt64 (nI r)) - uy)) * (lx - ux)) (ly - uy)).toInt = (-((256 * row + 8 + 16 * r : Nat) - uy.toInt) * (lx.toInt - ux.toInt)) / (ly.toInt - uy.toInt) := fun r hr => by
      obtain ⟨a, b⟩ := pr r hr
      rw [flr_toInt hr0 (by rw [a]; omega), a, er]
    have hd : ∀ r, r < 16 → ((-((256 * row + 8 + 16 * r : Nat) - uy.toInt) * (lx.toInt - ux.toInt)) / (ly.toInt - uy.toInt)).natAbs ≤ 4194304 * 4194304 := fun r hr => by
      obtain ⟨_, b⟩ := pr r hr
      generalize -((256 * row + 8 + 16 * r : Nat) - uy.toInt) * (lx.toInt - ux.toInt) = P at b ⊢
      have c1 : (-(4194304 * 4194304) : Int) ≤ P / (ly.toInt - uy.toInt) := (Int.le_ediv_iff_mul_le (by omega)).mpr (by
        have : (4194304 * 4194304 : Int) * 1 ≤ 4194304 * 4194304 * (ly.toInt - uy.toInt) := Int.mul_le_mul_of_nonneg_left (by omega) (by omega)
        rw [Int.neg_mul]; omega)
      have c2 : P / (ly.toInt - uy.toInt) < 4194304 * 4194304 + 1 := (Int.ediv_lt_iff_lt_mul (by omega)).mpr (by
        have : (4194304 * 4194304 + 1 : Int) * 1 ≤ (4194304 * 4194304 + 1) * (ly.toInt - uy.toInt) := Int.mul_le_mul_of_nonneg_left (by omega) (by omega)
        omega)
      omega
    have sb : ∀ r, r < 16 → (ux - flr ((-((jN (256 * row) + (8 : Int64) + (16 : Int64) * Int32.toInt64 (nI r)) - uy)) * (lx - ux)) (ly - uy)).toInt = ux.toInt - (-((256 * row + 8 + 16 * r : Nat) - uy.toInt) * (lx.toInt - ux.toInt)) / (ly.toInt - uy.toInt) := fun r hr => by
      have := hd r hr
      rw [j_sub (by rw [fq r hr]; omega) (by rw [fq r hr]; omega), fq r hr]
    have hcol : ∀ r, ∃ k, r < 16 → (k ≤ 128 ∧ xCover_firstPointFrom (ux - flr ((-((jN (256 * row) + (8 : Int64) + (16 : Int64) * Int32.toInt64 (nI r)) - uy)) * (lx - ux)) (ly - uy)) (nI 128) = some (nI k) ∧ ∀ c : Nat, c < 128 → (k ≤ c ↔ ux.toInt - (-((256 * row + 8 + 16 * r : Nat) - uy.toInt) * (lx.toInt - ux.toInt)) / (ly.toInt - uy.toInt) ≤ 8 + 16 * (c : Int))) := fun r => by
      by_cases hr : r < 16
      · have := hd r hr
        obtain ⟨k, a, b, c⟩ := fp_eq (x := ux - flr ((-((jN (256 * row) + (8 : Int64) + (16 : Int64) * Int32.toInt64 (nI r)) - uy)) * (lx - ux)) (ly - uy)) (e := 128) (by omega) (by rw [sb r hr]; omega) (by rw [sb r hr]; omega)
        rw [sb r hr] at c
        exact ⟨k, fun _ => ⟨a, b, c⟩⟩
      · exact ⟨0, fun h => absurd h hr⟩
    obtain ⟨col, hcol⟩ := Classical.axiomOfChoice hcol
    obtain ⟨ch', a, b⟩ := cr_L (N := N) (E := k2) (ux := ux) (uy := uy) (lx := lx) (rise := ly - uy) (top := jN (256 * row)) (g := g) (q := fun r => flr ((-((jN (256 * row) + (8 : Int64) + (16 : Int64) * Int32.toInt64 (nI r)) - uy)) * (lx - ux)) (ly - uy)) (col := col) p1 (fun r hr => flr_eq hr0) (fun r hr => (hcol r hr).2.1) (fun r hr => (hcol r hr).1) N k1 q1 (by omega) ch
    refine ⟨ch', ?_, fun r c hr hc => ?_⟩
    · rw [show xCover_firstPointFrom (uy - jN (256 * row)) 16 = _ from q2, z_b1, show xCover_firstPointFrom (ly - jN (256 * row)) 16 = _ from p2, z_b1, a]
    · rw [b r (c + 1) hr (by omega)]
      have i1 := q3 r hr
      have i2 := p3 r hr
      have i3 := (hcol r hr).2.2 c hc
      have i4 : ux.toInt - (-((256 * row + 8 + 16 * r : Nat) - uy.toInt) * (lx.toInt - ux.toInt)) / (ly.toInt - uy.toInt) ≤ 8 + 16 * (c : Int) ↔ ((256 * row + 8 + 16 * r : Nat) - uy.toInt) * (lx.toInt - ux.toInt) ≤ ((8 + 16 * c : Nat) - ux.toInt) * (ly.toInt - uy.toInt) := by
        have j1 : ux.toInt - (-((256 * row + 8 + 16 * r : Nat) - uy.toInt) * (lx.toInt - ux.toInt)) / (ly.toInt - uy.toInt) ≤ 8 + 16 * (c : Int) ↔ ux.toInt - (8 + 16 * c : Nat) ≤ (-((256 * row + 8 + 16 * r : Nat) - uy.toInt) * (lx.toInt - ux.toInt)) / (ly.toInt - uy.toInt) := by omega
        have j2 : (ux.toInt - (8 + 16 * c : Nat)) * (ly.toInt - uy.toInt) = -(((8 + 16 * c : Nat) - ux.toInt) * (ly.toInt - uy.toInt)) := by rw [← Int.neg_mul]; congr 1; omega
        rw [j1, Int.le_ediv_iff_mul_le (by omega), j2, Int.neg_mul]
        omega
      have i5 : (k1 ≤ r ∧ r < k2 ∧ col r < c + 1) ↔ (uy.toInt ≤ (256 * row + 8 + 16 * r : Nat) ∧ ((256 * row + 8 + 16 * r : Nat) : Int) < ly.toInt ∧ ((256 * row + 8 + 16 * r : Nat) - uy.toInt) * (lx.toInt - ux.toInt) ≤ ((8 + 16 * c : Nat) - ux.toInt) * (ly.toInt - uy.toInt)) := by
        rw [← i4, ← i3]
        rw [e1] at i1
        rw [e2] at i2
        constructor
        · intro ⟨a, b, c⟩; exact ⟨by omega, by omega, by omega⟩
        · intro ⟨a, b, c⟩; exact ⟨by omega, by omega, by omega⟩
      simp only [i5]
  · rw [if_neg h]
    have h : ly.toInt ≤ uy.toInt := by
      rw [Int64.lt_iff_toInt_lt, er] at h
      have h : ¬ (0 : Int) < ly.toInt - uy.toInt := h
      omega
    exact ⟨ch, rfl, fun r c hr hc => by rw [if_neg (by omega), Int32.add_zero]⟩
/-- what an edge counts at a point -/
def cE (a : Ed) (px py : Int) : Int32 :=
  if a.2.1.toInt ≤ py ∧ py < a.2.2.2.toInt ∧ (py - a.2.1.toInt) * (a.2.2.1.toInt - a.1.toInt) ≤ (px - a.1.toInt) * (a.2.2.2.toInt - a.2.1.toInt) then 1
  else if a.2.2.2.toInt ≤ py ∧ py < a.2.1.toInt ∧ (px - a.1.toInt) * (a.2.2.2.toInt - a.2.1.toInt) ≤ (py - a.2.1.toInt) * (a.2.2.1.toInt - a.1.toInt) then -1 else 0
def okE (a : Ed) : Prop := okL a.1 ∧ okL a.2.1 ∧ okL a.2.2.1 ∧ okL a.2.2.2
theorem cE_point (x y : Int64) (px py : Int) : cE (x, y, x, y) px py = 0 := by
  unfold cE
  dsimp only
  rw [if_neg (by omega), if_neg (by omega)]
def adds (row : Nat) (f : Int → Int → Int32) (ch ch' : Nat → Int32) : Prop := ∀ r c, r < 16 → c < 128 → psn ch' r (c + 1) = psn ch r (c + 1) + f (8 + 16 * c : Nat) (256 * row + 8 + 16 * r : Nat)
theorem ae_eq {N row : Nat} {x y u v : Int64} {ch : Nat → Int32} (hN : 200 ≤ N) (hrow : row < 8) (h : okE (x, y, u, v)) : ∃ ch', xCover_addEdge N u v (jN (256 * row)) x y ch = some (u, v, ch') ∧ adds row (cE (x, y, u, v)) ch ch' := by
  obtain ⟨h1, h2, h3, h4⟩ := h
  unfold xCover_addEdge xCover_addEdge_b42
  by_cases hv : v ≤ y
  · obtain ⟨ch', a, b⟩ := cr_eq (g := -1) (ch := ch) hN hrow h3 h4 h1 h2
    refine ⟨ch', by rw [if_pos hv, a, z_b1], fun r c hr hc => ?_⟩
    rw [Int64.le_iff_toInt_le] at hv
    rw [b r c hr hc]
    unfold cE
    generalize ((256 * row + 8 + 16 * r : Nat) : Int) = py
    generalize ((8 + 16 * c : Nat) : Int) = px
    congr 1
    rw [if_neg (show ¬ (y.toInt ≤ py ∧ py < v.toInt ∧ (py - y.toInt) * (u.toInt - x.toInt) ≤ (px - x.toInt) * (v.toInt - y.toInt)) by omega)]
    have e : (px - u.toInt) * (y.toInt - v.toInt) - (py - v.toInt) * (x.toInt - u.toInt) = (py - y.toInt) * (u.toInt - x.toInt) - (px - x.toInt) * (v.toInt - y.toInt) := by grind
    have i : (v.toInt ≤ py ∧ py < y.toInt ∧ (py - v.toInt) * (x.toInt - u.toInt) ≤ (px - u.toInt) * (y.toInt - v.toInt)) ↔ (v.toInt ≤ py ∧ py < y.toInt ∧ (px - x.toInt) * (v.toInt - y.toInt) ≤ (py - y.toInt) * (u.toInt - x.toInt)) := by
      constructor
      · intro ⟨a, b, c⟩; exact ⟨a, b, by omega⟩
      · intro ⟨a, b, c⟩; exact ⟨a, b, by omega⟩
    simp only [i]
  · obtain ⟨ch', a, b⟩ := cr_eq (g := 1) (ch := ch) hN hrow h1 h2 h3 h4
    refine ⟨ch', by rw [if_neg hv, a, z_b1], fun r c hr hc => ?_⟩
    rw [Int64.le_iff_toInt_le] at hv
    rw [b r c hr hc]
    unfold cE
    generalize ((256 * row + 8 + 16 * r : Nat) : Int) = py
    generalize ((8 + 16 * c : Nat) : Int) = px
    congr 1
    rw [if_neg (show ¬ (v.toInt ≤ py ∧ py < y.toInt ∧ (px - x.toInt) * (v.toInt - y.toInt) ≤ (py - y.toInt) * (u.toInt - x.toInt)) by omega)]
