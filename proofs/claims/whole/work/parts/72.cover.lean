/-! L3: render. The points of both sides. -/
theorem z_div {a b : Nat} (ha : a < 2 ^ 31) (hb : b < 2 ^ 31) : nI a / nI b = nI (a / b) := by
  have h0 : a / b ≤ a := Nat.div_le_self a b
  have e : (a : Int).tdiv (b : Int) = ((a / b : Nat) : Int) := rfl
  apply Int32.toInt_inj.mp
  rw [Int32.toInt_div, nI_toInt ha, nI_toInt hb, nI_toInt (by omega), e]
  generalize a / b = q at h0 ⊢
  exact Int.bmod_eq_of_le (by omega) (by omega)
theorem odd_and (s : Int32) : (s &&& 1 = 1) ↔ s.toBitVec.toNat % 2 = 1 := by
  rw [← Int32.toBitVec_inj, Int32.toBitVec_and, ← BitVec.toNat_inj, BitVec.toNat_and]
  show s.toBitVec.toNat &&& 1 = 1 ↔ _
  rw [Nat.and_one_is_mod]
theorem odd_mod (s : Int32) : (s - s / 2 * 2 = 0) ↔ ¬ s.toBitVec.toNat % 2 = 1 := by
  have t2 : (2 : Int32).toInt = 2 := rfl
  have h1 := s.toInt_lt
  have h2 := s.le_toInt
  have e : s.toInt = if 2 * s.toBitVec.toNat < 2 ^ 32 then (s.toBitVec.toNat : Int) else (s.toBitVec.toNat : Int) - (2 ^ 32 : Nat) := BitVec.toInt_eq_toNat_cond s.toBitVec
  have d : (s / 2).toInt = if 0 ≤ s.toInt then s.toInt / 2 else -(-s.toInt / 2) := by
    rw [Int32.toInt_div, t2]
    by_cases h : 0 ≤ s.toInt
    · rw [if_pos h, Int.tdiv_eq_ediv_of_nonneg h]
      exact Int.bmod_eq_of_le (by omega) (by omega)
    · have e : s.toInt.tdiv 2 = -(-s.toInt / 2) := by rw [← Int.tdiv_eq_ediv_of_nonneg (by omega), Int.neg_tdiv, Int.neg_neg]
      rw [if_neg h, e]
      exact Int.bmod_eq_of_le (by omega) (by omega)
  have m : (s / 2 * 2).toInt = (if 0 ≤ s.toInt then s.toInt / 2 else -(-s.toInt / 2)) * 2 := by
    rw [i_mul (by rw [d, t2]; split <;> omega) (by rw [d, t2]; split <;> omega), d, t2]
  have r : (s - s / 2 * 2).toInt = s.toInt - (if 0 ≤ s.toInt then s.toInt / 2 else -(-s.toInt / 2)) * 2 := by
    rw [i_sub (by rw [m]; split <;> omega) (by rw [m]; split <;> omega), m]
  have i : s - s / 2 * 2 = 0 ↔ s.toInt - (if 0 ≤ s.toInt then s.toInt / 2 else -(-s.toInt / 2)) * 2 = 0 := ⟨fun h => by rw [← r, h]; rfl, fun h => Int32.toInt_inj.mp (by rw [r, h]; rfl)⟩
  rw [i]
  revert e
  split <;> split <;> omega
theorem fillI {N n : Nat} {v : Int32} (hn : n < 2 ^ 31) (hN : n < N) (c : Nat → Int32) : ∃ c', jArrays_fillI N n v c = some c' ∧ ∀ k, k < n → c' k = v := by
  have go : ∀ f d, d ≤ n → d < f → ∀ c : Nat → Int32, (∀ k, k < n - d → c k = v) → ∃ c', jArrays_fillI_L5 N n f v (nI (n - d)) (nI n) c = some c' ∧ ∀ k, k < n → c' k = v := by
    intro f
    induction f with
    | zero => intro d a b; omega
    | succ f ih =>
      intro d hd hf c hc
      show ∃ c', jArrays_fillI_B5 N n (jArrays_fillI_L5 N n f) v (nI (n - d)) (nI n) c = some c' ∧ _
      unfold jArrays_fillI_B5
      by_cases h : d = 0
      · subst h
        exact ⟨c, by rw [if_pos (by rw [z_le (by omega) (by omega)]; omega)], fun k hk => hc k (by omega)⟩
      · rw [if_neg (by rw [z_le (by omega) (by omega)]; omega), z_kg (by omega) hn, z_clamp (by omega), show nI (n - d) + 1 = nI (n - (d - 1)) from (z_add _ 1).trans (by congr 1; omega)]
        exact ih (d - 1) (by omega) (by omega) _ (fun k hk => by
          by_cases e : k = n - d
          · rw [e, upd_at]
          · rw [upd_ne e]; exact hc k (by omega))
  have := go N n (by omega) hN c (fun k hk => by omega)
  rw [Nat.sub_self] at this
  exact this
theorem psn_0 {ch : Nat → Int32} {r : Nat} (hr : r < 16) (h : ∀ k, k < 2048 → ch k = 0) : ∀ m, m ≤ 128 → psn ch r m = 0 := by
  intro m
  induction m with
  | zero => intro _; rfl
  | succ m ih =>
    intro hm
    show psn ch r m + ch (128 * r + m) = 0
    rw [ih (by omega), h _ (by omega)]; rfl
theorem ms_L {N i j E : Nat} {k96 : Int32 → Int32 → Int32 → Int32 → Int32 → Int32 → Int32 → Int32 → Int32 → (Nat → Int32) → (Nat → Int32) → (Nat → Int32) → (Nat → Int32) → (Nat → Int32) → Option (Int32 × Int32 × Int32 × Int32 × Int32 × (Nat → Int32) × (Nat → Int32) × (Nat → Int32) × (Nat → Int32) × (Nat → Int32))} {k108 : Int32 → Int32 → Int32 → Int32 → Int32 → Int32 → Int32 → Int32 → Int32 → Int32 → (Nat → Int32) → (Nat → Int32) → (Nat → Int32) → (Nat → Int32) → (Nat → Int32) → Option (Int32 × Int32 × Int32 × Int32 × Int32 × (Nat → Int32) × (Nat → Int32) × (Nat → Int32) × (Nat → Int32) × (Nat → Int32))} {x1 x2 x3 x4 fa wd hg : Int32} {fx fy tx ty pt : Nat → Int32} (hi : i < 128) (hj : j < 128) (hE : E ≤ 2700) : ∀ l : List Ed, ∀ e n s, l.length < n → e + l.length = E → (∀ a ∈ l, okE a) → aE l e fx fy tx ty →
    m_render_L123 N k96 k108 n x1 x2 x3 x4 (nI j) (nI i) s (nI e) fa (nI E) wd hg fx fy tx ty pt = m_render_B123 N k96 k108 (m_render_L123 N k96 k108 0) x1 x2 x3 x4 (nI j) (nI i) (s + sumE l (8 + 16 * i : Nat) (8 + 16 * j : Nat)) (nI E) fa (nI E) wd hg fx fy tx ty pt := by
  intro l
  have hEE : nI E ≤ nI E := by rw [z_le (by omega) (by omega)]; omega
  induction l with
  | nil =>
    intro e n s hn he hok hae
    obtain ⟨n, rfl⟩ : ∃ n', n = n' + 1 := ⟨n - 1, by have : 0 < n := hn; omega⟩
    have he : e = E := he
    subst he
    show m_render_B123 N k96 k108 (m_render_L123 N k96 k108 n) x1 x2 x3 x4 (nI j) (nI i) s (nI e) fa (nI e) wd hg fx fy tx ty pt = m_render_B123 N k96 k108 (m_render_L123 N k96 k108 0) x1 x2 x3 x4 (nI j) (nI i) (s + 0) (nI e) fa (nI e) wd hg fx fy tx ty pt
    unfold m_render_B123
    rw [if_pos hEE, if_pos hEE, Int32.add_zero]
  | cons a l ih =>
    intro e n s hn he hok hae
    have hn : l.length + 1 < n := hn
    have he : e + (l.length + 1) = E := he
    obtain ⟨n, rfl⟩ : ∃ n', n = n' + 1 := ⟨n - 1, by omega⟩
    obtain ⟨a1, a2, a3, a4, a5⟩ := hae
    have := ih (e + 1) n (s + cE a (8 + 16 * i : Nat) (8 + 16 * j : Nat)) (by omega) (by omega) (fun b hb => hok b (List.mem_cons_of_mem _ hb)) a5
    rw [Int32.add_assoc] at this
    refine Eq.trans ?_ this
    show m_render_B123 N k96 k108 (m_render_L123 N k96 k108 n) x1 x2 x3 x4 (nI j) (nI i) s (nI e) fa (nI E) wd hg fx fy tx ty pt = _
    unfold m_render_B123
    rw [if_neg (by rw [z_le (by omega) (by omega)]; omega), show (16 : Int32) * nI i = nI (16 * i) from z_mul 16 i, show (8 : Int32) + nI (16 * i) = nI (8 + 16 * i) from z_add 8 _, show (16 : Int32) * nI j = nI (16 * j) from z_mul 16 j, show (8 : Int32) + nI (16 * j) = nI (8 + 16 * j) from z_add 8 _, mc_eq (by omega) (hok a List.mem_cons_self) hi hj a1 a2 a3 a4, z_b1, show nI e + 1 = nI (e + 1) from z_add e 1]
def ag64 (sq pt : Nat → Int32) : Prop := ∀ k, k < 64 → sq k = pt k
theorem ag64_upd {sq pt : Nat → Int32} {i : Nat} (h : ag64 sq pt) (hi : i < 64) : ag64 (upd sq i (sq i + 1)) (upd pt i (pt i + 1)) := fun k hk => by
  by_cases e : k = i
  · rw [e, upd_at, upd_at, h i hi]
  · rw [upd_ne e, upd_ne e, h k hk]
theorem li_L {N row r w E : Nat} {l : List Ed} {k5 : Int32 → Int32 → Int32 → Int32 → Int32 → (Nat → Int32) → (Nat → Int32) → Option (Int32 × (Nat → Int32))} {k96 : Int32 → Int32 → Int32 → Int32 → Int32 → Int32 → Int32 → Int32 → Int32 → (Nat → Int32) → (Nat → Int32) → (Nat → Int32) → (Nat → Int32) → (Nat → Int32) → Option (Int32 × Int32 × Int32 × Int32 × Int32 × (Nat → Int32) × (Nat → Int32) × (Nat → Int32) × (Nat → Int32) × (Nat → Int32))} {rule x2 b fa wd hg : Int32} {ch fx fy tx ty : Nat → Int32} (hN : 5000 ≤ N) (hrow : row < 8) (hr : r < 16) (hw : w ≤ 8) (hl : l.length = E) (hE : E ≤ 2700) (hok : ∀ a ∈ l, okE a) (hae : aE l 0 fx fy tx ty)
    (hS : ∀ c, c < 128 → psn ch r (c + 1) = sumE l (8 + 16 * c : Nat) (256 * row + 8 + 16 * r : Nat)) :
    ∀ n d, d ≤ 16 * w → d < n → ∀ t sq pt, ag64 sq pt → ∃ t' sq' pt', ag64 sq' pt' ∧
      xCover_countPoints_L18 N k5 n (nI row) rule t (nI r) (psn ch r (16 * w - d)) (nI (16 * w - d)) (nI w) ch sq = k5 (nI row) rule t' (nI (r + 1)) (nI w) ch sq' ∧
      m_render_L108 N k96 n (nI w) x2 rule (b + t) (nI (16 * row + r)) (nI (16 * w - d)) fa (nI E) wd hg fx fy tx ty pt = k96 (nI w) x2 rule (b + t') (nI (16 * row + r + 1)) fa (nI E) wd hg fx fy tx ty pt' := by
  have w16 : nI w * (16 : Int32) = nI (16 * w) := (z_mul w 16).trans (by rw [Nat.mul_comm])
  have w16' : (16 : Int32) * nI w = nI (16 * w) := z_mul 16 w
  have er : nI r + 1 = nI (r + 1) := z_add r 1
  have ej : nI (16 * row + r) + 1 = nI (16 * row + r + 1) := z_add _ 1
  intro n
  induction n with
  | zero => intro d h1 h2; omega
  | succ n ih =>
    intro d h1 h2 t sq pt hag
    show ∃ t' sq' pt', _ ∧ xCover_countPoints_B18 N k5 (xCover_countPoints_L18 N k5 n) (nI row) rule t (nI r) (psn ch r (16 * w - d)) (nI (16 * w - d)) (nI w) ch sq = _ ∧ m_render_B108 N k96 (m_render_L108 N k96 n) (nI w) x2 rule (b + t) (nI (16 * row + r)) (nI (16 * w - d)) fa (nI E) wd hg fx fy tx ty pt = _
    unfold xCover_countPoints_B18 m_render_B108
    rw [w16, w16', er, ej]
    cases d with
    | zero =>
      have h9 : nI (16 * w) ≤ nI (16 * w - 0) := by rw [z_le (by omega) (by omega)]; omega
      exact ⟨t, sq, pt, hag, by rw [if_pos h9], by rw [if_pos h9]⟩
    | succ d =>
      have e1 : 16 * w - (d + 1) + 1 = 16 * w - d := by omega
      have hi : 16 * w - (d + 1) < 128 := by omega
      have h9 : ¬ nI (16 * w) ≤ nI (16 * w - (d + 1)) := by rw [z_le (by omega) (by omega)]; omega
      have IH := ih d (by omega) (by omega)
      rw [← e1] at IH
      rw [if_neg h9, if_neg h9]
      clear ih h9
      generalize 16 * w - (d + 1) = i at *
      have e2 : nI i + 1 = nI (i + 1) := z_add i 1
      rw [if_neg (show ¬ (128 : Int32) ≤ nI i by rw [show (128 : Int32) = nI 128 from rfl, z_le (by omega) (by omega)]; omega), show nI r * 128 = nI (r * 128) from z_mul r 128, z_add, z_kg (by omega) (by omega), z_clamp (by omega), show r * 128 + i = 128 * r + i by omega, e2]
      have eS : psn ch r i + ch (128 * r + i) = sumE l (8 + 16 * i : Nat) (256 * row + 8 + 16 * r : Nat) := hS i hi
      have eP : psn ch r (i + 1) = sumE l (8 + 16 * i : Nat) (256 * row + 8 + 16 * r : Nat) := hS i hi
      rw [eS]
      have mm := ms_L (N := N) (i := i) (j := 16 * row + r) (E := E) (k96 := k96) (k108 := m_render_L108 N k96 n) (x1 := nI w) (x2 := x2) (x3 := rule) (x4 := b + t) (fa := fa) (wd := wd) (hg := hg) (pt := pt) hi (by omega) hE l 0 N 0 (by omega) (by omega) hok hae
      rw [Int32.zero_add, show 8 + 16 * (16 * row + r) = 256 * row + 8 + 16 * r by omega] at mm
      rw [show m_render_L123 N k96 (m_render_L108 N k96 n) N (nI w) x2 rule (b + t) (nI (16 * row + r)) (nI i) 0 0 fa (nI E) wd hg fx fy tx ty pt = _ from mm]
      unfold m_render_B123
      rw [if_pos (show nI E ≤ nI E by rw [z_le (by omega) (by omega)]; omega), e2]
      rw [eP] at IH
      generalize sumE l (8 + 16 * i : Nat) (256 * row + 8 + 16 * r : Nat) = S at *
      have skip := IH t sq pt hag
      have e6 : nI i / 16 = nI (i / 16) := z_div (b := 16) (by omega) (by omega)
      have ix : nI row * 8 + nI i / 16 = nI (8 * row + i / 16) := by rw [e6, show nI row * 8 = nI (row * 8) from z_mul row 8, z_add]; congr 1; omega
      have iy : (8 : Int32) * (nI (16 * row + r) / 16) + nI i / 16 = nI (8 * row + i / 16) := by
        rw [e6, show nI (16 * row + r) / 16 = nI ((16 * row + r) / 16) from z_div (b := 16) (by omega) (by omega), show (16 * row + r) / 16 = row by omega, show (8 : Int32) * nI row = nI (8 * row) from z_mul 8 row, z_add]
      have go : ∃ t' sq' pt', ag64 sq' pt' ∧ xCover_countPoints_b76 N k5 (xCover_countPoints_L18 N k5 n) (nI row) rule t (nI r) S (nI i) (nI w) ch sq = k5 (nI row) rule t' (nI (r + 1)) (nI w) ch sq' ∧ m_render_b185 N k96 (m_render_L108 N k96 n) (nI w) x2 rule (b + t) (nI (16 * row + r)) (nI i) fa (nI E) wd hg fx fy tx ty pt = k96 (nI w) x2 rule (b + t') (nI (16 * row + r + 1)) fa (nI E) wd hg fx fy tx ty pt' := by
        obtain ⟨t', sq', pt', c1, c2, c3⟩ := IH (t + 1) (upd sq (8 * row + i / 16) (sq (8 * row + i / 16) + 1)) (upd pt (8 * row + i / 16) (pt (8 * row + i / 16) + 1)) (ag64_upd hag (by omega))
        refine ⟨t', sq', pt', c1, ?_, ?_⟩
        · unfold xCover_countPoints_b76
          rw [ix, z_kg (by omega) (by omega), z_kg (by omega) (by omega), z_clamp (by omega), e2]
          exact c2
        · unfold m_render_b185
          rw [iy, z_kg (by omega) (by omega), z_kg (by omega) (by omega), z_clamp (by omega), e2, Int32.add_assoc]
          exact c3
      by_cases hru : rule = 0
      · simp only [if_pos hru]
        by_cases hs : S = 0
        · simp only [if_pos hs]; exact skip
        · simp only [if_neg hs]; exact go
      · simp only [if_neg hru]
        by_cases hs : S.toBitVec.toNat % 2 = 1
        · rw [if_neg (fun z => (odd_mod S).mp z hs), if_pos ((odd_and S).mpr hs)]; exact go
        · rw [if_pos ((odd_mod S).mpr hs), if_neg (fun z => hs ((odd_and S).mp z))]; exact skip
theorem rw_L {N row w h E : Nat} {l : List Ed} {rule b fa wd hg : Int32} {ch fx fy tx ty : Nat → Int32} (hN : 5000 ≤ N) (hrow : row < h) (hh : h ≤ 8) (hw : w ≤ 8) (hl : l.length = E) (hE : E ≤ 2700) (hok : ∀ a ∈ l, okE a) (hae : aE l 0 fx fy tx ty)
    (hS : ∀ r c, r < 16 → c < 128 → psn ch r (c + 1) = sumE l (8 + 16 * c : Nat) (256 * row + 8 + 16 * r : Nat)) :
    ∀ d, d ≤ 16 → ∀ n m t sq pt, d < n → ag64 sq pt → ∃ t' sq' pt', ag64 sq' pt' ∧
      xCover_countPoints_L5 N n (nI row) rule t (nI (16 - d)) (nI w) ch sq = some (t', sq') ∧
      m_render_L96 N (m + d) (nI w) (nI h) rule (b + t) (nI (16 * row + (16 - d))) fa (nI E) wd hg fx fy tx ty pt = m_render_L96 N m (nI w) (nI h) rule (b + t') (nI (16 * row + 16)) fa (nI E) wd hg fx fy tx ty pt' := by
  intro d
  induction d with
  | zero =>
    intro _ n m t sq pt hn hag
    obtain ⟨n, rfl⟩ : ∃ n', n = n' + 1 := ⟨n - 1, by omega⟩
    exact ⟨t, sq, pt, hag, rfl, rfl⟩
  | succ d ih =>
    intro hd n m t sq pt hn hag
    obtain ⟨n, rfl⟩ : ∃ n', n = n' + 1 := ⟨n - 1, by omega⟩
    obtain ⟨t1, sq1, pt1, a1, a2, a3⟩ := li_L (N := N) (row := row) (r := 16 - (d + 1)) (w := w) (k5 := xCover_countPoints_L5 N n) (k96 := m_render_L96 N (m + d)) (rule := rule) (x2 := nI h) (b := b) (fa := fa) (wd := wd) (hg := hg) hN (by omega) (by omega) hw hl hE hok hae (fun c hc => hS _ c (by omega) hc) N (16 * w) (by omega) (by omega) t sq pt hag
    rw [Nat.sub_self] at a2 a3
    obtain ⟨t', sq', pt', c1, c2, c3⟩ := ih (by omega) n m t1 sq1 pt1 (by omega) a1
    rw [show 16 - (d + 1) + 1 = 16 - d by omega] at a2
    rw [show 16 * row + (16 - (d + 1)) + 1 = 16 * row + (16 - d) by omega] at a3
    refine ⟨t', sq', pt', c1, ?_, ?_⟩
    · show xCover_countPoints_B5 N (xCover_countPoints_L5 N n) (nI row) rule t (nI (16 - (d + 1))) (nI w) ch sq = _
      unfold xCover_countPoints_B5
      rw [if_neg (show ¬ (16 : Int32) ≤ nI (16 - (d + 1)) by rw [show (16 : Int32) = nI 16 from rfl, z_le (by omega) (by omega)]; omega)]
      exact a2.trans c2
    · show m_render_B96 N (m_render_L96 N (m + d)) (nI w) (nI h) rule (b + t) (nI (16 * row + (16 - (d + 1)))) fa (nI E) wd hg fx fy tx ty pt = _
      unfold m_render_B96
      rw [if_neg (show ¬ (16 : Int32) * nI h ≤ nI (16 * row + (16 - (d + 1))) by rw [show (16 : Int32) * nI h = nI (16 * h) from z_mul 16 h, z_le (by omega) (by omega)]; omega)]
      exact a3.trans c3
theorem sq_L {N w h cn E : Nat} {rule fa wd hg : Int32} {xk xn yk yn fx fy tx ty : Nat → Int32} (hN : 5000 ≤ N) (hh : h ≤ 8) (hw : w ≤ 8) (hD : rD cn xk xn yk yn) (hM : cn = 0 ∨ yk 0 = 0) (hl : (edA cn yk yn).length = E) (hE : E ≤ 2700) (hae : aE (edA cn yk yn) 0 fx fy tx ty) :
    ∀ d, d ≤ h → ∀ n m T top x y sq ch pt, d < n → okL x → okL y → ag64 sq pt → ∃ T' top' x' y' sq' ch' pt', ag64 sq' pt' ∧ okL x' ∧ okL y' ∧
      xCover_coverSquares_L24 N n rule T (nI (h - d)) (nI w) (nI h) top x y x y sq ch (nI cn) xk xn = some (T', nI w, nI h, top', x', y', x', y', sq', ch') ∧
      m_render_L96 N (m + 1 + 16 * d) (nI w) (nI h) rule T (nI (16 * (h - d))) fa (nI E) wd hg fx fy tx ty pt = some (T', fa, nI E, wd, hg, fx, fy, tx, ty, pt') := by
  have hok := edA_ok hD
  intro d
  induction d with
  | zero =>
    intro _ n m T top x y sq ch pt hn ox oy hag
    obtain ⟨n, rfl⟩ : ∃ n', n = n' + 1 := ⟨n - 1, by omega⟩
    refine ⟨T, top, x, y, sq, ch, pt, hag, ox, oy, ?_, ?_⟩
    · show xCover_coverSquares_B24 N (xCover_coverSquares_L24 N n) rule T (nI (h - 0)) (nI w) (nI h) top x y x y sq ch (nI cn) xk xn = _
      unfold xCover_coverSquares_B24
      rw [if_pos (by rw [z_le (by omega) (by omega)]; omega)]
    · show m_render_B96 N (m_render_L96 N m) (nI w) (nI h) rule T (nI (16 * (h - 0))) fa (nI E) wd hg fx fy tx ty pt = _
      unfold m_render_B96
      rw [if_pos (by rw [show (16 : Int32) * nI h = nI (16 * h) from z_mul 16 h, z_le (by omega) (by omega)]; omega)]
  | succ d ih =>
    intro hd n m T top x y sq ch pt hn ox oy hag
    obtain ⟨n, rfl⟩ : ∃ n', n = n' + 1 := ⟨n - 1, by omega⟩
    obtain ⟨ch0, f1, f2⟩ := fillI (N := N) (n := 2048) (v := 0) (by omega) (by omega) ch
    obtain ⟨x', y', ch1, g1, g2, g3, g4⟩ := ad_eq (N := N) (row := h - (d + 1)) (ch := ch0) (by omega) (by omega) hD hM ox oy
    have hS : ∀ r c, r < 16 → c < 128 → psn ch1 r (c + 1) = sumE (edA cn yk yn) (8 + 16 * c : Nat) (256 * (h - (d + 1)) + 8 + 16 * r : Nat) := fun r c hr hc => by
      rw [g4 r c hr hc, psn_0 hr f2 _ (by omega), Int32.zero_add]
    obtain ⟨t', sq1, pt1, a1, a2, a3⟩ := rw_L (N := N) (row := h - (d + 1)) (w := w) (h := h) (rule := rule) (b := T) (fa := fa) (wd := wd) (hg := hg) hN (by omega) hh hw hl hE hok hae hS 16 (by omega) N (m + 1 + 16 * d) 0 sq pt (by omega) hag
    obtain ⟨T', top', x2, y2, sq', ch', pt', c1, c2, c3, c4, c5⟩ := ih (by omega) n m (T + t') (jN (256 * (h - (d + 1)))) x' y' sq1 ch1 pt1 (by omega) g2 g3 a1
    refine ⟨T', top', x2, y2, sq', ch', pt', c1, c2, c3, ?_, ?_⟩
    · show xCover_coverSquares_B24 N (xCover_coverSquares_L24 N n) rule T (nI (h - (d + 1))) (nI w) (nI h) top x y x y sq ch (nI cn) xk xn = _
      unfold xCover_coverSquares_B24
      have et : Int32.toInt64 (nI (h - (d + 1))) * 256 = jN (256 * (h - (d + 1))) := by
        rw [jN_up (by omega), show (256 : Int64) = jN 256 from rfl, jN_mul, Nat.mul_comm]
      rw [if_neg (by rw [z_le (by omega) (by omega)]; omega), if_neg (show ¬ (8 : Int32) ≤ nI (h - (d + 1)) by rw [show (8 : Int32) = nI 8 from rfl, z_le (by omega) (by omega)]; omega), et, f1, z_b1, g1, z_b5]
      unfold xCover_countPoints
      rw [show xCover_countPoints_L5 N N (nI (h - (d + 1))) rule 0 0 (nI w) ch1 sq = _ from a2, z_b2, show nI (h - (d + 1)) + 1 = nI (h - d) from (z_add _ 1).trans (by congr 1; omega)]
      exact c4
    · rw [show m + 1 + 16 * (d + 1) = m + 1 + 16 * d + 16 by omega]
      rw [Int32.add_zero] at a3
      rw [show 16 * (h - (d + 1)) + (16 - 16) = 16 * (h - (d + 1)) by omega, show 16 * (h - (d + 1)) + 16 = 16 * (h - d) by omega] at a3
      exact a3.trans c5
theorem z69 {N : Nat} {x1 x2 x3 fa ed wd hg : Int32} {fx fy tx ty : Nat → Int32} : ∀ n d, d ≤ 64 → d < n → ∀ pt : Nat → Int32, (∀ k, k < 64 - d → pt k = 0) → ∃ pt', (∀ k, k < 64 → pt' k = 0) ∧ m_render_L69 N n x1 x2 x3 (nI (64 - d)) fa ed wd hg fx fy tx ty pt = m_render_L96 N N x1 x2 x3 0 0 fa ed wd hg fx fy tx ty pt' := by
  intro n
  induction n with
  | zero => intro d a b; omega
  | succ n ih =>
    intro d hd hn pt hp
    show ∃ pt', _ ∧ m_render_B69 N (m_render_L69 N n) x1 x2 x3 (nI (64 - d)) fa ed wd hg fx fy tx ty pt = _
    unfold m_render_B69
    by_cases h : d = 0
    · subst h
      exact ⟨pt, fun k hk => hp k (by omega), by rw [if_pos (by decide)]⟩
    · rw [if_neg (show ¬ (64 : Int32) ≤ nI (64 - d) by rw [show (64 : Int32) = nI 64 from rfl, z_le (by omega) (by omega)]; omega), z_kg (by omega) (by omega), z_clamp (by omega), show nI (64 - d) + 1 = nI (64 - (d - 1)) from (z_add _ 1).trans (by congr 1; omega)]
      exact ih (d - 1) (by omega) (by omega) _ (fun k hk => by
        by_cases e : k = 64 - d
        · rw [e, upd_at]
        · rw [upd_ne e]; exact hp k (by omega))
theorem e_render {N cn w h : Nat} {x1 x2 x3 ed : Int32} {top x y : Int64} {sq ch xk xn yk yn fx fy tx ty pt : Nat → Int32} {o : Nat → Int64} (hN : 5000 ≤ N) (hD : rD cn xk xn yk yn) (hM : cn = 0 ∨ yk 0 = 0) (hw : w ≤ 8) (hh : h ≤ 8) (ox : okL x) (oy : okL y) (hag : ag64 sq pt) :
    ∃ r b w' h' top' x' y' sq' ch' o' ed' fx' fy' tx' ty' pt', lPLaw_render N x1 x2 x3 (nI w) (nI h) top x y x y sq ch (nI cn) xk xn o = some (r, nI w', nI h', top', x', y', x', y', sq', ch', o') ∧ m_render N x1 x2 x3 (nI cn) ed (nI w) (nI h) yk fx fy tx ty yn pt = some (b, r, ed', nI w', nI h', fx', fy', tx', ty', pt') ∧ (r = 0 → o' 0 = Int32.toInt64 b) ∧ w' ≤ 8 ∧ h' ≤ 8 ∧ okL x' ∧ okL y' ∧ ag64 sq' pt' := by
  have bad : xP_render N x1 x2 x3 (nI w) (nI h) top x y x y sq ch (nI cn) xk xn = some (1, 0, nI w, nI h, top, x, y, x, y, sq, ch) → m_render N x1 x2 x3 (nI cn) ed (nI w) (nI h) yk fx fy tx ty yn pt = some (0, 1, ed, nI w, nI h, fx, fy, tx, ty, pt) → ∃ r b w' h' top' x' y' sq' ch' o' ed' fx' fy' tx' ty' pt', lPLaw_render N x1 x2 x3 (nI w) (nI h) top x y x y sq ch (nI cn) xk xn o = some (r, nI w', nI h', top', x', y', x', y', sq', ch', o') ∧ m_render N x1 x2 x3 (nI cn) ed (nI w) (nI h) yk fx fy tx ty yn pt = some (b, r, ed', nI w', nI h', fx', fy', tx', ty', pt') ∧ (r = 0 → o' 0 = Int32.toInt64 b) ∧ w' ≤ 8 ∧ h' ≤ 8 ∧ okL x' ∧ okL y' ∧ ag64 sq' pt' := fun e1 e2 =>
    ⟨1, 0, w, h, top, x, y, sq, ch, o, ed, fx, fy, tx, ty, pt, by unfold lPLaw_render; rw [e1]; rfl, e2, fun h => absurd h (by decide), hw, hh, ox, oy, hag⟩
  by_cases a1 : x1.toInt < 1
  · refine bad ?_ ?_
    · unfold xP_render; rw [if_pos (by rw [i_lt]; exact a1)]; rfl
    · unfold m_render; rw [m_in_f (a := 1) (b := 8) (Or.inl a1)]; rfl
  by_cases a2 : 8 < x1.toInt
  · refine bad ?_ ?_
    · unfold xP_render; rw [if_neg (by rw [i_lt]; exact a1), if_pos (by rw [i_lt]; exact a2)]; rfl
    · unfold m_render; rw [m_in_f (a := 1) (b := 8) (Or.inr a2)]; rfl
  by_cases b1 : x2.toInt < 1
  · refine bad ?_ ?_
    · unfold xP_render; rw [if_neg (by rw [i_lt]; exact a1), if_neg (by rw [i_lt]; exact a2), if_pos (by rw [i_lt]; exact b1)]; rfl
    · unfold m_render; rw [m_in_t (a := 1) (b := 8) (Int.not_lt.mp a1) (Int.not_lt.mp a2), m_in_f (a := 1) (b := 8) (Or.inl b1)]; rfl
  by_cases b2 : x2.toInt ≤ 8
  case neg =>
    refine bad ?_ ?_
    · unfold xP_render; rw [if_neg (by rw [i_lt]; exact a1), if_neg (by rw [i_lt]; exact a2), if_neg (by rw [i_lt]; exact b1), if_neg (by rw [i_le]; exact b2)]; rfl
    · unfold m_render; rw [m_in_t (a := 1) (b := 8) (Int.not_lt.mp a1) (Int.not_lt.mp a2), m_in_f (a := 1) (b := 8) (Or.inr (Int.not_le.mp b2))]; rfl
  have hx : xP_render N x1 x2 x3 (nI w) (nI h) top x y x y sq ch (nI cn) xk xn = if x3 = (0 : Int32) then xP_render_b51 N x1 x2 x3 top x y x y sq ch (nI cn) xk xn else if x3 = (1 : Int32) then xP_render_b51 N x1 x2 x3 top x y x y sq ch (nI cn) xk xn else some (1, 0, nI w, nI h, top, x, y, x, y, sq, ch) := by
    unfold xP_render; rw [if_neg (by rw [i_lt]; exact a1), if_neg (by rw [i_lt]; exact a2), if_neg (by rw [i_lt]; exact b1), if_pos (by rw [i_le]; exact b2)]
  by_cases c : x3 = 0 ∨ x3 = 1
  case neg =>
    refine bad ?_ ?_
    · rw [hx, if_neg (fun z => c (Or.inl z)), if_neg (fun z => c (Or.inr z))]
    · have h3 : x3.toInt < 0 ∨ 1 < x3.toInt := by
        by_cases q : x3.toInt < 0
        · exact Or.inl q
        · refine Or.inr (Int.not_le.mp fun q2 => c ?_)
          have : x3.toInt = 0 ∨ x3.toInt = 1 := by omega
          rcases this with e | e
          · exact Or.inl (Int32.toInt_inj.mp e)
          · exact Or.inr (Int32.toInt_inj.mp e)
      unfold m_render; rw [m_in_t (a := 1) (b := 8) (Int.not_lt.mp a1) (Int.not_lt.mp a2), m_in_t (a := 1) (b := 8) (Int.not_lt.mp b1) b2, m_in_f (a := 0) (b := 1) h3]; rfl
  obtain ⟨W, hW, rfl⟩ : ∃ W, W ≤ 8 ∧ x1 = nI W := ⟨x1.toInt.toNat, by omega, Int32.toInt_inj.mp (by rw [nI_toInt (by omega)]; omega)⟩
  obtain ⟨H, hH, rfl⟩ : ∃ H, H ≤ 8 ∧ x2 = nI H := ⟨x2.toInt.toNat, by omega, Int32.toInt_inj.mp (by rw [nI_toInt (by omega)]; omega)⟩
  have hE := edA_len (yk := yk) (yn := yn) hD.1
  obtain ⟨sq0, f1, f2⟩ := fillI (N := N) (n := 64) (v := 0) (by omega) (by omega) sq
  obtain ⟨pt0, p1, p2⟩ := z69 (N := N) (x1 := nI W) (x2 := nI H) (x3 := x3) (fa := 0) (ed := nI (0 + (edA cn yk yn).length)) (wd := nI W) (hg := nI H) (fx := pE eX (edA cn yk yn) 0 fx) (fy := pE eY (edA cn yk yn) 0 fy) (tx := pE eU (edA cn yk yn) 0 tx) (ty := pE eV (edA cn yk yn) 0 ty) N 64 (by omega) (by omega) pt (fun k hk => by omega)
  obtain ⟨T', top', x', y', sq', ch', pt', g1, g2, g3, g4, g5⟩ := sq_L (N := N) (w := W) (h := H) (rule := x3) (fa := 0) (wd := nI W) (hg := nI H) (fx := pE eX (edA cn yk yn) 0 fx) (fy := pE eY (edA cn yk yn) 0 fy) (tx := pE eU (edA cn yk yn) 0 tx) (ty := pE eV (edA cn yk yn) 0 ty) hN hH hW hD hM (E := 0 + (edA cn yk yn).length) (by omega) (by omega) (aE_pE _ 0 fx fy tx ty) H (by omega) N (N - 1 - 16 * H) 0 top x y sq0 ch pt0 (by omega) ox oy (fun k hk => by rw [f2 k hk, p1 k hk])
  rw [Nat.sub_self] at g4 g5
  rw [show N - 1 - 16 * H + 1 + 16 * H = N by omega] at g5
  refine ⟨0, T', W, H, top', x', y', sq', ch', vp_updL o 0 (Int32.toInt64 T'), nI (0 + (edA cn yk yn).length), pE eX (edA cn yk yn) 0 fx, pE eY (edA cn yk yn) 0 fy, pE eU (edA cn yk yn) 0 tx, pE eV (edA cn yk yn) 0 ty, pt', ?_, ?_, fun _ => rfl, hW, hH, g2, g3, g1⟩
  · have e : xP_render N (nI W) (nI H) x3 (nI w) (nI h) top x y x y sq ch (nI cn) xk xn = some (0, T', nI W, nI H, top', x', y', x', y', sq', ch') := by
      have e51 : xP_render_b51 N (nI W) (nI H) x3 top x y x y sq ch (nI cn) xk xn = some (0, T', nI W, nI H, top', x', y', x', y', sq', ch') := by
        unfold xP_render_b51 xCover_coverSquares
        rw [f1, z_b1, show xCover_coverSquares_L24 N N x3 0 0 (nI W) (nI H) top x y x y sq0 ch (nI cn) xk xn = _ from g4]
        rfl
      rw [hx, e51]
      rcases c with c | c
      · rw [if_pos c]
      · rw [if_pos c, ite_self]
    unfold lPLaw_render
    rw [e]
    rfl
  · have e40 : m_render_b40 N (nI W) (nI H) x3 0 (nI cn) ed (nI w) (nI h) yk fx fy tx ty yn pt = some (T', 0, nI (0 + (edA cn yk yn).length), nI W, nI H, pE eX (edA cn yk yn) 0 fx, pE eY (edA cn yk yn) 0 fy, pE eU (edA cn yk yn) 0 tx, pE eV (edA cn yk yn) 0 ty, pt') := by
      unfold m_render_b40
      rw [if_pos (by decide), me_A (by omega) hD.1 (fun k hk => (hD.2 k hk).1)]
      refine Eq.trans ?_ g5
      exact p2
    unfold m_render
    rw [m_in_t (a := 1) (b := 8) (Int.not_lt.mp a1) (Int.not_lt.mp a2), z_b1, if_neg (by decide), m_in_t (a := 1) (b := 8) (Int.not_lt.mp b1) b2, z_b1, if_neg (by decide)]
    rw [m_in_t (a := 0) (b := 1) (by rcases c with rfl | rfl <;> decide) (by rcases c with rfl | rfl <;> decide), z_b1, if_neg (by decide)]
    exact e40
