/-! L3: read. One command of both sides. -/
def ev (a b : Int64) (i : Nat) : Int64 := if i % 2 = 0 then a else b
theorem tp_eq {N : Nat} {sm : Int32} {x y OX OY : Int64} {pts nums : Nat → Int64} (hN : 5000 ≤ N) (hX : OX = if sm = 0 then 0 else x) (hY : OY = if sm = 0 then 0 else y) : ∃ P, xPen_takePoints N sm x y pts nums = some P ∧ ∀ i, i < 6 → P i = ev OX OY i + nums i := by
  have go : ∀ f j, j ≤ 6 → 6 < f + j → ∀ pts : Nat → Int64, (∀ i, i < j → pts i = ev OX OY i + nums i) → ∃ P, xPen_takePoints_L2 N f sm (nI j) x y pts nums = some P ∧ ∀ i, i < 6 → P i = ev OX OY i + nums i := by
    intro f
    induction f with
    | zero => intro j a b; omega
    | succ f ih =>
      intro j hj hf pts hp
      show ∃ P, xPen_takePoints_B2 N (xPen_takePoints_L2 N f) sm (nI j) x y pts nums = some P ∧ _
      unfold xPen_takePoints_B2
      by_cases h : j = 6
      · subst h
        exact ⟨pts, by rw [if_pos (by decide)], hp⟩
      · have h6 : ¬ (6 : Int32) ≤ nI j := by rw [show (6 : Int32) = nI 6 from rfl, z_le (by omega) (by omega)]; omega
        have ej : nI j - nI j / 2 * 2 = nI (j % 2) := by
          rw [show nI j / 2 = nI (j / 2) from z_div (b := 2) (by omega) (by omega), show nI (j / 2) * 2 = nI (j / 2 * 2) from z_mul _ 2, z_sub (by omega)]; congr 1; omega
        rw [if_neg h6, if_neg h6, ej]
        have step : ∀ s0, (if sm = 0 then (0 : Int64) else s0) = ev OX OY j → xPen_takePoints_b31 N (xPen_takePoints_L2 N f) sm (nI j) s0 x y pts nums = xPen_takePoints_L2 N f sm (nI (j + 1)) x y (vp_updL pts j (ev OX OY j + nums j)) nums := fun s0 h0 => by
          unfold xPen_takePoints_b31 xPen_takePoints_b54
          rw [z_kg (by omega) (by omega), z_kg (by omega) (by omega), z_kg (by omega) (by omega), z_clamp (by omega), show nI j + 1 = nI (j + 1) from z_add j 1, ← h0]
          by_cases hs : sm = 0
          · simp only [if_pos hs, Int64.zero_add]
          · simp only [if_neg hs]
            exact z_kg (by omega) (by omega)
        have next := ih (j + 1) (by omega) (by omega) (vp_updL pts j (ev OX OY j + nums j)) (fun i hi => by
          by_cases q : i = j
          · rw [q, updL_at]
          · rw [updL_ne q]; exact hp i (by omega))
        by_cases he : j % 2 = 0
        · rw [if_pos (by rw [he]; rfl), step x (by unfold ev; rw [if_pos he, hX])]
          exact next
        · rw [if_neg (by rw [show j % 2 = 1 by omega]; decide), step y (by unfold ev; rw [if_neg he, hY])]
          exact next
  exact go N 0 (by omega) (by omega) pts (fun i hi => by omega)
theorem pf_eq {N : Nat} {t : Int32} {x y cX cY : Int64} {P : Nat → Int64} (hN : 5000 ≤ N) : ∃ Q, xPen_putTurnedFirst N t x y cX cY P = some Q ∧ Q 0 = (if t = 0 then x else 2 * x - cX) ∧ Q 1 = (if t = 0 then y else 2 * y - cY) ∧ Q 2 = P 0 ∧ Q 3 = P 1 ∧ Q 4 = P 2 ∧ Q 5 = P 3 := by
  obtain ⟨f, hf⟩ : ∃ f, N = f + 5 := ⟨N - 5, by omega⟩
  have run : xPen_putTurnedFirst_L2 N (f + 5) t 5 x y cX cY P = (if t = 0 then xPen_putTurnedFirst_b56 N t 0 x y cY (vp_updL (vp_updL (vp_updL (vp_updL P 5 (P 3)) 4 (P 2)) 3 (P 1)) 2 (P 0)) else xPen_putTurnedFirst_b56 N t 0 (2 * x - cX) y cY (vp_updL (vp_updL (vp_updL (vp_updL P 5 (P 3)) 4 (P 2)) 3 (P 1)) 2 (P 0))) := rfl
  unfold xPen_putTurnedFirst
  rw [← hf] at run
  rw [run]
  by_cases h : t = 0
  · refine ⟨vp_updL (vp_updL (vp_updL (vp_updL (vp_updL (vp_updL P 5 (P 3)) 4 (P 2)) 3 (P 1)) 2 (P 0)) 0 x) 1 y, ?_, ?_, ?_, rfl, rfl, rfl, rfl⟩
    · rw [if_pos h]; unfold xPen_putTurnedFirst_b56; rw [if_pos h]; rfl
    · rw [if_pos h]; rfl
    · rw [if_pos h]; rfl
  · refine ⟨vp_updL (vp_updL (vp_updL (vp_updL (vp_updL (vp_updL P 5 (P 3)) 4 (P 2)) 3 (P 1)) 2 (P 0)) 0 (2 * x - cX)) 1 (2 * y - cY), ?_, ?_, ?_, rfl, rfl, rfl, rfl⟩
    · rw [if_neg h]; unfold xPen_putTurnedFirst_b56; rw [if_neg h]; rfl
    · rw [if_neg h]; rfl
    · rw [if_neg h]; rfl
theorem oc_1 {x y : Int64} {Q : Nat → Int64} : ∃ R, xPen_aimByOneControl x y Q = some (Q 0, Q 1, 81, R) ∧ R 0 = nr (x + 2 * Q 0) 3 ∧ R 1 = nr (y + 2 * Q 1) 3 ∧ R 2 = nr (Q 2 + 2 * Q 0) 3 ∧ R 3 = nr (Q 3 + 2 * Q 1) 3 ∧ R 4 = Q 2 ∧ R 5 = Q 3 := by
  have n3 : ∀ a : Int64, xP_nearest a 3 = some (nr a 3) := fun a => xP_nearest_eq (by decide) (by decide)
  unfold xPen_aimByOneControl
  simp only [n3, z_b1]
  exact ⟨_, rfl, rfl, rfl, rfl, rfl, rfl, rfl⟩
/-- where the pens of both sides stand -/
def rP (due : Int32) (x y sX sY cX cY : Int64) (cf : Int32) (mx my msX msY : Int64) (bf : Int32) (tX tY : Int64) : Prop :=
  (due = 1 ∧ x = 0 ∧ y = 0 ∧ cf = 0) ∨ (due = 0 ∧ x = mx ∧ y = my ∧ sX = msX ∧ sY = msY ∧ (((bf = 99 ∨ bf = 115) ∧ cf = 67 ∧ cX = tX ∧ cY = tY) ∨ ((bf = 113 ∨ bf = 116) ∧ cf = 81 ∧ cX = tX ∧ cY = tY) ∨ ((¬ bf = 99 ∧ ¬ bf = 115 ∧ ¬ bf = 113 ∧ ¬ bf = 116) ∧ ¬ cf = 67 ∧ ¬ cf = 81)))
def cmG (N : Nat) (C sm c : Int32) (n dep : Nat) (x y sX sY cX cY : Int64) (cf : Int32) (pts nums rows drw : Nat → Int64) (sn sk : Nat → Int32) (ox oy : Int64) (place w : Int32) (mx my msX msY : Int64) (bf : Int32) (tX tY : Int64) (mat : Nat → Int64) (dn dk : Nat → Int32) (giv : Nat → Int64) : Prop :=
  (∃ kind sX' sY' cX' cY' cf' pts' x' y' drw' sn' sk' mx' my' msX' msY' tX' tY' dn' dk', n < 150 ∧ xPen_aim N C sm x y sX sY cX cY cf pts nums = some (kind, sX', sY', cX', cY', cf', pts') ∧ xPen_draw N kind x y sX' sY' pts' (nI dep) rows drw (nI n) sn sk = some (1, x', y', drw', nI (n + 1), sn', sk') ∧ m_command4 c ox oy place (nI n) (nI dep) (-1) w mx my msX msY bf tX tY mat dn dk giv = some (nI (n + 1), -1, 0, mx', my', msX', msY', c, tX', tY', dn', dk') ∧ rP 0 x' y' sX' sY' cX' cY' cf' mx' my' msX' msY' c tX' tY' ∧ rD (n + 1) sk' sn' dk' dn' ∧ rM (n + 1) dk') ∨
  (∃ kind sX' sY' cX' cY' cf' pts' x' y' drw' n' sn' sk' z1 z3 z4 z5 z6 z7 z8 z9 z10 z11 z12, xPen_aim N C sm x y sX sY cX cY cf pts nums = some (kind, sX', sY', cX', cY', cf', pts') ∧ xPen_draw N kind x y sX' sY' pts' (nI dep) rows drw (nI n) sn sk = some (0, x', y', drw', n', sn', sk') ∧ m_command4 c ox oy place (nI n) (nI dep) (-1) w mx my msX msY bf tX tY mat dn dk giv = some (z1, place, z3, z4, z5, z6, z7, z8, z9, z10, z11, z12))
theorem z_b6 {α β γ δ ε ζ ρ : Type} (a : α) (b : β) (c : γ) (d : δ) (e : ε) (f : ζ) (k : α → β → γ → δ → ε → ζ → Option ρ) : kb6 (some (a, b, c, d, e, f)) k = k a b c d e f := rfl
theorem cm_fin {N : Nat} {C sm c kind cf cf' : Int32} {n dep : Nat} {x y sX sY cX cY sX' sY' cX' cY' x1 y1 x2 y2 px py SX SY TX TY : Int64} {pts pts' nums rows drw : Nat → Int64} {sn sk : Nat → Int32} {ox oy : Int64} {place w w' : Int32} {mx my msX msY : Int64} {bf : Int32} {tX tY : Int64} {mat : Nat → Int64} {dn dk : Nat → Int32} {giv : Nat → Int64}
    (hA : xPen_aim N C sm x y sX sY cX cY cf pts nums = some (kind, sX', sY', cX', cY', cf', pts')) (hG : drG N kind n dep x y sX' sY' pts' rows drw sn sk x1 y1 x2 y2 px py mx my place mat dn dk)
    (h4 : m_command4 c ox oy place (nI n) (nI dep) (-1) w mx my msX msY bf tX tY mat dn dk giv = kb6 (m_draw kind x1 y1 x2 y2 px py place (nI n) (nI dep) (-1) mx my mat dn dk) fun a b d e f g => some (a, b, w', d, e, SX, SY, c, TX, TY, f, g))
    (hP : rP 0 px py sX' sY' cX' cY' cf' px py SX SY c TX TY) (hw : w' = 0) (hM : rM n dk) (hk : n = 0 → kind = 0) : cmG N C sm c n dep x y sX sY cX cY cf pts nums rows drw sn sk ox oy place w mx my msX msY bf tX tY mat dn dk giv := by
  subst hw
  rcases hG with ⟨drw', sn', sk', dn', dk', a, b, d, e, rfl⟩ | ⟨x', y', drw', c', sn', sk', c'', x'', y'', dn', dk', b, d⟩
  · exact Or.inl ⟨kind, sX', sY', cX', cY', cf', pts', px, py, drw', sn', sk', px, py, SX, SY, TX, TY, dn', _, a, hA, b, by rw [h4, d, z_b6], hP, e, rM_push hM hk⟩
  · exact Or.inr ⟨kind, sX', sY', cX', cY', cf', pts', x', y', drw', c', sn', sk', _, _, _, _, _, _, _, _, _, _, _, hA, b, by rw [h4, d, z_b6]⟩
theorem cm_fl {c ox oy place : _} {n dep w : Int32} {mx my msX msY : Int64} {bf : Int32} {tX tY : Int64} {mat : Nat → Int64} {dn dk : Nat → Int32} {giv : Nat → Int64} : ∃ x7 x8 : Int32, (((bf = 99 ∨ bf = 115) ∧ x7 = 1 ∧ x8 = 0) ∨ ((bf = 113 ∨ bf = 116) ∧ x7 = 0 ∧ x8 = 1) ∨ ((¬ bf = 99 ∧ ¬ bf = 115 ∧ ¬ bf = 113 ∧ ¬ bf = 116) ∧ x7 = 0 ∧ x8 = 0)) ∧ m_command4 c ox oy place n dep (-1) w mx my msX msY bf tX tY mat dn dk giv = m_command4_b48 c ox oy place x7 x8 n dep (-1) w mx my msX msY tX tY mat dn dk giv := by
  unfold m_command4 m_command4_b23
  by_cases h1 : bf = 99
  · exact ⟨1, 0, Or.inl ⟨Or.inl h1, rfl, rfl⟩, by rw [if_pos h1, if_neg (by rw [h1]; decide), if_neg (by rw [h1]; decide)]⟩
  by_cases h2 : bf = 115
  · exact ⟨1, 0, Or.inl ⟨Or.inr h2, rfl, rfl⟩, by rw [if_neg h1, if_pos h2, if_neg (by rw [h2]; decide), if_neg (by rw [h2]; decide)]⟩
  by_cases h3 : bf = 113
  · exact ⟨0, 1, Or.inr (Or.inl ⟨Or.inl h3, rfl, rfl⟩), by rw [if_neg h1, if_neg h2, if_pos h3]⟩
  by_cases h4 : bf = 116
  · exact ⟨0, 1, Or.inr (Or.inl ⟨Or.inr h4, rfl, rfl⟩), by rw [if_neg h1, if_neg h2, if_neg h3, if_pos h4]⟩
  · exact ⟨0, 0, Or.inr (Or.inr ⟨⟨h1, h2, h3, h4⟩, rfl, rfl⟩), by rw [if_neg h1, if_neg h2, if_neg h3, if_neg h4]⟩
theorem rP_n {x y sX sY cX cY : Int64} {cf c : Int32} {tX tY : Int64} (h : ¬ c = 99 ∧ ¬ c = 115 ∧ ¬ c = 113 ∧ ¬ c = 116) (h' : ¬ cf = 67 ∧ ¬ cf = 81) : rP 0 x y sX sY cX cY cf x y sX sY c tX tY := Or.inr ⟨rfl, rfl, rfl, rfl, rfl, Or.inr (Or.inr ⟨h, h'⟩)⟩
theorem rP_c {x y sX sY cX cY : Int64} {c : Int32} (h : c = 99 ∨ c = 115) : rP 0 x y sX sY cX cY 67 x y sX sY c cX cY := Or.inr ⟨rfl, rfl, rfl, rfl, rfl, Or.inl ⟨h, rfl, rfl, rfl⟩⟩
theorem rP_q {x y sX sY cX cY : Int64} {c : Int32} (h : c = 113 ∨ c = 116) : rP 0 x y sX sY cX cY 81 x y sX sY c cX cY := Or.inr ⟨rfl, rfl, rfl, rfl, rfl, Or.inr (Or.inl ⟨h, rfl, rfl, rfl⟩)⟩
section
variable {N : Nat} {sm cf bf place : Int32} {n dep : Nat} {x y sX sY cX cY ox oy mx my msX msY tX tY : Int64} {pts nums rows drw mat giv : Nat → Int64} {sn sk dn dk : Nat → Int32}
theorem cm_M {w : Int32} (hN : 5000 ≤ N) (hd : dep ≤ 8) (hD : rD n sk sn dk dn) (hM : rM n dk) (hX : ∀ s, s < 6 * (dep + 1) → rows s = mat s) (hg : ∀ s, s < 2 → nums s = giv s) (h1 : ox = if sm = 0 then 0 else x) (h2 : oy = if sm = 0 then 0 else y) : cmG N 77 sm 109 n dep x y sX sY cX cY cf pts nums rows drw sn sk ox oy place w mx my msX msY bf tX tY mat dn dk giv := by
  obtain ⟨P, hP, hp⟩ := tp_eq (pts := pts) (nums := nums) hN h1 h2
  have p0 : P 0 = ox + giv 0 := by rw [← hg 0 (by omega)]; exact hp 0 (by omega)
  have p1 : P 1 = oy + giv 1 := by rw [← hg 1 (by omega)]; exact hp 1 (by omega)
  have hA : xPen_aim N 77 sm x y sX sY cX cY cf pts nums = some (0, P 0, P 1, cX, cY, 0, P) := by unfold xPen_aim; rw [hP]; rfl
  obtain ⟨x7, x8, _, h4⟩ := cm_fl (c := 109) (ox := ox) (oy := oy) (place := place) (n := nI n) (dep := nI dep) (w := w) (mx := mx) (my := my) (msX := msX) (msY := msY) (bf := bf) (tX := tX) (tY := tY) (mat := mat) (dn := dn) (dk := dk) (giv := giv)
  refine cm_fin hA (dr2 (x1 := 0) (y1 := 0) (x2 := 0) (y2 := 0) hN (Or.inl rfl) hd hD hX) (w' := 0) (TX := tX) (TY := tY) (h4.trans ?_) (rP_n (by decide) (by decide)) rfl hM (fun _ => rfl)
  rw [p0, p1]; rfl
theorem cm_L (hN : 5000 ≤ N) (hd : dep ≤ 8) (hD : rD n sk sn dk dn) (hM : rM n dk) (hn : 0 < n) (hX : ∀ s, s < 6 * (dep + 1) → rows s = mat s) (hg : ∀ s, s < 2 → nums s = giv s) (h1 : ox = if sm = 0 then 0 else x) (h2 : oy = if sm = 0 then 0 else y) (hS : sX = msX ∧ sY = msY) : cmG N 76 sm 108 n dep x y sX sY cX cY cf pts nums rows drw sn sk ox oy place 0 mx my msX msY bf tX tY mat dn dk giv := by
  obtain ⟨P, hP, hp⟩ := tp_eq (pts := pts) (nums := nums) hN h1 h2
  obtain ⟨rfl, rfl⟩ := hS
  have p0 : P 0 = ox + giv 0 := by rw [← hg 0 (by omega)]; exact hp 0 (by omega)
  have p1 : P 1 = oy + giv 1 := by rw [← hg 1 (by omega)]; exact hp 1 (by omega)
  have hA : xPen_aim N 76 sm x y sX sY cX cY cf pts nums = some (1, sX, sY, cX, cY, 0, P) := by unfold xPen_aim; rw [hP]; rfl
  obtain ⟨x7, x8, _, h4⟩ := cm_fl (c := 108) (ox := ox) (oy := oy) (place := place) (n := nI n) (dep := nI dep) (w := 0) (mx := mx) (my := my) (msX := sX) (msY := sY) (bf := bf) (tX := tX) (tY := tY) (mat := mat) (dn := dn) (dk := dk) (giv := giv)
  refine cm_fin hA (dr2 (x1 := 0) (y1 := 0) (x2 := 0) (y2 := 0) hN (Or.inr rfl) hd hD hX) (w' := 0) (TX := tX) (TY := tY) (h4.trans ?_) (rP_n (by decide) (by decide)) rfl hM (fun h => by omega)
  rw [p0, p1]; rfl
theorem cm_H (hN : 5000 ≤ N) (hd : dep ≤ 8) (hD : rD n sk sn dk dn) (hM : rM n dk) (hn : 0 < n) (hX : ∀ s, s < 6 * (dep + 1) → rows s = mat s) (hg : ∀ s, s < 1 → nums s = giv s) (h1 : ox = if sm = 0 then 0 else x) (h2 : oy = if sm = 0 then 0 else y) (hxy : x = mx ∧ y = my) (hS : sX = msX ∧ sY = msY) : cmG N 72 sm 104 n dep x y sX sY cX cY cf pts nums rows drw sn sk ox oy place 0 mx my msX msY bf tX tY mat dn dk giv := by
  obtain ⟨P, hP, hp⟩ := tp_eq (pts := pts) (nums := nums) hN h1 h2
  obtain ⟨rfl, rfl⟩ := hS
  obtain ⟨rfl, rfl⟩ := hxy
  have p0 : vp_updL P 1 y 0 = ox + giv 0 := by rw [updL_ne (by omega), ← hg 0 (by omega)]; exact hp 0 (by omega)
  have p1 : vp_updL P 1 y 1 = y := updL_at _ _ _
  have hA : xPen_aim N 72 sm x y sX sY cX cY cf pts nums = some (1, sX, sY, cX, cY, 0, vp_updL P 1 y) := by unfold xPen_aim; rw [hP]; rfl
  obtain ⟨x7, x8, _, h4⟩ := cm_fl (c := 104) (ox := ox) (oy := oy) (place := place) (n := nI n) (dep := nI dep) (w := 0) (mx := x) (my := y) (msX := sX) (msY := sY) (bf := bf) (tX := tX) (tY := tY) (mat := mat) (dn := dn) (dk := dk) (giv := giv)
  refine cm_fin hA (dr2 (x1 := 0) (y1 := 0) (x2 := 0) (y2 := 0) hN (Or.inr rfl) hd hD hX) (w' := 0) (TX := tX) (TY := tY) (h4.trans ?_) (rP_n (by decide) (by decide)) rfl hM (fun h => by omega)
  rw [p0, p1]; rfl
theorem cm_V (hN : 5000 ≤ N) (hd : dep ≤ 8) (hD : rD n sk sn dk dn) (hM : rM n dk) (hn : 0 < n) (hX : ∀ s, s < 6 * (dep + 1) → rows s = mat s) (hg : ∀ s, s < 1 → nums s = giv s) (h1 : ox = if sm = 0 then 0 else x) (h2 : oy = if sm = 0 then 0 else y) (hxy : x = mx ∧ y = my) (hS : sX = msX ∧ sY = msY) : cmG N 86 sm 118 n dep x y sX sY cX cY cf pts nums rows drw sn sk ox oy place 0 mx my msX msY bf tX tY mat dn dk giv := by
  obtain ⟨P, hP, hp⟩ := tp_eq (pts := pts) (nums := nums) hN h1 h2
  obtain ⟨rfl, rfl⟩ := hS
  obtain ⟨rfl, rfl⟩ := hxy
  have e0 : P 0 = ox + giv 0 := by rw [← hg 0 (by omega)]; exact hp 0 (by omega)
  obtain ⟨v, hv, hA⟩ : ∃ v, v = oy + giv 0 ∧ xPen_aim N 86 sm x y sX sY cX cY cf pts nums = some (1, sX, sY, cX, cY, 0, vp_updL (vp_updL P 1 v) 0 x) := by
    by_cases hs : sm = 0
    · rw [if_pos hs] at h1 h2
      refine ⟨P 0, by rw [e0, h1, h2], ?_⟩
      unfold xPen_aim; rw [hP, z_b1]
      show (if sm = 0 then _ else _) = _
      rw [if_pos hs]; rfl
    · rw [if_neg hs] at h1 h2
      refine ⟨P 0 - x + y, by rw [e0, h1, h2]; grind, ?_⟩
      unfold xPen_aim; rw [hP, z_b1]
      show (if sm = 0 then _ else _) = _
      rw [if_neg hs]; rfl
  have p0 : vp_updL (vp_updL P 1 v) 0 x 0 = x := updL_at _ _ _
  have p1 : vp_updL (vp_updL P 1 v) 0 x 1 = oy + giv 0 := by rw [updL_ne (by omega), updL_at, hv]
  obtain ⟨x7, x8, _, h4⟩ := cm_fl (c := 118) (ox := ox) (oy := oy) (place := place) (n := nI n) (dep := nI dep) (w := 0) (mx := x) (my := y) (msX := sX) (msY := sY) (bf := bf) (tX := tX) (tY := tY) (mat := mat) (dn := dn) (dk := dk) (giv := giv)
  refine cm_fin hA (dr2 (x1 := 0) (y1 := 0) (x2 := 0) (y2 := 0) hN (Or.inr rfl) hd hD hX) (w' := 0) (TX := tX) (TY := tY) (h4.trans ?_) (rP_n (by decide) (by decide)) rfl hM (fun h => by omega)
  rw [p0, p1]; rfl
theorem cm_Z (hN : 5000 ≤ N) (hd : dep ≤ 8) (hD : rD n sk sn dk dn) (hM : rM n dk) (hn : 0 < n) (hS : sX = msX ∧ sY = msY) : cmG N 90 sm 122 n dep x y sX sY cX cY cf pts nums rows drw sn sk ox oy place 0 mx my msX msY bf tX tY mat dn dk giv := by
  obtain ⟨P, hP, hp⟩ := tp_eq (sm := sm) (x := x) (y := y) (pts := pts) (nums := nums) hN rfl rfl
  obtain ⟨rfl, rfl⟩ := hS
  have hA : xPen_aim N 90 sm x y sX sY cX cY cf pts nums = some (3, sX, sY, cX, cY, 0, P) := by unfold xPen_aim; rw [hP]; rfl
  obtain ⟨x7, x8, _, h4⟩ := cm_fl (c := 122) (ox := ox) (oy := oy) (place := place) (n := nI n) (dep := nI dep) (w := 0) (mx := mx) (my := my) (msX := sX) (msY := sY) (bf := bf) (tX := tX) (tY := tY) (mat := mat) (dn := dn) (dk := dk) (giv := giv)
  exact cm_fin hA (dr0 (x1 := 0) (y1 := 0) (x2 := 0) (y2 := 0) hN hd hD) (w' := 0) (TX := tX) (TY := tY) (h4.trans rfl) (rP_n (by decide) (by decide)) rfl hM (fun h => by omega)
theorem cm_C (hN : 5000 ≤ N) (hd : dep ≤ 8) (hD : rD n sk sn dk dn) (hM : rM n dk) (hn : 0 < n) (hX : ∀ s, s < 6 * (dep + 1) → rows s = mat s) (hp0 : ¬ place = -1) (hg : ∀ s, s < 6 → nums s = giv s) (h1 : ox = if sm = 0 then 0 else x) (h2 : oy = if sm = 0 then 0 else y) (hS : sX = msX ∧ sY = msY) : cmG N 67 sm 99 n dep x y sX sY cX cY cf pts nums rows drw sn sk ox oy place 0 mx my msX msY bf tX tY mat dn dk giv := by
  obtain ⟨P, hP, hp⟩ := tp_eq (pts := pts) (nums := nums) hN h1 h2
  obtain ⟨rfl, rfl⟩ := hS
  have p0 : P 0 = ox + giv 0 := by rw [← hg 0 (by omega)]; exact hp 0 (by omega)
  have p1 : P 1 = oy + giv 1 := by rw [← hg 1 (by omega)]; exact hp 1 (by omega)
  have p2 : P 2 = ox + giv 2 := by rw [← hg 2 (by omega)]; exact hp 2 (by omega)
  have p3 : P 3 = oy + giv 3 := by rw [← hg 3 (by omega)]; exact hp 3 (by omega)
  have p4 : P 4 = ox + giv 4 := by rw [← hg 4 (by omega)]; exact hp 4 (by omega)
  have p5 : P 5 = oy + giv 5 := by rw [← hg 5 (by omega)]; exact hp 5 (by omega)
  have hA : xPen_aim N 67 sm x y sX sY cX cY cf pts nums = some (2, sX, sY, P 2, P 3, 67, P) := by unfold xPen_aim; rw [hP]; rfl
  obtain ⟨x7, x8, _, h4⟩ := cm_fl (c := 99) (ox := ox) (oy := oy) (place := place) (n := nI n) (dep := nI dep) (w := 0) (mx := mx) (my := my) (msX := sX) (msY := sY) (bf := bf) (tX := tX) (tY := tY) (mat := mat) (dn := dn) (dk := dk) (giv := giv)
  refine cm_fin hA (dr6 hN hd hD hX hp0) (w' := 0) (h4.trans ?_) (rP_c (Or.inl rfl)) rfl hM (fun h => by omega)
  rw [p0, p1, p2, p3, p4, p5]; rfl
theorem cm_S (hN : 5000 ≤ N) (hd : dep ≤ 8) (hD : rD n sk sn dk dn) (hM : rM n dk) (hn : 0 < n) (hX : ∀ s, s < 6 * (dep + 1) → rows s = mat s) (hp0 : ¬ place = -1) (hg : ∀ s, s < 4 → nums s = giv s) (h1 : ox = if sm = 0 then 0 else x) (h2 : oy = if sm = 0 then 0 else y) (hQ : rP 0 x y sX sY cX cY cf mx my msX msY bf tX tY) : cmG N 83 sm 115 n dep x y sX sY cX cY cf pts nums rows drw sn sk ox oy place 0 mx my msX msY bf tX tY mat dn dk giv := by
  obtain ⟨P, hP, hp⟩ := tp_eq (pts := pts) (nums := nums) hN h1 h2
  have hQ2 := hQ.resolve_left (fun h => absurd h.1 (by decide))
  clear hQ
  obtain ⟨_, rfl, rfl, rfl, rfl, hQ⟩ := hQ2
  have p0 : P 0 = ox + giv 0 := by rw [← hg 0 (by omega)]; exact hp 0 (by omega)
  have p1 : P 1 = oy + giv 1 := by rw [← hg 1 (by omega)]; exact hp 1 (by omega)
  have p2 : P 2 = ox + giv 2 := by rw [← hg 2 (by omega)]; exact hp 2 (by omega)
  have p3 : P 3 = oy + giv 3 := by rw [← hg 3 (by omega)]; exact hp 3 (by omega)
  obtain ⟨x7, x8, h7, h4⟩ := cm_fl (c := 115) (ox := ox) (oy := oy) (place := place) (n := nI n) (dep := nI dep) (w := 0) (mx := x) (my := y) (msX := sX) (msY := sY) (bf := bf) (tX := tX) (tY := tY) (mat := mat) (dn := dn) (dk := dk) (giv := giv)
  by_cases hc : cf = 67
  · obtain ⟨rfl, rfl, rfl⟩ : x7 = 1 ∧ cX = tX ∧ cY = tY := by
      rcases hQ with ⟨q1, q2, q3, q4⟩ | ⟨q1, q2, _⟩ | ⟨q1, q2, _⟩
      · refine ⟨?_, q3, q4⟩
        rcases h7 with ⟨_, r, _⟩ | ⟨r, _⟩ | ⟨r, _⟩
        · exact r
        · rcases q1 with rfl | rfl <;> rcases r with r | r <;> exact absurd r (by decide)
        · rcases q1 with q | q
          · exact absurd q r.1
          · exact absurd q r.2.1
      · rw [q2] at hc; exact absurd hc (by decide)
      · exact absurd hc q2
    obtain ⟨Q, hq, q0, q1, q2, q3, q4, q5⟩ := pf_eq (t := 1) (x := x) (y := y) (cX := cX) (cY := cY) (P := P) hN
    have hA : xPen_aim N 83 sm x y sX sY cX cY cf pts nums = some (2, sX, sY, Q 2, Q 3, 67, Q) := by
      unfold xPen_aim; rw [hP, z_b1]
      show (if cf = 67 then _ else _) = _
      rw [if_pos hc]; unfold xPen_aim_b214; rw [hq]; rfl
    refine cm_fin hA (dr6 hN hd hD hX hp0) (w' := 0) (h4.trans ?_) (rP_c (Or.inr rfl)) rfl hM (fun h => by omega)
    rw [q0, q1, q2, q3, q4, q5, p0, p1, p2, p3]; rfl
  · obtain rfl : x7 = 0 := by
      rcases h7 with ⟨r, _⟩ | ⟨_, r, _⟩ | ⟨_, r, _⟩
      · rcases hQ with ⟨_, q2, _⟩ | ⟨q1, _⟩ | ⟨q1, _⟩
        · exact absurd q2 hc
        · rcases q1 with rfl | rfl <;> rcases r with r | r <;> exact absurd r (by decide)
        · rcases r with r | r
          · exact absurd r q1.1
          · exact absurd r q1.2.1
      · exact r
      · exact r
    obtain ⟨Q, hq, q0, q1, q2, q3, q4, q5⟩ := pf_eq (t := 0) (x := x) (y := y) (cX := cX) (cY := cY) (P := P) hN
    have hA : xPen_aim N 83 sm x y sX sY cX cY cf pts nums = some (2, sX, sY, Q 2, Q 3, 67, Q) := by
      unfold xPen_aim; rw [hP, z_b1]
      show (if cf = 67 then _ else _) = _
      rw [if_neg hc]; unfold xPen_aim_b214; rw [hq]; rfl
    refine cm_fin hA (dr6 hN hd hD hX hp0) (w' := 0) (h4.trans ?_) (rP_c (Or.inr rfl)) rfl hM (fun h => by omega)
    rw [q0, q1, q2, q3, q4, q5, p0, p1, p2, p3]; rfl
theorem mn3 (a : Int64) : m_nearest a 3 = some (nr a 3) := m_nearest_eq (by decide)
theorem cm_Q (hN : 5000 ≤ N) (hd : dep ≤ 8) (hD : rD n sk sn dk dn) (hM : rM n dk) (hn : 0 < n) (hX : ∀ s, s < 6 * (dep + 1) → rows s = mat s) (hp0 : ¬ place = -1) (hg : ∀ s, s < 4 → nums s = giv s) (h1 : ox = if sm = 0 then 0 else x) (h2 : oy = if sm = 0 then 0 else y) (hxy : x = mx ∧ y = my) (hS : sX = msX ∧ sY = msY) : cmG N 81 sm 113 n dep x y sX sY cX cY cf pts nums rows drw sn sk ox oy place 0 mx my msX msY bf tX tY mat dn dk giv := by
  obtain ⟨P, hP, hp⟩ := tp_eq (pts := pts) (nums := nums) hN h1 h2
  obtain ⟨rfl, rfl⟩ := hS
  obtain ⟨rfl, rfl⟩ := hxy
  have p0 : P 0 = ox + giv 0 := by rw [← hg 0 (by omega)]; exact hp 0 (by omega)
  have p1 : P 1 = oy + giv 1 := by rw [← hg 1 (by omega)]; exact hp 1 (by omega)
  have p2 : P 2 = ox + giv 2 := by rw [← hg 2 (by omega)]; exact hp 2 (by omega)
  have p3 : P 3 = oy + giv 3 := by rw [← hg 3 (by omega)]; exact hp 3 (by omega)
  obtain ⟨R, hR, r0, r1, r2, r3, r4, r5⟩ := oc_1 (x := x) (y := y) (Q := P)
  have hA : xPen_aim N 81 sm x y sX sY cX cY cf pts nums = some (2, sX, sY, P 0, P 1, 81, R) := by
    unfold xPen_aim; rw [hP, z_b1]
    rw [if_neg (by decide), if_neg (by decide), if_neg (by decide), if_neg (by decide), if_pos rfl, hR]; rfl
  obtain ⟨x7, x8, _, h4⟩ := cm_fl (c := 113) (ox := ox) (oy := oy) (place := place) (n := nI n) (dep := nI dep) (w := 0) (mx := x) (my := y) (msX := sX) (msY := sY) (bf := bf) (tX := tX) (tY := tY) (mat := mat) (dn := dn) (dk := dk) (giv := giv)
  refine cm_fin hA (dr6 hN hd hD hX hp0) (w' := 0) (h4.trans ?_) (rP_q (Or.inl rfl)) rfl hM (fun h => by omega)
  have e : m_command4_b48 113 ox oy place x7 x8 (nI n) (nI dep) (-1) 0 x y sX sY tX tY mat dn dk giv = m_command4_b520 113 place (ox + giv 2) (oy + giv 3) x y (oy + giv 1) (nI n) (nI dep) (-1) 0 x y sX sY (ox + giv 0) mat dn dk := rfl
  rw [e]
  unfold m_command4_b520
  rw [mn3, z_b1, mn3, z_b1, mn3, z_b1, mn3, z_b1, r0, r1, r2, r3, r4, r5, p0, p1, p2, p3]
  rfl
theorem cm_T (hN : 5000 ≤ N) (hd : dep ≤ 8) (hD : rD n sk sn dk dn) (hM : rM n dk) (hn : 0 < n) (hX : ∀ s, s < 6 * (dep + 1) → rows s = mat s) (hp0 : ¬ place = -1) (hg : ∀ s, s < 2 → nums s = giv s) (h1 : ox = if sm = 0 then 0 else x) (h2 : oy = if sm = 0 then 0 else y) (hQ : rP 0 x y sX sY cX cY cf mx my msX msY bf tX tY) : cmG N 84 sm 116 n dep x y sX sY cX cY cf pts nums rows drw sn sk ox oy place 0 mx my msX msY bf tX tY mat dn dk giv := by
  obtain ⟨P, hP, hp⟩ := tp_eq (pts := pts) (nums := nums) hN h1 h2
  have hQ2 := hQ.resolve_left (fun h => absurd h.1 (by decide))
  clear hQ
  obtain ⟨_, rfl, rfl, rfl, rfl, hQ⟩ := hQ2
  have p0 : P 0 = ox + giv 0 := by rw [← hg 0 (by omega)]; exact hp 0 (by omega)
  have p1 : P 1 = oy + giv 1 := by rw [← hg 1 (by omega)]; exact hp 1 (by omega)
  obtain ⟨x7, x8, h7, h4⟩ := cm_fl (c := 116) (ox := ox) (oy := oy) (place := place) (n := nI n) (dep := nI dep) (w := 0) (mx := x) (my := y) (msX := sX) (msY := sY) (bf := bf) (tX := tX) (tY := tY) (mat := mat) (dn := dn) (dk := dk) (giv := giv)
  by_cases hc : cf = 81
  · obtain ⟨rfl, rfl, rfl⟩ : x8 = 1 ∧ cX = tX ∧ cY = tY := by
      rcases hQ with ⟨q1, q2, _⟩ | ⟨q1, q2, q3, q4⟩ | ⟨q1, _, q2⟩
      · rw [q2] at hc; exact absurd hc (by decide)
      · refine ⟨?_, q3, q4⟩
        rcases h7 with ⟨r, _⟩ | ⟨_, _, r⟩ | ⟨r, _⟩
        · rcases q1 with rfl | rfl <;> rcases r with r | r <;> exact absurd r (by decide)
        · exact r
        · rcases q1 with q | q
          · exact absurd q r.2.2.1
          · exact absurd q r.2.2.2
      · exact absurd hc q2
    obtain ⟨Q, hq, q0, q1, q2, q3, q4, q5⟩ := pf_eq (t := 1) (x := x) (y := y) (cX := cX) (cY := cY) (P := P) hN
    obtain ⟨R, hR, r0, r1, r2, r3, r4, r5⟩ := oc_1 (x := x) (y := y) (Q := Q)
    have hA : xPen_aim N 84 sm x y sX sY cX cY cf pts nums = some (2, sX, sY, Q 0, Q 1, 81, R) := by
      unfold xPen_aim; rw [hP, z_b1]
      show (if cf = 81 then _ else _) = _
      rw [if_pos hc]; unfold xPen_aim_b242; rw [hq, z_b1, hR]; rfl
    refine cm_fin hA (dr6 hN hd hD hX hp0) (w' := 0) (h4.trans ?_) (rP_q (Or.inr rfl)) rfl hM (fun h => by omega)
    have e : m_command4_b48 116 ox oy place x7 1 (nI n) (nI dep) (-1) 0 x y sX sY cX cY mat dn dk giv = m_command4_b520 116 place (ox + giv 0) (oy + giv 1) x y (2 * y - cY) (nI n) (nI dep) (-1) 0 x y sX sY (2 * x - cX) mat dn dk := rfl
    rw [e]
    unfold m_command4_b520
    rw [mn3, z_b1, mn3, z_b1, mn3, z_b1, mn3, z_b1, r0, r1, r2, r3, r4, r5, q0, q1, q2, q3, p0, p1]
    rfl
  · obtain rfl : x8 = 0 := by
      rcases h7 with ⟨_, _, r⟩ | ⟨r, _⟩ | ⟨_, _, r⟩
      · exact r
      · rcases hQ with ⟨q1, _⟩ | ⟨_, q2, _⟩ | ⟨q1, _⟩
        · rcases q1 with rfl | rfl <;> rcases r with r | r <;> exact absurd r (by decide)
        · exact absurd q2 hc
        · rcases r with r | r
          · exact absurd r q1.2.2.1
          · exact absurd r q1.2.2.2
      · exact r
    obtain ⟨Q, hq, q0, q1, q2, q3, q4, q5⟩ := pf_eq (t := 0) (x := x) (y := y) (cX := cX) (cY := cY) (P := P) hN
    obtain ⟨R, hR, r0, r1, r2, r3, r4, r5⟩ := oc_1 (x := x) (y := y) (Q := Q)
    have hA : xPen_aim N 84 sm x y sX sY cX cY cf pts nums = some (2, sX, sY, Q 0, Q 1, 81, R) := by
      unfold xPen_aim; rw [hP, z_b1]
      show (if cf = 81 then _ else _) = _
      rw [if_neg hc]; unfold xPen_aim_b242; rw [hq, z_b1, hR]; rfl
    refine cm_fin hA (dr6 hN hd hD hX hp0) (w' := 0) (h4.trans ?_) (rP_q (Or.inr rfl)) rfl hM (fun h => by omega)
    have e : m_command4_b48 116 ox oy place x7 0 (nI n) (nI dep) (-1) 0 x y sX sY tX tY mat dn dk giv = m_command4_b520 116 place (ox + giv 0) (oy + giv 1) x y y (nI n) (nI dep) (-1) 0 x y sX sY x mat dn dk := rfl
    rw [e]
    unfold m_command4_b520
    rw [mn3, z_b1, mn3, z_b1, mn3, z_b1, mn3, z_b1, r0, r1, r2, r3, r4, r5, q0, q1, q2, q3, p0, p1]
    rfl
end
