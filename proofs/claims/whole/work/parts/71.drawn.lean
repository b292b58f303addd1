/-! L3: render. What a drawing adds. -/
theorem bt_sum {A B C D : Int64} {a b c d : Int} (eA : A.toInt = a) (eB : B.toInt = b) (eC : C.toInt = c) (eD : D.toInt = d) (hA : a.natAbs ≤ 2 ^ 40) (hB : b.natAbs ≤ 2 ^ 40) (hC : c.natAbs ≤ 2 ^ 40) (hD : d.natAbs ≤ 2 ^ 40) : (A + B + C + D).toInt = a + b + c + d := by
  subst eA eB eC eD
  have s1 : (A + B).toInt = A.toInt + B.toInt := j_add (by omega) (by omega)
  have s2 : (A + B + C).toInt = A.toInt + B.toInt + C.toInt := by rw [j_add (by omega) (by omega), s1]
  rw [j_add (by omega) (by omega), s2]
theorem bt_le (a b c d : Int) (k o : Nat) (ho : o + k = 16) (a1 : -1048576 ≤ a) (a2 : a ≤ 1048576) (b1 : -1048576 ≤ b) (b2 : b ≤ 1048576) (c1 : -1048576 ≤ c) (c2 : c ≤ 1048576) (d1 : -1048576 ≤ d) (d2 : d ≤ 1048576) : -(4096 * 1048576) ≤ a * o * o * o + 3 * b * o * o * k + 3 * c * o * k * k + d * k * k * k ∧ a * o * o * o + 3 * b * o * o * k + 3 * c * o * k * k + d * k * k * k ≤ 4096 * 1048576 := by
  have h : k = 0 ∨ k = 1 ∨ k = 2 ∨ k = 3 ∨ k = 4 ∨ k = 5 ∨ k = 6 ∨ k = 7 ∨ k = 8 ∨ k = 9 ∨ k = 10 ∨ k = 11 ∨ k = 12 ∨ k = 13 ∨ k = 14 ∨ k = 15 ∨ k = 16 := by omega
  have ho : o = 16 - k := by omega
  subst ho
  rcases h with rfl | rfl | rfl | rfl | rfl | rfl | rfl | rfl | rfl | rfl | rfl | rfl | rfl | rfl | rfl | rfl | rfl <;> simp only [Nat.reduceSub] <;> omega
theorem bt_m {x y : Int64} {X Y : Int} (P Q : Nat) (e1 : x.toInt = X) (e2 : y.toInt = Y) (h1 : X.natAbs ≤ P) (h2 : Y.natAbs ≤ Q) (h3 : P * Q < 2 ^ 63) : (x * y).toInt = X * Y ∧ (X * Y).natAbs ≤ P * Q := by
  subst e1 e2
  exact j_mB h1 h2 h3
theorem bt_nr {S : Int64} {s : Int} (e : S.toInt = s) (h1 : -(4096 * 1048576) ≤ s) (h2 : s ≤ 4096 * 1048576) : okL (nr S 4096) := by
  have t4 : (4096 : Int64).toInt = 4096 := rfl
  have n := nr_toInt (a := S) (b := 4096) (by rw [t4]; omega) (by rw [t4]; omega) (by omega) (by omega)
  rw [t4, e] at n
  unfold okL
  rw [n]
  omega
theorem betw_ok {a b c d : Int64} {k : Nat} (ha : okL a) (hb : okL b) (hc : okL c) (hd : okL d) (hk : k ≤ 16) : okL (betw a b c d (Int32.toInt64 (nI k))) := by
  rw [jN_up (by omega)]
  have t3 : (3 : Int64).toInt = 3 := rfl
  have tk : (jN k).toInt = (k : Int) := jN_toInt (by omega)
  have eo : (16 : Int64) - jN k = jN (16 - k) := jN_sub (a := 16) hk
  have to : (jN (16 - k)).toInt = ((16 - k : Nat) : Int) := jN_toInt (by omega)
  have ko : ((16 - k : Nat) : Int).natAbs ≤ 16 := by omega
  have kk : (k : Int).natAbs ≤ 16 := by omega
  unfold betw
  rw [eo]
  have hok : 16 - k + k = 16 := by omega
  generalize 16 - k = o at *
  obtain ⟨a1, a1'⟩ := bt_m 1048576 16 rfl to (okL_abs ha) ko (by decide)
  obtain ⟨a2, a2'⟩ := bt_m (1048576 * 16) 16 a1 to a1' ko (by decide)
  obtain ⟨a3, a3'⟩ := bt_m (1048576 * 16 * 16) 16 a2 to a2' ko (by decide)
  obtain ⟨b0, b0'⟩ := bt_m 3 1048576 t3 rfl (by decide) (okL_abs hb) (by decide)
  obtain ⟨b1, b1'⟩ := bt_m (3 * 1048576) 16 b0 to b0' ko (by decide)
  obtain ⟨b2, b2'⟩ := bt_m (3 * 1048576 * 16) 16 b1 to b1' ko (by decide)
  obtain ⟨b3, b3'⟩ := bt_m (3 * 1048576 * 16 * 16) 16 b2 tk b2' kk (by decide)
  obtain ⟨c0, c0'⟩ := bt_m 3 1048576 t3 rfl (by decide) (okL_abs hc) (by decide)
  obtain ⟨c1, c1'⟩ := bt_m (3 * 1048576) 16 c0 to c0' ko (by decide)
  obtain ⟨c2, c2'⟩ := bt_m (3 * 1048576 * 16) 16 c1 tk c1' kk (by decide)
  obtain ⟨c3, c3'⟩ := bt_m (3 * 1048576 * 16 * 16) 16 c2 tk c2' kk (by decide)
  obtain ⟨d1, d1'⟩ := bt_m 1048576 16 rfl tk (okL_abs hd) kk (by decide)
  obtain ⟨d2, d2'⟩ := bt_m (1048576 * 16) 16 d1 tk d1' kk (by decide)
  obtain ⟨d3, d3'⟩ := bt_m (1048576 * 16 * 16) 16 d2 tk d2' kk (by decide)
  have s := bt_sum a3 b3 c3 d3 (Nat.le_trans a3' (by decide)) (Nat.le_trans b3' (by decide)) (Nat.le_trans c3' (by decide)) (Nat.le_trans d3' (by decide))
  obtain ⟨u1, u2⟩ := bt_le a.toInt b.toInt c.toInt d.toInt k o hok ha.1 ha.2 hb.1 hb.2 hc.1 hc.2 hd.1 hd.2
  exact bt_nr s u1 u2
theorem okE_mk {x y u v : Int64} (h1 : okL x) (h2 : okL y) (h3 : okL u) (h4 : okL v) : okE (x, y, u, v) := ⟨h1, h2, h3, h4⟩
theorem oc_eq (a b c d k : Int64) : xCover_onCurve a b c d k = some (betw a b c d k) := by
  unfold xCover_onCurve betw
  rw [xP_nearest_eq (by decide) (by decide), z_b1]
def sumE : List Ed → Int → Int → Int32
  | [], _, _ => 0
  | a :: l, px, py => cE a px py + sumE l px py
theorem sumE_app (l l' : List Ed) (px py : Int) : sumE (l ++ l') px py = sumE l px py + sumE l' px py := by
  induction l with
  | nil => exact (Int32.zero_add _).symm
  | cons a l ih =>
    show cE a px py + sumE (l ++ l') px py = cE a px py + sumE l px py + _
    rw [ih, Int32.add_assoc]
theorem adds_nil {row : Nat} {ch : Nat → Int32} : adds row (sumE []) ch ch := fun r c _ _ => (Int32.add_zero _).symm
theorem adds_cons {row : Nat} {a : Ed} {l : List Ed} {ch ch1 ch2 : Nat → Int32} (h1 : adds row (cE a) ch ch1) (h2 : adds row (sumE l) ch1 ch2) : adds row (sumE (a :: l)) ch ch2 := fun r c hr hc => by
  rw [h2 r c hr hc, h1 r c hr hc, Int32.add_assoc]; rfl
theorem adds_app {row : Nat} {l l' : List Ed} {ch ch1 ch2 : Nat → Int32} (h1 : adds row (sumE l) ch ch1) (h2 : adds row (sumE l') ch1 ch2) : adds row (sumE (l ++ l')) ch ch2 := fun r c hr hc => by
  rw [h2 r c hr hc, h1 r c hr hc, sumE_app, Int32.add_assoc]
/-- a closing edge where nothing is open adds nothing -/
theorem adds_O {row : Nat} {op : Bool} {x y u v : Int64} {ch ch' : Nat → Int32} (ho : op = false → x = u ∧ y = v) (h : adds row (cE (x, y, u, v)) ch ch') : adds row (sumE (edO op x y u v)) ch ch' := fun r c hr hc => by
  rw [h r c hr hc]
  cases op with
  | false =>
    obtain ⟨rfl, rfl⟩ := ho rfl
    rw [cE_point]; rfl
  | true =>
    show _ = _ + (cE (x, y, u, v) _ _ + 0)
    rw [Int32.add_zero]
theorem z_b3 {α β γ ρ : Type} (a : α) (b : β) (c : γ) (k : α → β → γ → Option ρ) : kb3 (some (a, b, c)) k = k a b c := rfl
/-- the numbers of a command may be -/
def okN (yn : Nat → Int32) (k : Nat) : Prop := ∀ i, i < 6 → okL (Int32.toInt64 (yn (6 * k + i)))
theorem pX_ok {x0 : Int64} {yn : Nat → Int32} {k t : Nat} (h0 : okL x0) (hn : okN yn k) (ht : t ≤ 16) : okL (pX x0 yn k t) := betw_ok h0 (hn 0 (by omega)) (hn 2 (by omega)) (hn 4 (by omega)) ht
theorem pY_ok {y0 : Int64} {yn : Nat → Int32} {k t : Nat} (h0 : okL y0) (hn : okN yn k) (ht : t ≤ 16) : okL (pY y0 yn k t) := betw_ok h0 (hn 1 (by omega)) (hn 3 (by omega)) (hn 5 (by omega)) ht
theorem ac_L {N row k : Nat} {xn yn : Nat → Int32} {x0 y0 : Int64} (hN : 200 ≤ N) (hrow : row < 8) (hk : k < 150) (hn : okN yn k) (hx : ∀ i, i < 6 → xn (6 * k + i) = yn (6 * k + i)) (h0 : okL x0) (h0' : okL y0) : ∀ n d, d ≤ 16 → d < n → ∀ ch hx hy, okL hx → okL hy → ∃ ch', xCover_addCubicI_L28 N n (nI (6 * k)) x0 y0 (nI (17 - d)) (jN (256 * row)) hx hy ch xn = some ((if d = 0 then hx else pX x0 yn k 16), (if d = 0 then hy else pY y0 yn k 16), ch') ∧ adds row (sumE (cubL yn k x0 y0 d hx hy)) ch ch' := by
  have a1 : nI (6 * k) + 1 = nI (6 * k + 1) := z_add _ 1
  have a2 : nI (6 * k) + 2 = nI (6 * k + 2) := z_add _ 2
  have a3 : nI (6 * k) + 3 = nI (6 * k + 3) := z_add _ 3
  have a4 : nI (6 * k) + 4 = nI (6 * k + 4) := z_add _ 4
  have a5 : nI (6 * k) + 5 = nI (6 * k + 5) := z_add _ 5
  have x0' : xn (6 * k) = yn (6 * k) := hx 0 (by omega)
  have x1' := hx 1 (by omega)
  have x2' := hx 2 (by omega)
  have x3' := hx 3 (by omega)
  have x4' := hx 4 (by omega)
  have x5' := hx 5 (by omega)
  intro n
  induction n with
  | zero => intro d h1 h2; omega
  | succ n ih =>
    intro d h1 h2 ch hx hy ox oy
    show ∃ ch', xCover_addCubicI_B28 N (xCover_addCubicI_L28 N n) (nI (6 * k)) x0 y0 (nI (17 - d)) (jN (256 * row)) hx hy ch xn = _ ∧ _
    unfold xCover_addCubicI_B28
    cases d with
    | zero => exact ⟨ch, by rw [if_pos (show (16 : Int32) < nI (17 - 0) by decide)]; rfl, adds_nil⟩
    | succ d =>
      have e7 : 17 - (d + 1) = 16 - d := by omega
      rw [e7, if_neg (show ¬ (16 : Int32) < nI (16 - d) by rw [show (16 : Int32) = nI 16 from rfl, z_lt (by omega) (by omega)]; omega)]
      simp (disch := omega) only [a1, a2, a3, a4, a5, z_kg, z_clamp, oc_eq, z_b1, x0', x1', x2', x3', x4', x5']
      rw [show nI (16 - d) + 1 = nI (17 - d) from (z_add _ 1).trans (by congr 1; omega)]
      have px := pX_ok (t := 16 - d) h0 hn (by omega)
      have py := pY_ok (t := 16 - d) h0' hn (by omega)
      obtain ⟨ch1, b1, b2⟩ := ae_eq (N := N) (row := row) (x := hx) (y := hy) (u := pX x0 yn k (16 - d)) (v := pY y0 yn k (16 - d)) (ch := ch) hN hrow (okE_mk ox oy px py)
      obtain ⟨ch', c1, c2⟩ := ih d (by omega) (by omega) ch1 (pX x0 yn k (16 - d)) (pY y0 yn k (16 - d)) px py
      have ex : (if d = 0 then pX x0 yn k (16 - d) else pX x0 yn k 16) = pX x0 yn k 16 := by
        split
        · rename_i h; rw [h]
        · rfl
      have ey : (if d = 0 then pY y0 yn k (16 - d) else pY y0 yn k 16) = pY y0 yn k 16 := by
        split
        · rename_i h; rw [h]
        · rfl
      rw [ex, ey] at c1
      refine ⟨ch', ?_, adds_cons b2 c2⟩
      have b1' : xCover_addEdge N (betw x0 (Int32.toInt64 (yn (6 * k))) (Int32.toInt64 (yn (6 * k + 2))) (Int32.toInt64 (yn (6 * k + 4))) (Int32.toInt64 (nI (16 - d)))) (betw y0 (Int32.toInt64 (yn (6 * k + 1))) (Int32.toInt64 (yn (6 * k + 3))) (Int32.toInt64 (yn (6 * k + 5))) (Int32.toInt64 (nI (16 - d)))) (jN (256 * row)) hx hy ch = _ := b1
      rw [b1', z_b3, if_neg (show ¬ d + 1 = 0 by omega), if_neg (show ¬ d + 1 = 0 by omega)]
      exact c1
theorem ok_num {n : Nat} {xk xn yk yn : Nat → Int32} (hD : rD n xk xn yk yn) {k i : Nat} (hk : k < n) (hi : i < nd (yk k)) : okL (Int32.toInt64 (yn (6 * k + i))) := by
  have := ((hD.2 k hk).2.2 i hi).2
  exact ok_up.mpr this
theorem ad_L {N cn row : Nat} {xk xn yk yn : Nat → Int32} (hN : 200 ≤ N) (hrow : row < 8) (hD : rD cn xk xn yk yn) : ∀ n d, d ≤ cn → d < n → ∀ ch hx hy bx yb (op : Bool), okL hx → okL hy → okL bx → okL yb → (op = false → hx = bx ∧ hy = yb) → ∃ bx' yb' ch', xCover_addDrawing_L2 N n (nI (cn - d)) (jN (256 * row)) hx hy bx yb ch (nI cn) xk xn = some (bx', yb', bx', yb', ch') ∧ okL bx' ∧ okL yb' ∧ adds row (sumE (edS yk yn d (cn - d) hx hy bx yb op)) ch ch' := by
  have hc := hD.1
  intro n
  induction n with
  | zero => intro d h1 h2; omega
  | succ n ih =>
    intro d h1 h2 ch hx hy bx yb op o1 o2 o3 o4 ho
    show ∃ bx' yb' ch', xCover_addDrawing_B2 N (xCover_addDrawing_L2 N n) (nI (cn - d)) (jN (256 * row)) hx hy bx yb ch (nI cn) xk xn = _ ∧ _
    unfold xCover_addDrawing_B2
    obtain ⟨chO, f1, f2⟩ := ae_eq (N := N) (row := row) (x := hx) (y := hy) (u := bx) (v := yb) (ch := ch) hN hrow (okE_mk o1 o2 o3 o4)
    have f3 := adds_O ho f2
    cases d with
    | zero =>
      refine ⟨bx, yb, chO, ?_, o3, o4, f3⟩
      unfold xCover_addDrawing_b164
      rw [if_pos (show nI cn ≤ nI (cn - 0) by rw [z_le (by omega) (by omega)]; omega), ite_self, f1]
      rfl
    | succ d =>
      obtain ⟨k1, k2, k3⟩ := hD.2 (cn - (d + 1)) (by omega)
      have hnum : ∀ i, i < nd (yk (cn - (d + 1))) → okL (Int32.toInt64 (yn (6 * (cn - (d + 1)) + i))) := fun i hi => ok_num hD (by omega) hi
      have e1 : cn - (d + 1) + 1 = cn - d := by omega
      have h5 : cn - (d + 1) < 150 := by omega
      rw [if_neg (show ¬ (150 : Int32) ≤ nI (cn - (d + 1)) by rw [show (150 : Int32) = nI 150 from rfl, z_le (by omega) (by omega)]; omega), if_neg (show ¬ nI cn ≤ nI (cn - (d + 1)) by rw [z_le (by omega) (by omega)]; omega)]
      have IH := ih d (by omega) (by omega)
      rw [← e1] at IH
      clear ih
      generalize cn - (d + 1) = k at *
      have e2 : nI k + 1 = nI (k + 1) := z_add k 1
      have e6 : nI k * (6 : Int32) = nI (6 * k) := (z_mul k 6).trans (by rw [Nat.mul_comm])
      have a1 : nI (6 * k) + 1 = nI (6 * k + 1) := z_add _ 1
      rw [z_kg h5 (by omega), z_clamp (by omega), k2]
      rcases k1 with q | q | q | q
      · rw [edS_0 q, if_pos q]
        rw [q] at k3 hnum
        have n0 : xn (6 * k) = yn (6 * k) := (k3 0 (by decide)).1
        have n1 : xn (6 * k + 1) = yn (6 * k + 1) := (k3 1 (by decide)).1
        have w0 : okL (Int32.toInt64 (yn (6 * k))) := hnum 0 (by decide)
        have w1 : okL (Int32.toInt64 (yn (6 * k + 1))) := hnum 1 (by decide)
        obtain ⟨bx', yb', ch', c1, c2, c3, c4⟩ := IH chO _ _ _ _ false w0 w1 w0 w1 (fun _ => ⟨rfl, rfl⟩)
        refine ⟨bx', yb', ch', ?_, c2, c3, adds_app f3 c4⟩
        rw [f1, z_b3]
        simp (disch := omega) only [e6, a1, z_kg, z_clamp, e2, n0, n1]
        exact c1
      · rw [edS_1 q, if_neg (by rw [q]; decide), if_pos q]
        rw [q] at k3 hnum
        have n0 : xn (6 * k) = yn (6 * k) := (k3 0 (by decide)).1
        have n1 : xn (6 * k + 1) = yn (6 * k + 1) := (k3 1 (by decide)).1
        have w0 : okL (Int32.toInt64 (yn (6 * k))) := hnum 0 (by decide)
        have w1 : okL (Int32.toInt64 (yn (6 * k + 1))) := hnum 1 (by decide)
        obtain ⟨ch1, g1, g2⟩ := ae_eq (N := N) (row := row) (x := hx) (y := hy) (u := Int32.toInt64 (yn (6 * k))) (v := Int32.toInt64 (yn (6 * k + 1))) (ch := ch) hN hrow (okE_mk o1 o2 w0 w1)
        obtain ⟨bx', yb', ch', c1, c2, c3, c4⟩ := IH ch1 _ _ bx yb true w0 w1 o3 o4 (fun h => by cases h)
        refine ⟨bx', yb', ch', ?_, c2, c3, adds_cons g2 c4⟩
        simp (disch := omega) only [e6, a1, z_kg, z_clamp, e2, n0, n1, g1, z_b3]
        exact c1
      · rw [edS_2 q, if_neg (by rw [q]; decide), if_neg (by rw [q]; decide), if_pos q]
        rw [q] at k3 hnum
        obtain ⟨ch1, g1, g2⟩ := ac_L (N := N) (row := row) (xn := xn) (yn := yn) hN hrow h5 (fun i hi => hnum i hi) (fun i hi => (k3 i hi).1) o1 o2 N 16 (by omega) (by omega) ch hx hy o1 o2
        rw [if_neg (show ¬ 16 = 0 by omega), if_neg (show ¬ 16 = 0 by omega)] at g1
        obtain ⟨bx', yb', ch', c1, c2, c3, c4⟩ := IH ch1 _ _ bx yb true (pX_ok (t := 16) o1 (fun i hi => hnum i hi) (by omega)) (pY_ok (t := 16) o2 (fun i hi => hnum i hi) (by omega)) o3 o4 (fun h => by cases h)
        refine ⟨bx', yb', ch', ?_, c2, c3, adds_app g2 c4⟩
        unfold xCover_addCubicI
        rw [e6, if_neg (i_n0 (by omega)), if_pos (show nI (6 * k) + 6 ≤ (900 : Int32) by rw [show nI (6 * k) + 6 = nI (6 * k + 6) from z_add _ 6, show (900 : Int32) = nI 900 from rfl, z_le (by omega) (by omega)]; omega)]
        rw [show xCover_addCubicI_L28 N N (nI (6 * k)) hx hy 1 (jN (256 * row)) hx hy ch xn = _ from g1, z_b3, e2]
        exact c1
      · rw [edS_3 q, if_neg (by rw [q]; decide), if_neg (by rw [q]; decide), if_neg (by rw [q]; decide)]
        obtain ⟨bx', yb', ch', c1, c2, c3, c4⟩ := IH chO bx yb bx yb false o3 o4 o3 o4 (fun _ => ⟨rfl, rfl⟩)
        refine ⟨bx', yb', ch', ?_, c2, c3, adds_app f3 c4⟩
        rw [f1, z_b3, e2]
        exact c1
theorem edA_any {cn : Nat} {yk yn : Nat → Int32} (h : cn = 0 ∨ yk 0 = 0) (x y : Int64) : edS yk yn cn 0 x y x y false = edA cn yk yn := by
  unfold edA
  cases cn with
  | zero => rfl
  | succ cn =>
    have h : yk 0 = 0 := h.resolve_left (by omega)
    rw [edS_0 h, edS_0 h]
    rfl
theorem ad_eq {N cn row : Nat} {xk xn yk yn ch : Nat → Int32} {x y : Int64} (hN : 200 ≤ N) (hrow : row < 8) (hD : rD cn xk xn yk yn) (hM : cn = 0 ∨ yk 0 = 0) (hx : okL x) (hy : okL y) : ∃ x' y' ch', xCover_addDrawing N (jN (256 * row)) x y x y ch (nI cn) xk xn = some (x', y', x', y', ch') ∧ okL x' ∧ okL y' ∧ adds row (sumE (edA cn yk yn)) ch ch' := by
  have hc := hD.1
  obtain ⟨x', y', ch', a, b, c, d⟩ := ad_L hN hrow hD N cn (by omega) (by omega) ch x y x y false hx hy hx hy (fun _ => ⟨rfl, rfl⟩)
  rw [Nat.sub_self] at a d
  rw [edA_any hM] at d
  exact ⟨x', y', ch', a, b, c, d⟩
/-! the reference's sum -/
theorem edO_ok {op : Bool} {x y u v : Int64} (h : okE (x, y, u, v)) : ∀ a ∈ edO op x y u v, okE a := by
  intro a ha
  cases op with
  | false => cases ha
  | true =>
    rcases List.mem_singleton.mp ha with rfl
    exact h
theorem cubL_ok {yn : Nat → Int32} {k : Nat} {x0 y0 : Int64} (h0 : okL x0) (h0' : okL y0) (hn : okN yn k) : ∀ d hx hy, okL hx → okL hy → ∀ a ∈ cubL yn k x0 y0 d hx hy, okE a := by
  intro d
  induction d with
  | zero => intro hx hy _ _ a ha; cases ha
  | succ d ih =>
    intro hx hy ox oy a ha
    have px := pX_ok (t := 16 - d) h0 hn (by omega)
    have py := pY_ok (t := 16 - d) h0' hn (by omega)
    rcases List.mem_cons.mp ha with rfl | ha
    · exact okE_mk ox oy px py
    · exact ih _ _ px py a ha
theorem edS_ok {cn : Nat} {xk xn yk yn : Nat → Int32} (hD : rD cn xk xn yk yn) : ∀ d, d ≤ cn → ∀ hx hy bx yb op, okL hx → okL hy → okL bx → okL yb → ∀ a ∈ edS yk yn d (cn - d) hx hy bx yb op, okE a := by
  intro d
  induction d with
  | zero => intro _ hx hy bx yb op o1 o2 o3 o4; exact edO_ok (okE_mk o1 o2 o3 o4)
  | succ d ih =>
    intro hd hx hy bx yb op o1 o2 o3 o4
    have k1 := (hD.2 (cn - (d + 1)) (by omega)).1
    have hnum : ∀ i, i < nd (yk (cn - (d + 1))) → okL (Int32.toInt64 (yn (6 * (cn - (d + 1)) + i))) := fun i hi => ok_num hD (by omega) hi
    have e1 : cn - (d + 1) + 1 = cn - d := by omega
    have IH := ih (by omega)
    rw [← e1] at IH
    clear ih
    generalize cn - (d + 1) = k at *
    rcases k1 with q | q | q | q
    · rw [edS_0 q]
      rw [q] at hnum
      intro a ha
      rcases List.mem_append.mp ha with ha | ha
      · exact edO_ok (okE_mk o1 o2 o3 o4) a ha
      · exact IH _ _ _ _ false (hnum 0 (by decide)) (hnum 1 (by decide)) (hnum 0 (by decide)) (hnum 1 (by decide)) a ha
    · rw [edS_1 q]
      rw [q] at hnum
      intro a ha
      rcases List.mem_cons.mp ha with rfl | ha
      · exact okE_mk o1 o2 (hnum 0 (by decide)) (hnum 1 (by decide))
      · exact IH _ _ bx yb true (hnum 0 (by decide)) (hnum 1 (by decide)) o3 o4 a ha
    · rw [edS_2 q]
      rw [q] at hnum
      intro a ha
      rcases List.mem_append.mp ha with ha | ha
      · exact cubL_ok o1 o2 (fun i hi => hnum i hi) 16 hx hy o1 o2 a ha
      · exact IH _ _ bx yb true (pX_ok (t := 16) o1 (fun i hi => hnum i hi) (by omega)) (pY_ok (t := 16) o2 (fun i hi => hnum i hi) (by omega)) o3 o4 a ha
    · rw [edS_3 q]
      intro a ha
      rcases List.mem_append.mp ha with ha | ha
      · exact edO_ok (okE_mk o1 o2 o3 o4) a ha
      · exact IH bx yb bx yb false o3 o4 o3 o4 a ha
theorem okL_0 : okL 0 := by unfold okL; decide
theorem edA_ok {cn : Nat} {xk xn yk yn : Nat → Int32} (hD : rD cn xk xn yk yn) : ∀ a ∈ edA cn yk yn, okE a := by
  have := edS_ok hD cn (by omega) 0 0 0 0 false okL_0 okL_0 okL_0 okL_0
  rw [Nat.sub_self] at this
  exact this
theorem pE_below (s : Ed → Int64) (l : List Ed) : ∀ e f j, j < e → pE s l e f j = f j := by
  induction l with
  | nil => intro e f j _; rfl
  | cons a l ih =>
    intro e f j h
    show pE s l (e + 1) _ j = _
    rw [ih _ _ _ (by omega), upd_ne (by omega)]
def aE : List Ed → Nat → (Nat → Int32) → (Nat → Int32) → (Nat → Int32) → (Nat → Int32) → Prop
  | [], _, _, _, _, _ => True
  | a :: l, e, fx, fy, tx, ty => fx e = Int64.toInt32 (eX a) ∧ fy e = Int64.toInt32 (eY a) ∧ tx e = Int64.toInt32 (eU a) ∧ ty e = Int64.toInt32 (eV a) ∧ aE l (e + 1) fx fy tx ty
theorem aE_pE (l : List Ed) : ∀ e fx fy tx ty, aE l e (pE eX l e fx) (pE eY l e fy) (pE eU l e tx) (pE eV l e ty) := by
  induction l with
  | nil => intro e fx fy tx ty; exact True.intro
  | cons a l ih =>
    intro e fx fy tx ty
    refine ⟨?_, ?_, ?_, ?_, ih (e + 1) _ _ _ _⟩
    · show pE eX l (e + 1) _ e = _; rw [pE_below _ _ _ _ _ (by omega), upd_at]
    · show pE eY l (e + 1) _ e = _; rw [pE_below _ _ _ _ _ (by omega), upd_at]
    · show pE eU l (e + 1) _ e = _; rw [pE_below _ _ _ _ _ (by omega), upd_at]
    · show pE eV l (e + 1) _ e = _; rw [pE_below _ _ _ _ _ (by omega), upd_at]
theorem okL_32 {v : Int64} (h : okL v) : (Int64.toInt32 v).toInt = v.toInt := by
  unfold okL at h
  rw [Int64.toInt_toInt32]
  exact Int.bmod_eq_of_le (by omega) (by omega)
theorem mc_eq {e i j : Nat} {a : Ed} {fx fy tx ty : Nat → Int32} (he : e < 2700) (ha : okE a) (hi : i < 128) (hj : j < 128) (h1 : fx e = Int64.toInt32 (eX a)) (h2 : fy e = Int64.toInt32 (eY a)) (h3 : tx e = Int64.toInt32 (eU a)) (h4 : ty e = Int64.toInt32 (eV a)) : m_counts (nI e) (nI (8 + 16 * i)) (nI (8 + 16 * j)) fy ty tx fx = some (cE a (8 + 16 * i : Nat) (8 + 16 * j : Nat)) := by
  obtain ⟨x, y, u, v⟩ := a
  obtain ⟨o1, o2, o3, o4⟩ := ha
  have o1 : okL x := o1
  have o2 : okL y := o2
  have o3 : okL u := o3
  have o4 : okL v := o4
  have g1 : (fx e).toInt = x.toInt := by rw [h1]; exact okL_32 o1
  have g2 : (fy e).toInt = y.toInt := by rw [h2]; exact okL_32 o2
  have g3 : (tx e).toInt = u.toInt := by rw [h3]; exact okL_32 o3
  have g4 : (ty e).toInt = v.toInt := by rw [h4]; exact okL_32 o4
  have p1 : (nI (8 + 16 * i)).toInt = (8 + 16 * i : Nat) := nI_toInt (by omega)
  have p2 : (nI (8 + 16 * j)).toInt = (8 + 16 * j : Nat) := nI_toInt (by omega)
  generalize nI (8 + 16 * i) = px at *
  generalize nI (8 + 16 * j) = py at *
  unfold okL at o1 o2 o3 o4
  have d1 : (Int32.toInt64 (py - fy e)).toInt = (8 + 16 * j : Nat) - y.toInt := by rw [j_of32, i_sub (by omega) (by omega), p2, g2]
  have d2 : (Int32.toInt64 (tx e - fx e)).toInt = u.toInt - x.toInt := by rw [j_of32, i_sub (by omega) (by omega), g3, g1]
  have d3 : (Int32.toInt64 (px - fx e)).toInt = (8 + 16 * i : Nat) - x.toInt := by rw [j_of32, i_sub (by omega) (by omega), p1, g1]
  have d4 : (Int32.toInt64 (ty e - fy e)).toInt = v.toInt - y.toInt := by rw [j_of32, i_sub (by omega) (by omega), g4, g2]
  obtain ⟨m1, _⟩ := j_mB (a := Int32.toInt64 (py - fy e)) (b := Int32.toInt64 (tx e - fx e)) (A := 4194304) (B := 4194304) (by rw [d1]; omega) (by rw [d2]; omega) (by omega)
  obtain ⟨m2, _⟩ := j_mB (a := Int32.toInt64 (px - fx e)) (b := Int32.toInt64 (ty e - fy e)) (A := 4194304) (B := 4194304) (by rw [d3]; omega) (by rw [d4]; omega) (by omega)
  rw [d1, d2] at m1
  rw [d3, d4] at m2
  unfold m_counts m_counts_b24 m_counts_b25 m_counts_b51 m_counts_b52 m_counts_b66 cE
  simp (disch := omega) only [z_kg, z_clamp, i_lt, i_le, p2, g2, g4, Int64.lt_iff_toInt_lt, m1, m2, show ¬ (1 : Int32) = 0 by decide, if_true, if_false]
  generalize ((8 + 16 * i : Nat) : Int) = X at *
  generalize ((8 + 16 * j : Nat) : Int) = Y at *
  generalize (Y - y.toInt) * (u.toInt - x.toInt) = P at *
  generalize (X - x.toInt) * (v.toInt - y.toInt) = Q at *
  by_cases c1 : Y < y.toInt
  · rw [if_pos c1, if_neg (show ¬ (y.toInt ≤ Y ∧ Y < v.toInt ∧ P ≤ Q) by omega)]
    by_cases c2 : Y < v.toInt
    · rw [if_pos c2, if_neg (by omega)]
    · rw [if_neg c2, if_neg (by omega)]
      by_cases c3 : P < Q
      · rw [if_pos c3, if_neg (by omega)]
      · rw [if_neg c3, if_pos (by omega)]
  · rw [if_neg c1]
    by_cases c2 : v.toInt ≤ Y
    · rw [if_pos c2, if_neg (show ¬ Y < v.toInt by omega), if_pos (by omega), if_neg (by omega), if_neg (by omega)]
    · rw [if_neg c2, if_pos (by omega)]
      by_cases c3 : Q < P
      · rw [if_pos c3, if_neg (by omega), if_neg (by omega)]
      · rw [if_neg c3, if_pos (by omega)]
