/-! L3: read. -/
theorem rd_L {N n : Nat} {fa cmds : Int32} {xc yc kin num : Nat → Int32} (hN : 5000 ≤ N) (hT : rT n xc yc) :
    ∀ f s i i', i ≤ i' → i' ≤ n → n + 1 < f + i' → s ≤ i → nb (sgn n yc i') → xReader_passBlanks N (nI i) (nI n) xc = some (nI i') → ∀ wr w x y sX sY cX cY cf dep rows nums pts drw cnt sn sk val mx my msX msY bf tX tY bh wh mat giv dn dk, dep ≤ 8 → (∀ s, s < 6 * (dep + 1) → rows s = mat s) → rP w x y sX sY cX cY cf mx my msX msY bf tX tY → (cnt = 0 → w = 1) → rD cnt sk sn dk dn → rM cnt dk →
    (∃ a1 a2 a3 a4 a5 a6 a7 a8 a9 a10 a11 a12 a13 a14 a15 cnt' sn' sk' b1 b2 b3 b4 b5 b6 b7 b8 b9 b10 b11 b12 b13 b14 b15 dn' dk',
      xReader_placeOfWrong_L34 N f (nI s) (nI i) wr w x y sX sY cX cY cf (nI dep) rows (nI n) xc nums pts drw (nI cnt) sn sk = some (-1, a1, a2, a3, a4, a5, a6, a7, a8, a9, a10, a11, a12, a13, a14, a15, nI cnt', sn', sk') ∧
      m_read_L95 N f fa (nI n) cmds (nI cnt) (nI dep) (nI i') val (-1) w mx my msX msY bf tX tY bh wh mat yc giv dn dk kin num = m_read_b146 N fa cmds (nI cnt') b1 b2 b3 (-1) b4 b5 b6 b7 b8 b9 b10 b11 b12 b13 b14 b15 dn' dk' kin num ∧ rD cnt' sk' sn' dk' dn' ∧ rM cnt' dk') ∨
    (∃ q a1 a2 a3 a4 a5 a6 a7 a8 a9 a10 a11 a12 a13 a14 a15 a16 a17 a18 b0 b1 b2 b3 b4 b5 b6 b7 b8 b9 b10 b11 b12 b13 b14 b15 b16 b17, q ≤ n ∧
      xReader_placeOfWrong_L34 N f (nI s) (nI i) wr w x y sX sY cX cY cf (nI dep) rows (nI n) xc nums pts drw (nI cnt) sn sk = some (nI q, a1, a2, a3, a4, a5, a6, a7, a8, a9, a10, a11, a12, a13, a14, a15, a16, a17, a18) ∧
      m_read_L95 N f fa (nI n) cmds (nI cnt) (nI dep) (nI i') val (-1) w mx my msX msY bf tX tY bh wh mat yc giv dn dk kin num = m_read_b146 N fa cmds b0 b1 b2 b3 (nI q) b4 b5 b6 b7 b8 b9 b10 b11 b12 b13 b14 b15 b16 b17 kin num) := by
  have hn := hT.1
  have n1 : ¬ (1 : Int32) = 0 := by decide
  have nm : ¬ (0 : Int32) ≤ -1 := by decide
  have stop : ∀ f cnt dep at0 val wr w mx my msX msY bf tX tY bh wh mat giv dn dk, 0 < f → (0 : Int32) ≤ wr → m_read_L95 N f fa (nI n) cmds cnt dep at0 val wr w mx my msX msY bf tX tY bh wh mat yc giv dn dk kin num = m_read_b146 N fa cmds cnt dep at0 val wr w mx my msX msY bf tX tY bh wh mat giv dn dk kin num := fun f cnt dep at0 val wr w mx my msX msY bf tX tY bh wh mat giv dn dk hf h => by
    obtain ⟨f, rfl⟩ : ∃ f', f = f' + 1 := ⟨f - 1, by omega⟩
    show m_read_B95 N (m_read_L95 N f) fa (nI n) cmds cnt dep at0 val wr w mx my msX msY bf tX tY bh wh mat yc giv dn dk kin num = _
    unfold m_read_B95 m_read_b124
    rw [if_pos h, if_pos h, ite_self]
  intro f
  induction f with
  | zero => intro s i i' a b c d; omega
  | succ f ih =>
    intro s i i' h1 h2 h3 h4 hnb hpb wr w x y sX sY cX cY cf dep rows nums pts drw cnt sn sk val mx my msX msY bf tX tY bh wh mat giv dn dk hd hX hP hc hD hM
    have ex : xReader_placeOfWrong_L34 N (f + 1) (nI s) (nI i) wr w x y sX sY cX cY cf (nI dep) rows (nI n) xc nums pts drw (nI cnt) sn sk = xReader_placeOfWrong_B34 N (xReader_placeOfWrong_L34 N f) (nI s) (nI i) wr w x y sX sY cX cY cf (nI dep) rows (nI n) xc nums pts drw (nI cnt) sn sk := rfl
    have ey : m_read_L95 N (f + 1) fa (nI n) cmds (nI cnt) (nI dep) (nI i') val (-1) w mx my msX msY bf tX tY bh wh mat yc giv dn dk kin num = m_read_B95 N (m_read_L95 N f) fa (nI n) cmds (nI cnt) (nI dep) (nI i') val (-1) w mx my msX msY bf tX tY bh wh mat yc giv dn dk kin num := rfl
    rw [ex, ey]
    unfold xReader_placeOfWrong_B34 m_read_B95
    rw [if_neg (show ¬ (1200 : Int32) < nI s by rw [show (1200 : Int32) = nI 1200 from rfl, z_lt (by omega) (by omega)]; omega), hpb, z_b1]
    by_cases he : i' = n
    · subst he
      rw [if_neg (show ¬ nI i' < nI i' by rw [z_lt (by omega) (by omega)]; omega), if_pos (show nI i' ≤ nI i' by rw [z_le (by omega) (by omega)]; omega)]
      unfold m_read_b124
      rw [if_neg nm]
      by_cases h0 : dep = 0
      · subst h0
        rw [if_pos (show nI 0 = 0 from rfl), if_pos (by decide)]
        exact Or.inl ⟨_, _, _, _, _, _, _, _, _, _, _, _, _, _, _, cnt, sn, sk, _, _, _, _, _, _, _, _, _, _, _, _, _, _, _, dn, dk, rfl, rfl, hD, hM⟩
      · rw [if_neg (show ¬ nI dep = 0 by rw [show (0 : Int32) = nI 0 from rfl, z_inj (by omega) (by omega)]; exact h0), if_neg (show ¬ nI dep ≤ 0 by rw [show (0 : Int32) = nI 0 from rfl, z_le (by omega) (by omega)]; omega)]
        exact Or.inr ⟨i', _, _, _, _, _, _, _, _, _, _, _, _, _, _, _, _, _, _, _, _, _, _, _, _, _, _, _, _, _, _, _, _, _, _, _, _, h2, rfl, rfl⟩
    · rw [if_pos (show nI i' < nI n by rw [z_lt (by omega) (by omega)]; omega), if_neg (show ¬ nI n ≤ nI i' by rw [z_le (by omega) (by omega)]; omega), if_neg nm, at_eq hT (by omega), z_b1, show nI i' + 1 = nI (i' + 1) from z_add i' 1]
      obtain ⟨q, hq, hs⟩ : ∃ q, q < 127 ∧ sgn n yc i' = nI q := by
        obtain ⟨p1, p2⟩ := sgn_b (i := i') hT
        exact ⟨(sgn n yc i').toInt.toNat, by omega, Int32.toInt_inj.mp (by rw [nI_toInt (by omega)]; omega)⟩
      rw [hs]
      -- what follows a step that was right
      have next : ∀ i2, i' < i2 → i2 ≤ n → ∃ i3, i2 ≤ i3 ∧ i3 ≤ n ∧ nb (sgn n yc i3) ∧ xReader_passBlanks N (nI i2) (nI n) xc = some (nI i3) ∧ m_skip N (nI n) (nI i2) yc = some (nI i3) := fun i2 _ h => sk_eq (by omega) hT h
      by_cases h40 : nI q = 40
      · have er : m_readOne N (nI n) (nI cnt) (nI dep) (nI i') val (-1) w mx my msX msY bf tX tY bh wh yc giv mat dn dk = kb9 (m_openGroup N (nI i') (nI n) (nI dep) (nI i') val (-1) w bh wh yc giv mat) fun v_o_depth_18 v_o_at_18 v_o_value_18 v_o_wrong_18 v_o_wantsMove_18 v_o_behind_18 v_o_whole_18 c_o_given_18 c_o_matrix_18 => some (nI cnt, v_o_depth_18, v_o_at_18, v_o_value_18, v_o_wrong_18, v_o_wantsMove_18, mx, my, msX, msY, bf, tX, tY, v_o_behind_18, v_o_whole_18, c_o_given_18, c_o_matrix_18, dn, dk) := by
          unfold m_readOne; rw [sign_eq hT (by omega), z_b1, hs, if_pos h40]
        rw [if_pos h40, er]
        unfold xReader_placeOfWrong_b147
        rcases st_op (N := N) (p := i') (wr := wr) (due := w) (cf := cf) (bh := bh) (x := x) (y := y) (val := val) (wh := wh) (w := w) (nums := nums) (giv := giv) hN hT (by omega) hd hX with ⟨i2, nums', rows', val', bh', wh', giv', mat', c1, c2, c3, c4, c5, c6⟩ | ⟨g, a1, a3, a4, a5, a6, a7, a8, a9, b1, j2, b3, b5, b6, b7, b8, b9, c1, c2, c3, c4⟩
        · obtain ⟨i3, k1, k2, k3, k4, k5⟩ := next i2 c2 c3
          rw [c5, z_b10, if_neg n1, c6, z_b9, z_b19, k5, z_b1, show nI s + 1 = nI (s + 1) from z_add s 1]
          exact ih (s + 1) i2 i3 k1 k2 (by omega) (by omega) k3 k4 wr 1 0 0 sX sY cX cY 0 (dep + 1) rows' nums' pts drw cnt sn sk val' mx my msX msY bf tX tY bh' wh' mat' giv' dn dk c1 c4 (Or.inl ⟨rfl, rfl, rfl, rfl⟩) (fun _ => rfl) hD hM
        · obtain ⟨i3, k1, k2, k3, k4, k5⟩ := sk_eq (N := N) (i := j2) (by omega) hT c2
          rw [c3, z_b10, if_pos rfl, c4, z_b9, z_b19, k5, z_b1, stop f _ _ _ _ _ _ _ _ _ _ _ _ _ _ _ _ _ _ _ (by omega) (wr_ge (by omega))]
          exact Or.inr ⟨g, _, _, _, _, _, _, _, _, _, _, _, _, _, _, _, _, _, _, _, _, _, _, _, _, _, _, _, _, _, _, _, _, _, _, _, _, c1, rfl, rfl⟩
      · rw [if_neg h40]
        by_cases h41 : nI q = 41
        · have er : m_readOne N (nI n) (nI cnt) (nI dep) (nI i') val (-1) w mx my msX msY bf tX tY bh wh yc giv mat dn dk = if nI dep = 0 then some (nI cnt, nI dep, nI (i' + 1), val, nI i', w, mx, my, msX, msY, bf, tX, tY, bh, wh, giv, mat, dn, dk) else some (nI cnt, nI dep - 1, nI (i' + 1), val, -1, 1, mx, my, msX, msY, bf, tX, tY, bh, wh, giv, mat, dn, dk) := by
            unfold m_readOne; rw [sign_eq hT (by omega), z_b1, hs, if_neg h40, if_pos h41, show nI i' + 1 = nI (i' + 1) from z_add i' 1]
          rw [if_pos h41, er]
          unfold xReader_placeOfWrong_b147
          obtain ⟨i3, k1, k2, k3, k4, k5⟩ := next (i' + 1) (by omega) (by omega)
          rcases st_cl (p := i') (wr := wr) (due := w) (cf := cf) (x := x) (y := y) hd with ⟨c1, c2⟩ | ⟨rfl, c2⟩
          · rw [c2, z_b7, if_neg n1, if_neg (show ¬ nI dep = 0 by rw [show (0 : Int32) = nI 0 from rfl, z_inj (by omega) (by omega)]; omega), z_b19, k5, z_b1, show nI dep - 1 = nI (dep - 1) from z_sub (b := 1) (by omega), show nI s + 1 = nI (s + 1) from z_add s 1]
            exact ih (s + 1) (i' + 1) i3 k1 k2 (by omega) (by omega) k3 k4 wr 1 0 0 sX sY cX cY 0 (dep - 1) rows nums pts drw cnt sn sk val mx my msX msY bf tX tY bh wh mat giv dn dk (by omega) (fun t ht => hX t (by omega)) (Or.inl ⟨rfl, rfl, rfl, rfl⟩) (fun _ => rfl) hD hM
          · rw [c2, z_b7, if_pos rfl, if_pos (show nI 0 = 0 from rfl), z_b19, k5, z_b1, stop f _ _ _ _ _ _ _ _ _ _ _ _ _ _ _ _ _ _ _ (by omega) (wr_ge (by omega))]
            exact Or.inr ⟨i', _, _, _, _, _, _, _, _, _, _, _, _, _, _, _, _, _, _, _, _, _, _, _, _, _, _, _, _, _, _, _, _, _, _, _, _, h2, rfl, rfl⟩
        · rw [if_neg h41]
          unfold xReader_placeOfWrong_b147
          rcases st_lt (N := N) (p := i') (q := q) (wr := wr) (bh := bh) (val := val) (wh := wh) (pts := pts) (nums := nums) (drw := drw) (giv := giv) hN hT (by omega) hq hs h40 h41 hd hX hP hc hD hM with ⟨i2, nums', x', y', sX', sY', cX', cY', cf', pts', drw', cnt', sn', sk', val', mx', my', msX', msY', bf', tX', tY', bh', wh', dn', dk', giv', k1, k2, k4, k5, k6, k7, k8, k9⟩ | ⟨g, a1, a3, a4, a5, a6, a7, a8, a9, a10, a11, a12, a13, a14, a15, a16, b1, b2, j2, b4, b6, b7, b8, b9, b10, b11, b12, b13, b14, b15, b16, b17, b18, b19, k1, k2, k3, k4⟩
          · obtain ⟨i3, m1, m2, m3, m4, m5⟩ := next i2 k1 k2
            rw [k5, z_b17, if_neg n1, k6, z_b19, m5, z_b1, show nI s + 1 = nI (s + 1) from z_add s 1]
            exact ih (s + 1) i2 i3 m1 m2 (by omega) (by omega) m3 m4 wr 0 x' y' sX' sY' cX' cY' cf' dep rows nums' pts' drw' cnt' sn' sk' val' mx' my' msX' msY' bf' tX' tY' bh' wh' mat giv' dn' dk' hd hX k7 (fun h => by omega) k8 k9
          · obtain ⟨i3, m1, m2, m3, m4, m5⟩ := sk_eq (N := N) (i := j2) (by omega) hT k2
            rw [k3, z_b17, if_pos rfl, k4, z_b19, m5, z_b1, stop f _ _ _ _ _ _ _ _ _ _ _ _ _ _ _ _ _ _ _ (by omega) (wr_ge (by omega))]
            exact Or.inr ⟨g, _, _, _, _, _, _, _, _, _, _, _, _, _, _, _, _, _, _, _, _, _, _, _, _, _, _, _, _, _, _, _, _, _, _, _, _, k1, rfl, rfl⟩
theorem cp_in {N k : Nat} {k175 : _} {fa size cmds cnt dep at0 : Int32} {val : Int64} {wr w : Int32} {mx my msX msY : Int64} {bf : Int32} {tX tY : Int64} {bh : Int32} {wh : Int64} {mat giv : Nat → Int64} {dn dk kin : Nat → Int32} (hk : k < 150) : ∀ f j, j ≤ 6 → 6 < f + j → ∀ num : Nat → Int32, ∃ num' : Nat → Int32, (∀ a, 6 * k + j ≤ a → a < 6 * k + 6 → num' a = dn a) ∧ (∀ a, a < 6 * k + j → num' a = num a) ∧ m_read_L197 N k175 f (nI k) (nI j) fa size cmds cnt dep at0 val wr w mx my msX msY bf tX tY bh wh mat giv dn dk kin num = k175 (nI (k + 1)) fa size cmds cnt dep at0 val wr w mx my msX msY bf tX tY bh wh mat giv dn dk kin num' := by
  intro f
  induction f with
  | zero => intro j a b; omega
  | succ f ih =>
    intro j hj hf num
    show ∃ num' : Nat → Int32, _ ∧ _ ∧ m_read_B197 N k175 (m_read_L197 N k175 f) (nI k) (nI j) fa size cmds cnt dep at0 val wr w mx my msX msY bf tX tY bh wh mat giv dn dk kin num = _
    unfold m_read_B197
    rw [show nI k + 1 = nI (k + 1) from z_add k 1, show (6 : Int32) * nI k = nI (6 * k) from z_mul 6 k, z_add, show nI j + 1 = nI (j + 1) from z_add j 1]
    by_cases h : j = 6
    · subst h
      exact ⟨num, fun a h1 h2 => by omega, fun a _ => rfl, by rw [if_pos (by decide)]⟩
    · rw [if_neg (show ¬ (6 : Int32) ≤ nI j by rw [show (6 : Int32) = nI 6 from rfl, z_le (by omega) (by omega)]; omega), z_kg (by omega) (by omega), z_kg (by omega) (by omega), z_clamp (by omega)]
      obtain ⟨num', p1, p2, p3⟩ := ih (j + 1) (by omega) (by omega) (upd num (6 * k + j) (dn (6 * k + j)))
      refine ⟨num', fun a h1 h2 => ?_, fun a h1 => ?_, p3⟩
      · by_cases q : a = 6 * k + j
        · rw [p2 a (by omega), q, upd_at]
        · exact p1 a (by omega) h2
      · rw [p2 a (by omega), upd_ne (by omega)]
theorem cp_out {N c : Nat} {fa size cmds dep at0 : Int32} {val : Int64} {wr w : Int32} {mx my msX msY : Int64} {bf : Int32} {tX tY : Int64} {bh : Int32} {wh : Int64} {mat giv : Nat → Int64} {dn dk : Nat → Int32} (hN : 5000 ≤ N) (hc : c ≤ 150) : ∀ f k, k ≤ c → c < f + k → ∀ kin num : Nat → Int32, (∀ a, a < k → kin a = dk a) → (∀ a, a < 6 * k → num a = dn a) → ∃ kin' num' : Nat → Int32, (∀ a, a < c → kin' a = dk a) ∧ (∀ a, a < 6 * c → num' a = dn a) ∧ m_read_L175 N f (nI k) fa size cmds (nI c) dep at0 val wr w mx my msX msY bf tX tY bh wh mat giv dn dk kin num = some (cmds, fa, size, cmds, nI c, dep, at0, val, wr, w, mx, my, msX, msY, bf, tX, tY, bh, wh, mat, giv, dn, dk, kin', num') := by
  intro f
  induction f with
  | zero => intro k a b; omega
  | succ f ih =>
    intro k hk hf kin num h1 h2
    show ∃ kin' num' : Nat → Int32, _ ∧ _ ∧ m_read_B175 N (m_read_L175 N f) (nI k) fa size cmds (nI c) dep at0 val wr w mx my msX msY bf tX tY bh wh mat giv dn dk kin num = _
    unfold m_read_B175
    by_cases h : k = c
    · subst h
      exact ⟨kin, num, h1, h2, by rw [if_pos (show nI k ≤ nI k by rw [z_le (by omega) (by omega)]; omega)]⟩
    · rw [if_neg (show ¬ nI c ≤ nI k by rw [z_le (by omega) (by omega)]; omega), z_kg (by omega) (by omega), z_kg (by omega) (by omega), z_clamp (by omega)]
      obtain ⟨num1, p1, p2, p3⟩ := cp_in (N := N) (k := k) (k175 := m_read_L175 N f) (fa := fa) (size := size) (cmds := cmds) (cnt := nI c) (dep := dep) (at0 := at0) (val := val) (wr := wr) (w := w) (mx := mx) (my := my) (msX := msX) (msY := msY) (bf := bf) (tX := tX) (tY := tY) (bh := bh) (wh := wh) (mat := mat) (giv := giv) (dn := dn) (dk := dk) (kin := upd kin k (dk k)) (by omega) N 0 (by omega) (by omega) num
      rw [show m_read_L197 N (m_read_L175 N f) N (nI k) 0 fa size cmds (nI c) dep at0 val wr w mx my msX msY bf tX tY bh wh mat giv dn dk (upd kin k (dk k)) num = _ from p3]
      refine ih (k + 1) (by omega) (by omega) (upd kin k (dk k)) num1 (fun a ha => ?_) (fun a ha => ?_)
      · by_cases q : a = k
        · rw [q, upd_at]
        · rw [upd_ne q]; exact h1 a (by omega)
      · by_cases q : a < 6 * k
        · rw [p2 a (by omega)]; exact h2 a q
        · exact p1 a (by omega) (by omega)
theorem fillJ {N n : Nat} {v : Int64} (hn : n < 2 ^ 31) (hN : n < N) (c : Nat → Int64) : ∃ c', jArrays_fillJ N n v c = some c' ∧ ∀ k, k < n → c' k = v := by
  have go : ∀ f d, d ≤ n → d < f → ∀ c : Nat → Int64, (∀ k, k < n - d → c k = v) → ∃ c', jArrays_fillJ_L6 N n f v (nI (n - d)) (nI n) c = some c' ∧ ∀ k, k < n → c' k = v := by
    intro f
    induction f with
    | zero => intro d a b; omega
    | succ f ih =>
      intro d hd hf c hc
      show ∃ c', jArrays_fillJ_B6 N n (jArrays_fillJ_L6 N n f) v (nI (n - d)) (nI n) c = some c' ∧ _
      unfold jArrays_fillJ_B6
      by_cases h : d = 0
      · subst h
        exact ⟨c, by rw [if_pos (by rw [z_le (by omega) (by omega)]; omega)], fun k hk => hc k (by omega)⟩
      · rw [if_neg (by rw [z_le (by omega) (by omega)]; omega), z_kg (by omega) hn, z_clamp (by omega), show nI (n - d) + 1 = nI (n - (d - 1)) from (z_add _ 1).trans (by congr 1; omega)]
        exact ih (d - 1) (by omega) (by omega) _ (fun k hk => by
          by_cases e : k = n - d
          · rw [e, updL_at]
          · rw [updL_ne e]; exact hc k (by omega))
  have := go N n (by omega) hN c (fun k hk => by omega)
  rw [Nat.sub_self] at this
  exact this
theorem e_read {N n cn : Nat} {wr bh : Int32} {sX sY cX cY val tX tY wh : Int64} {xc yc xk xn yk yn sn sk dn dk : Nat → Int32} {rows nums pts drw mat giv : Nat → Int64} (hN : 5000 ≤ N) (hT : rT n xc yc) (hD : rD cn xk xn yk yn) (hM : rM cn yk) :
    ∃ r cn' xk' xn' yk' yn' a1 a2 a3 a4 a5 a6 a7 a8 a9 a10 a11 a12 a14 a15 a16 a17 a18 a19 b4 b5 b6 b7 b8 b9 b10 b11 b12 b13 b14 b15 b16 b17 b18 b19 b20 b21 b22, xP_read N wr sX sY cX cY rows (nI n) xc nums pts drw sn sk (nI cn) xk xn = some (r, a1, a2, a3, a4, a5, a6, a7, a8, a9, a10, a11, a12, 0, a14, a15, a16, a17, a18, a19, nI cn', xk', xn') ∧ m_read N (nI n) (nI cn) val tX tY bh wh mat yc giv dn dk yk yn = some (r, 0, 0, nI cn', b4, b5, b6, b7, b8, b9, b10, b11, b12, b13, b14, b15, b16, b17, b18, b19, b20, b21, b22, yk', yn') ∧ rD cn' xk' xn' yk' yn' ∧ rM cn' yk' := by
  have hn := hT.1
  obtain ⟨rows0, f1, f2⟩ := fillJ (N := N) (n := 54) (v := 0) (by omega) (by omega) rows
  obtain ⟨i', k1, k2, k3, k4, k5⟩ := sk_eq (N := N) (i := 0) (by omega) hT (by omega)
  have hX : ∀ s, s < 6 * (0 + 1) → vp_updL (vp_updL rows0 0 256) 3 256 s = vp_updL (vp_updL (vp_updL (vp_updL (vp_updL (vp_updL mat 0 256) 1 0) 2 0) 3 256) 4 0) 5 0 s := fun s hs => by
    have h : s = 0 ∨ s = 1 ∨ s = 2 ∨ s = 3 ∨ s = 4 ∨ s = 5 := by omega
    rcases h with rfl | rfl | rfl | rfl | rfl | rfl
    · rfl
    · exact f2 1 (by omega)
    · exact f2 2 (by omega)
    · rfl
    · exact f2 4 (by omega)
    · exact f2 5 (by omega)
  have hD0 : rD 0 sk sn dk dn := ⟨by omega, fun k hk => by omega⟩
  have hM0 : rM 0 dk := fun h => by omega
  have em : m_read N (nI n) (nI cn) val tX tY bh wh mat yc giv dn dk yk yn = m_read_L95 N N 0 (nI n) (nI cn) (nI 0) (nI 0) (nI i') val (-1) 1 0 0 0 0 0 tX tY bh wh (vp_updL (vp_updL (vp_updL (vp_updL (vp_updL (vp_updL mat 0 256) 1 0) 2 0) 3 256) 4 0) 5 0) yc giv dn dk yk yn := by
    obtain ⟨f, hf⟩ : ∃ f, N = f + 7 := ⟨N - 7, by omega⟩
    have run : m_read_L57 N (f + 7) 0 0 (nI n) (nI cn) 0 0 0 val (-1) 1 0 0 0 0 0 tX tY bh wh mat yc giv dn dk yk yn = kb1 (m_skip N (nI n) 0 yc) fun at92 => m_read_L95 N N 0 (nI n) (nI cn) 0 0 at92 val (-1) 1 0 0 0 0 0 tX tY bh wh (vp_updL (vp_updL (vp_updL (vp_updL (vp_updL (vp_updL mat 0 256) 1 0) 2 0) 3 256) 4 0) 5 0) yc giv dn dk yk yn := rfl
    rw [← hf] at run
    unfold m_read
    rw [run, show m_skip N (nI n) 0 yc = _ from k5, z_b1]
    rfl
  have exx : xReader_placeOfWrong N wr sX sY cX cY rows (nI n) xc nums pts drw sn sk = xReader_placeOfWrong_L34 N N (nI 0) (nI 0) wr 1 0 0 sX sY cX cY 0 (nI 0) (vp_updL (vp_updL rows0 0 256) 3 256) (nI n) xc nums pts drw (nI 0) sn sk := by
    unfold xReader_placeOfWrong xMatrices_startOver
    rw [f1]
    rfl
  rcases rd_L (N := N) (fa := 0) (cmds := nI cn) (kin := yk) (num := yn) hN hT N 0 0 i' k1 k2 (by omega) (by omega) k3 k4 wr 1 0 0 sX sY cX cY 0 0 (vp_updL (vp_updL rows0 0 256) 3 256) nums pts drw 0 sn sk val 0 0 0 0 0 tX tY bh wh (vp_updL (vp_updL (vp_updL (vp_updL (vp_updL (vp_updL mat 0 256) 1 0) 2 0) 3 256) 4 0) 5 0) giv dn dk (by omega) hX (Or.inl ⟨rfl, rfl, rfl, rfl⟩) (fun _ => rfl) hD0 hM0 with ⟨a1, a2, a3, a4, a5, a6, a7, a8, a9, a10, a11, a12, a13, a14, a15, cnt', sn', sk', b1, b2, b3, b4, b5, b6, b7, b8, b9, b10, b11, b12, b13, b14, b15, dn', dk', c1, c2, c3, c4⟩ | ⟨q, a1, a2, a3, a4, a5, a6, a7, a8, a9, a10, a11, a12, a13, a14, a15, a16, a17, a18, b0, b1, b2, b3, b4, b5, b6, b7, b8, b9, b10, b11, b12, b13, b14, b15, b16, b17, c1, c2, c3⟩
  · obtain ⟨kin', num', p1, p2, p3⟩ := cp_out (N := N) (c := cnt') (fa := 0) (size := 0) (cmds := nI cnt') (dep := b1) (at0 := b2) (val := b3) (wr := -1) (w := b4) (mx := b5) (my := b6) (msX := b7) (msY := b8) (bf := b9) (tX := b10) (tY := b11) (bh := b12) (wh := b13) (mat := b14) (giv := b15) (dn := dn') (dk := dk') hN c3.1 N 0 (by omega) (by have := c3.1; omega) yk yn (fun a h => by omega) (fun a h => by omega)
    rw [em, c2]
    unfold m_read_b146
    rw [if_pos (show (-1 : Int32) < 0 by decide), show m_read_L175 N N 0 0 0 (nI cnt') (nI cnt') b1 b2 b3 (-1) b4 b5 b6 b7 b8 b9 b10 b11 b12 b13 b14 b15 dn' dk' yk yn = _ from p3]
    unfold xP_read
    rw [exx, c1, z_b19, if_pos rfl]
    refine ⟨_, cnt', sk', sn', kin', num', _, _, _, _, _, _, _, _, _, _, _, _, _, _, _, _, _, _, _, _, _, _, _, _, _, _, _, _, _, _, _, _, _, _, _, _, _, rfl, rfl, ⟨c3.1, fun k hk => ?_⟩, fun h => by rw [p1 0 h]; exact c4 h⟩
    obtain ⟨u1, u2, u3⟩ := c3.2 k hk
    rw [p1 k hk]
    refine ⟨u1, u2, fun i hi => ?_⟩
    have := nd_le (dk' k)
    rw [p2 (6 * k + i) (by omega)]
    exact u3 i hi
  · rw [em, c3]
    unfold m_read_b146
    rw [if_neg (show ¬ nI q < 0 from wr_nlt (by omega))]
    unfold xP_read
    rw [exx, c2, z_b19, if_neg (wr_ne (by omega))]
    exact ⟨_, cn, xk, xn, yk, yn, _, _, _, _, _, _, _, _, _, _, _, _, _, _, _, _, _, _, _, _, _, _, _, _, _, _, _, _, _, _, _, _, _, _, _, _, _, rfl, rfl, hD, hM⟩
