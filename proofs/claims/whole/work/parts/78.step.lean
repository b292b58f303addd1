/-! L3: read. One step: a bracket or a letter. -/
theorem z_b0 {α β ρ : Type} (a : α) (b : β) (k : α → β → Option ρ) : kb2 (some (a, b)) k = k a b := rfl
theorem full_f {dep : Nat} (h : dep < 8) : xMatrices_isFull (nI dep) = some 0 := by
  unfold xMatrices_isFull
  rw [if_neg (i_n0 (by omega)), if_pos (show nI dep < (8 : Int32) by rw [show (8 : Int32) = nI 8 from rfl, z_lt (by omega) (by omega)]; omega)]
theorem st_op {N n p dep : Nat} {wr due cf bh : Int32} {x y val wh : Int64} {w : Int32} {xc yc : Nat → Int32} {nums rows mat giv : Nat → Int64} (hN : 5000 ≤ N) (hT : rT n xc yc) (hp : p < n) (hd : dep ≤ 8) (hX : ∀ s, s < 6 * (dep + 1) → rows s = mat s) :
    (∃ i2 nums' rows' val' bh' wh' giv' mat', dep + 1 ≤ 8 ∧ p < i2 ∧ i2 ≤ n ∧ (∀ s, s < 6 * (dep + 1 + 1) → rows' s = mat' s) ∧ xReader_takeOpening N (nI p) (nI (p + 1)) wr due x y cf (nI dep) (nI n) xc nums rows = some (1, nI i2, wr, 1, 0, 0, 0, nI (dep + 1), nums', rows') ∧ m_openGroup N (nI p) (nI n) (nI dep) (nI p) val (-1) w bh wh yc giv mat = some (nI (dep + 1), nI i2, val', -1, 1, bh', wh', giv', mat')) ∨
    (∃ q a1 a3 a4 a5 a6 a7 a8 a9 b1 j2 b3 b5 b6 b7 b8 b9, q ≤ n ∧ j2 ≤ n ∧ xReader_takeOpening N (nI p) (nI (p + 1)) wr due x y cf (nI dep) (nI n) xc nums rows = some (0, a1, nI q, a3, a4, a5, a6, a7, a8, a9) ∧ m_openGroup N (nI p) (nI n) (nI dep) (nI p) val (-1) w bh wh yc giv mat = some (b1, nI j2, b3, nI q, b5, b6, b7, b8, b9)) := by
  have hn := hT.1
  have n1 : ¬ (1 : Int32) = 0 := by decide
  have e1 : nI p + 1 = nI (p + 1) := z_add p 1
  unfold xReader_takeOpening m_openGroup
  rw [e1]
  by_cases h8 : dep = 8
  · subst h8
    rw [show xMatrices_isFull (nI 8) = some 1 from rfl, z_b1, if_neg n1, if_pos (show nI 8 = 8 from rfl)]
    exact Or.inr ⟨p, _, _, _, _, _, _, _, _, _, p + 1, _, _, _, _, _, _, by omega, by omega, rfl, rfl⟩
  · rw [full_f (by omega), z_b1, if_pos rfl, if_neg (show ¬ nI dep = (8 : Int32) by rw [show (8 : Int32) = nI 8 from rfl, z_inj (by omega) (by omega)]; exact h8)]
    rcases ns_eq (m := 6) (i := p + 1) (wr := wr) (bh := bh) (val := val) (wh := wh) (nums := nums) (giv := giv) hN hT (by omega) (by omega) with ⟨i1, nums1, giv1, val1, bh1, wh1, d1, d2, d3, d4, d5⟩ | ⟨q, at1, nums1, j2, val1, bh1, wh1, giv1, d1, d0, d2, d3⟩
    · rw [show xReader_takeNumbers N 6 (nI (p + 1)) wr (nI n) xc nums = _ from d4, z_b4, if_neg n1, show m_numerals N 6 (nI n) (nI (p + 1)) val (-1) bh wh yc giv = _ from d5, z_b6, if_pos (by decide)]
      obtain ⟨r, rows', o1, o2, o3, o4, o5⟩ := op_eq (N := N) (rows := rows) (own := nums1) hN (show dep < 8 by omega)
      obtain ⟨wr', M', m1, m2, m3, m4, m5⟩ := mo_eq (N := N) (place := nI p) (at0 := nI i1) (bh := bh1) (val := val1) (wh := wh1) (giv := giv1) (M := mat) hN (show dep < 8 by omega) (wr_ne (by omega))
      have hin : ∀ s, s < 6 → inM rows dep nums1 s = inM mat dep giv1 s := fun s hs => by
        unfold inM
        by_cases h4 : s < 4
        · rw [if_pos h4, if_pos h4, acr_ag hX (by omega), d3 _ (by omega), d3 _ (by omega)]
        · rw [if_neg h4, if_neg h4, acr_ag hX (by omega), d3 _ (by omega), d3 _ (by omega), hX _ (by omega)]
      rw [o1, z_b3, show (6 : Int32) * nI dep = nI (6 * dep) from z_mul 6 dep, show nI (6 * dep) + 6 = nI (6 * (dep + 1)) from (z_add _ 6).trans rfl, m3]
      rcases o2 with rfl | rfl
      · have hw : wr' = nI p := m1.resolve_left (fun z => absurd (o3.mpr fun s hs => by rw [hin s hs]; exact m2.mp z s hs) (by decide))
        subst hw
        exact Or.inr ⟨p, _, _, _, _, _, _, _, _, _, i1, _, _, _, _, _, _, by omega, d2, rfl, rfl⟩
      · have hw : wr' = -1 := m2.mpr (fun s hs => by rw [← hin s hs]; exact o3.mp rfl s hs)
        subst hw
        refine Or.inl ⟨i1, _, rows', _, _, _, _, M', by omega, by omega, d2, fun s hs => ?_, rfl, rfl⟩
        by_cases q : s < 6 * (dep + 1)
        · rw [o4 s q, m4 s q]; exact hX s q
        · have := o5 (s - 6 * (dep + 1)) (by omega)
          have h5 := m5 (s - 6 * (dep + 1)) (by omega)
          rw [show 6 * (dep + 1) + (s - 6 * (dep + 1)) = s by omega] at this h5
          rw [this, h5]; exact hin _ (by omega)
    · rw [show xReader_takeNumbers N 6 (nI (p + 1)) wr (nI n) xc nums = _ from d2, z_b4, if_pos rfl, show m_numerals N 6 (nI n) (nI (p + 1)) val (-1) bh wh yc giv = _ from d3, z_b6, if_neg (wr_nlt (by omega))]
      exact Or.inr ⟨q, _, _, _, _, _, _, _, _, _, j2, _, _, _, _, _, _, d1, d0, rfl, rfl⟩
theorem st_cl {p dep : Nat} {wr due cf : Int32} {x y : Int64} (hd : dep ≤ 8) : (0 < dep ∧ xReader_takeClosing (nI p) wr due x y cf (nI dep) = some (1, wr, 1, 0, 0, 0, nI (dep - 1))) ∨ (dep = 0 ∧ xReader_takeClosing (nI p) wr due x y cf (nI dep) = some (0, nI p, due, x, y, cf, nI 0)) := by
  unfold xReader_takeClosing xMatrices_shut
  by_cases h : dep = 0
  · subst h
    exact Or.inr ⟨rfl, rfl⟩
  · rw [if_pos (show (0 : Int32) < nI dep by rw [show (0 : Int32) = nI 0 from rfl, z_lt (by omega) (by omega)]; omega), show nI dep - 1 = nI (dep - 1) from z_sub (b := 1) (by omega)]
    exact Or.inl ⟨by omega, rfl⟩
def smx (q : Nat) : Int32 := if nI q < 97 then 0 else if 122 < nI q then 0 else 1
def cap (q : Nat) : Int32 := if smx q = 0 then nI q else k2c (nI q - 97 + 65)
def low (q : Nat) : Int32 := if nI q < 65 then nI q else if 90 < nI q then nI q else nI q + 32
def smm (q : Nat) : Int32 := if nI q < 97 then 0 else 1
def cmm (q : Nat) : Int32 := if smm q = 0 then nI q + 32 else nI q
def lts : List (Nat × Nat × Nat) := [(77, 109, 2), (76, 108, 2), (72, 104, 1), (86, 118, 1), (67, 99, 6), (83, 115, 4), (81, 113, 4), (84, 116, 2), (90, 122, 0)]
theorem lq_all : ∀ q, q < 127 → (xReader_numbersBehind (cap q) = some (-1) ∧ m_needs (low q) = some (-1)) ∨ (∃ t ∈ lts, cap q = nI t.1 ∧ low q = nI t.2.1 ∧ cmm q = nI t.2.1 ∧ smx q = smm q ∧ xReader_numbersBehind (nI t.1) = some (nI t.2.2) ∧ m_needs (nI t.2.1) = some (nI t.2.2)) := by decide +kernel
theorem lts_all : ∀ t ∈ lts, (t = (90, 122, 0) ∨ ltr (nI t.1) (nI t.2.1) t.2.2) := by
  intro t ht
  unfold lts at ht
  simp only [List.mem_cons, List.mem_nil_iff, or_false] at ht
  unfold ltr
  rcases ht with rfl | rfl | rfl | rfl | rfl | rfl | rfl | rfl | rfl
  · exact Or.inr (Or.inl ⟨rfl, rfl, rfl⟩)
  · exact Or.inr (Or.inr (Or.inl ⟨rfl, rfl, rfl⟩))
  · exact Or.inr (Or.inr (Or.inr (Or.inl ⟨rfl, rfl, rfl⟩)))
  · exact Or.inr (Or.inr (Or.inr (Or.inr (Or.inl ⟨rfl, rfl, rfl⟩))))
  · exact Or.inr (Or.inr (Or.inr (Or.inr (Or.inr (Or.inl ⟨rfl, rfl, rfl⟩)))))
  · exact Or.inr (Or.inr (Or.inr (Or.inr (Or.inr (Or.inr (Or.inl ⟨rfl, rfl, rfl⟩))))))
  · exact Or.inr (Or.inr (Or.inr (Or.inr (Or.inr (Or.inr (Or.inr (Or.inl ⟨rfl, rfl, rfl⟩)))))))
  · exact Or.inr (Or.inr (Or.inr (Or.inr (Or.inr (Or.inr (Or.inr (Or.inr ⟨rfl, rfl, rfl⟩)))))))
  · exact Or.inl rfl
theorem tk_eq {N q : Nat} {x2 at0 wr due : Int32} {len : Int32} {xc : Nat → Int32} {nums : Nat → Int64} {x y sX sY cX cY : Int64} {cf : Int32} {pts : Nat → Int64} {dep : Int32} {rows drw : Nat → Int64} {cnt : Int32} {sn sk : Nat → Int32} : xReader_takeLetter N (nI q) x2 at0 wr due len xc nums x y sX sY cX cY cf pts dep rows drw cnt sn sk = xReader_takeLetter_b36 N x2 (smx q) (cap q) at0 wr due len xc nums x y sX sY cX cY cf pts dep rows drw cnt sn sk := by
  unfold xReader_takeLetter xReader_takeLetter_b16 xReader_takeLetter_b17 cap smx
  by_cases h : nI q < 97
  · simp only [if_pos h, if_true]
  · simp only [if_neg h]
    by_cases h' : (122 : Int32) < nI q
    · simp only [if_pos h', if_true]
    · simp only [if_neg h', show ¬ (1 : Int32) = 0 by decide, if_false]
theorem co_eq {N q : Nat} {x2 : Int32} {size cnt dep at0 : Int32} {val : Int64} {wr w : Int32} {mx my msX msY : Int64} {bf : Int32} {tX tY : Int64} {bh : Int32} {wh : Int64} {mat : Nat → Int64} {dn dk : Nat → Int32} {giv : Nat → Int64} {yc : Nat → Int32} : m_commandsOf N (nI q) x2 size cnt dep at0 val wr w mx my msX msY bf tX tY bh wh mat dn dk giv yc = m_commandsOf_b24 N x2 (smm q) (cmm q) size cnt dep at0 val wr w mx my msX msY bf tX tY bh wh mat dn dk giv yc := by
  unfold m_commandsOf m_commandsOf_b11 cmm smm
  by_cases h : nI q < 97
  · simp only [if_pos h, if_true]
  · simp only [if_neg h, show ¬ (1 : Int32) = 0 by decide, if_false]
theorem ro_eq {N n q : Nat} {i : Nat} {cnt dep : Int32} {val : Int64} {wr w : Int32} {mx my msX msY : Int64} {bf : Int32} {tX tY : Int64} {bh : Int32} {wh : Int64} {mat : Nat → Int64} {dn dk : Nat → Int32} {giv : Nat → Int64} {xc yc : Nat → Int32} (hT : rT n xc yc) (hi : i ≤ n) (hq : sgn n yc i = nI q) (h40 : ¬ nI q = 40) (h41 : ¬ nI q = 41) : m_readOne N (nI n) cnt dep (nI i) val wr w mx my msX msY bf tX tY bh wh yc giv mat dn dk = m_readOne_b91 N (nI i) (nI q) (low q) (nI n) cnt dep (nI i) val wr w mx my msX msY bf tX tY bh wh yc giv mat dn dk := by
  have hn := hT.1
  unfold m_readOne m_readOne_b90 low
  rw [sign_eq hT (by omega), z_b1, hq, if_neg h40, if_neg h41]
  by_cases h : nI q < 65
  · simp only [if_pos h]
  · simp only [if_neg h]
    by_cases h' : (90 : Int32) < nI q
    · simp only [if_pos h']
    · simp only [if_neg h']
theorem st_lt {N n p q dep cnt : Nat} {wr w cf bf bh : Int32} {x y sX sY cX cY mx my msX msY tX tY val wh : Int64} {xc yc sn sk dn dk : Nat → Int32} {pts nums drw rows mat giv : Nat → Int64} (hN : 5000 ≤ N) (hT : rT n xc yc) (hp : p < n) (hq : q < 127) (hs : sgn n yc p = nI q) (h40 : ¬ nI q = 40) (h41 : ¬ nI q = 41) (hd : dep ≤ 8) (hX : ∀ s, s < 6 * (dep + 1) → rows s = mat s) (hP : rP w x y sX sY cX cY cf mx my msX msY bf tX tY) (hc : cnt = 0 → w = 1) (hD : rD cnt sk sn dk dn) (hM : rM cnt dk) :
    (∃ i' nums' x' y' sX' sY' cX' cY' cf' pts' drw' cnt' sn' sk' val' mx' my' msX' msY' bf' tX' tY' bh' wh' dn' dk' giv', p < i' ∧ i' ≤ n ∧ 0 < cnt' ∧
      xReader_takeLetter N (nI q) (nI p) (nI (p + 1)) wr w (nI n) xc nums x y sX sY cX cY cf pts (nI dep) rows drw (nI cnt) sn sk = some (1, nI i', wr, 0, nums', x', y', sX', sY', cX', cY', cf', pts', drw', nI cnt', sn', sk') ∧
      m_readOne N (nI n) (nI cnt) (nI dep) (nI p) val (-1) w mx my msX msY bf tX tY bh wh yc giv mat dn dk = some (nI cnt', nI dep, nI i', val', -1, 0, mx', my', msX', msY', bf', tX', tY', bh', wh', giv', mat, dn', dk') ∧ rP 0 x' y' sX' sY' cX' cY' cf' mx' my' msX' msY' bf' tX' tY' ∧ rD cnt' sk' sn' dk' dn' ∧ rM cnt' dk') ∨
    (∃ g a1 a3 a4 a5 a6 a7 a8 a9 a10 a11 a12 a13 a14 a15 a16 b1 b2 j2 b4 b6 b7 b8 b9 b10 b11 b12 b13 b14 b15 b16 b17 b18 b19, g ≤ n ∧ j2 ≤ n ∧
      xReader_takeLetter N (nI q) (nI p) (nI (p + 1)) wr w (nI n) xc nums x y sX sY cX cY cf pts (nI dep) rows drw (nI cnt) sn sk = some (0, a1, nI g, a3, a4, a5, a6, a7, a8, a9, a10, a11, a12, a13, a14, a15, a16) ∧
      m_readOne N (nI n) (nI cnt) (nI dep) (nI p) val (-1) w mx my msX msY bf tX tY bh wh yc giv mat dn dk = some (b1, b2, nI j2, b4, nI g, b6, b7, b8, b9, b10, b11, b12, b13, b14, b15, b16, b17, b18, b19)) := by
  have hn := hT.1
  have n1 : ¬ (1 : Int32) = 0 := by decide
  have e1 : nI p + 1 = nI (p + 1) := z_add p 1
  rw [tk_eq, ro_eq hT (by omega) hs h40 h41]
  unfold xReader_takeLetter_b36 m_readOne_b91 m_readOne_b118 m_readOne_b112
  rcases lq_all q hq with ⟨l1, l2⟩ | ⟨⟨C, c, m⟩, lm, l1, l2, l3, l4, l5, l6⟩
  · rw [l1, z_b1, if_pos rfl, l2, z_b1, if_pos (by decide)]
    exact Or.inr ⟨p, _, _, _, _, _, _, _, _, _, _, _, _, _, _, _, _, _, p, _, _, _, _, _, _, _, _, _, _, _, _, _, _, _, by omega, by omega, rfl, rfl⟩
  have l1 : cap q = nI C := l1
  have l2 : low q = nI c := l2
  have l3 : cmm q = nI c := l3
  have l5 : xReader_numbersBehind (nI C) = some (nI m) := l5
  have l6 : m_needs (nI c) = some (nI m) := l6
  have hm : m < 7 := by
    unfold lts at lm
    simp only [List.mem_cons, List.mem_nil_iff, or_false, Prod.mk.injEq] at lm
    omega
  rw [l1, l5, z_b1, l2, l6, z_b1, if_neg (wr_ne (by omega)), if_neg (wr_nlt (by omega))]
  have hCc : (nI C = 77 ↔ nI c = 109) := by
    rcases lts_all _ lm with e | e
    · obtain ⟨rfl, rfl, rfl⟩ : C = 90 ∧ c = 122 ∧ m = 0 := by simpa using e
      decide
    · exact ltr_7 e
  by_cases hw : w = 1 ∧ ¬ nI C = 77
  · obtain ⟨rfl, h7⟩ := hw
    rw [if_neg n1, if_neg h7, if_neg n1, if_neg (fun z => h7 (hCc.mpr z))]
    exact Or.inr ⟨p, _, _, _, _, _, _, _, _, _, _, _, _, _, _, _, _, _, p, _, _, _, _, _, _, _, _, _, _, _, _, _, _, _, by omega, by omega, rfl, rfl⟩
  have hw' : w = 1 → nI C = 77 := fun z => Classical.byContradiction fun z' => hw ⟨z, z'⟩
  have hw0 : w = 0 ∨ w = 1 := by
    rcases hP with ⟨z, _⟩ | ⟨z, _⟩
    · exact Or.inr z
    · exact Or.inl z
  have hx : ∀ A B : Option (Int32 × Int32 × Int32 × Int32 × (Nat → Int64) × Int64 × Int64 × Int64 × Int64 × Int64 × Int64 × Int32 × (Nat → Int64) × (Nat → Int64) × Int32 × (Nat → Int32) × (Nat → Int32)), (if w = 0 then A else if nI C = 77 then A else B) = A := fun A B => by
    rcases hw0 with z | z
    · rw [if_pos z]
    · rw [if_pos (hw' z), ite_self]
  have hy : ∀ A B : Option (Int32 × Int32 × Int32 × Int64 × Int32 × Int32 × Int64 × Int64 × Int64 × Int64 × Int32 × Int64 × Int64 × Int32 × Int64 × (Nat → Int64) × (Nat → Int64) × (Nat → Int32) × (Nat → Int32)), (if w = 0 then A else if nI c = 109 then A else B) = A := fun A B => by
    rcases hw0 with z | z
    · rw [if_pos z]
    · rw [if_pos (hCc.mp (hw' z)), ite_self]
  rw [hx, hy, co_eq, l3, l4]
  unfold xReader_takeLetter_b71 m_commandsOf_b24
  rw [e1]
  rcases lts_all _ lm with e | e
  · obtain ⟨rfl, rfl, rfl⟩ : C = 90 ∧ c = 122 ∧ m = 0 := by simpa using e
    have hP0 := hP
    rcases hP with ⟨z, _⟩ | ⟨rfl, g1, g2, g3, g4, _⟩
    · exact absurd (hw' z) (by decide)
    have hn0 : 0 < cnt := by
      rcases Nat.eq_zero_or_pos cnt with q | q
      · exact absurd (hc q) (by decide)
      · exact q
    rw [if_pos (by decide)]
    obtain ⟨f, hf⟩ : ∃ f, N = f + 1 := ⟨N - 1, by omega⟩
    have tn : xReader_takeNumbers N (nI 0) (nI (p + 1)) wr (nI n) xc nums = some (1, nI (p + 1), wr, nums) := by
      have : xReader_takeNumbers_L2 N (f + 1) (nI 0) 0 (nI (p + 1)) wr (nI n) xc nums = some (1, nI (p + 1), wr, nums) := rfl
      rw [← hf] at this
      exact this
    have run : xReader_takeLetter_L79 N (f + 1) (nI p) (smm q) (nI 90) (nI 0) 0 (nI (p + 1)) wr 0 (nI n) xc nums x y sX sY cX cY cf pts (nI dep) rows drw (nI cnt) sn sk = xReader_takeLetter_b117 N (xReader_takeLetter_L79 N f) (nI p) (smm q) (nI 90) (nI 0) 0 (nI 90) (nI (p + 1)) wr 0 (nI n) xc nums x y sX sY cX cY cf pts (nI dep) rows drw (nI cnt) sn sk := by
      show xReader_takeLetter_B79 N (xReader_takeLetter_L79 N f) (nI p) (smm q) (nI 90) (nI 0) 0 (nI (p + 1)) wr 0 (nI n) xc nums x y sX sY cX cY cf pts (nI dep) rows drw (nI cnt) sn sk = _
      unfold xReader_takeLetter_B79
      rw [if_neg (by decide), tn, z_b4, if_neg n1, if_neg (by decide)]
      rfl
    rw [← hf] at run
    rw [run]
    unfold xReader_takeLetter_b117
    rcases cm_Z (N := N) (sm := smm q) (place := nI p) (pts := pts) (nums := nums) (rows := rows) (mat := mat) (drw := drw) (giv := giv) (x := x) (y := y) (cX := cX) (cY := cY) (cf := cf) (bf := bf) (mx := mx) (my := my) (tX := tX) (tY := tY) (ox := 0) (oy := 0) hN hd hD hM hn0 ⟨g3, g4⟩ with ⟨kind, sX', sY', cX', cY', cf', pts', x', y', drw', sn', sk', mx', my', msX', msY', tX', tY', dn', dk', c1, c2, c3, c4, c5, c6, c7⟩ | ⟨kind, sX', sY', cX', cY', cf', pts', x', y', drw', n', sn', sk', z1, z3, z4, z5, z6, z7, z8, z9, z10, z11, z12, c1, c2, c3⟩
    · rw [show xPen_aim N (nI 90) (smm q) x y sX sY cX cY cf pts nums = _ from c2, z_b7, c3, z_b7, if_neg n1, if_pos (show nI 0 = 0 from rfl), show m_command4 (nI 122) 0 0 (nI p) (nI cnt) (nI dep) (-1) 0 mx my msX msY bf tX tY mat dn dk giv = _ from c4, z_b12, z_b17]
      exact Or.inl ⟨p + 1, nums, x', y', sX', sY', cX', cY', cf', pts', drw', cnt + 1, sn', sk', _, mx', my', msX', msY', _, tX', tY', _, _, dn', dk', _, by omega, by omega, by omega, rfl, rfl, c5, c6, c7⟩
    · rw [show xPen_aim N (nI 90) (smm q) x y sX sY cX cY cf pts nums = _ from c1, z_b7, c2, z_b7, if_pos rfl, show m_command4 (nI 122) 0 0 (nI p) (nI cnt) (nI dep) (-1) 0 mx my msX msY bf tX tY mat dn dk giv = _ from c3, z_b12, z_b17]
      exact Or.inr ⟨p, _, _, _, _, _, _, _, _, _, _, _, _, _, _, _, _, _, p + 1, _, _, _, _, _, _, _, _, _, _, _, _, _, _, _, by omega, by omega, rfl, rfl⟩
  · have h122 : ¬ nI c = 122 := by
      rcases e with ⟨_, h, _⟩ | ⟨_, h, _⟩ | ⟨_, h, _⟩ | ⟨_, h, _⟩ | ⟨_, h, _⟩ | ⟨_, h, _⟩ | ⟨_, h, _⟩ | ⟨_, h, _⟩ <;> (have h : nI c = _ := h; rw [h]; decide)
    rw [if_neg h122]
    have e0 : ltr (mnt (nI C) 0) (nI c) m := by unfold mnt; rw [if_neg (fun z => absurd z.2 (by omega))]; exact e
    rcases tl_L (N := N) (sm := smm q) (C0 := nI C) hN hT (show p ≤ n by omega) hd hX N 0 (p + 1) (by omega) (by omega) (by omega) (nI c) wr w x y sX sY cX cY cf pts nums drw cnt sn sk val bh wh mx my msX msY bf tX tY dn dk giv e0 hP (fun z => ⟨hw' z, rfl⟩) hc hD hM with ⟨i', nums', x', y', sX', sY', cX', cY', cf', pts', drw', cnt', sn', sk', val', mx', my', msX', msY', bf', tX', tY', bh', wh', dn', dk', giv', k1, k2, k3, k4, k5, k6, k7, k8, k9⟩ | ⟨g, a1, a3, a4, a5, a6, a7, a8, a9, a10, a11, a12, a13, a14, a15, a16, b1, j2, b3, b5, b6, b7, b8, b9, b10, b11, b12, b13, b14, b15, b16, b17, k1, k2, k3, k4⟩
    · rw [show xReader_takeLetter_L79 N N (nI p) (smm q) (nI C) (nI m) 0 (nI (p + 1)) wr 0 (nI n) xc nums x y sX sY cX cY cf pts (nI dep) rows drw (nI cnt) sn sk = _ from k5, k6, z_b17]
      exact Or.inl ⟨i', nums', x', y', sX', sY', cX', cY', cf', pts', drw', cnt', sn', sk', val', mx', my', msX', msY', bf', tX', tY', bh', wh', dn', dk', giv', by omega, k2, k4, rfl, rfl, k7, k8, k9⟩
    · rw [show xReader_takeLetter_L79 N N (nI p) (smm q) (nI C) (nI m) 0 (nI (p + 1)) wr 0 (nI n) xc nums x y sX sY cX cY cf pts (nI dep) rows drw (nI cnt) sn sk = _ from k3, k4, z_b17]
      exact Or.inr ⟨g, _, _, _, _, _, _, _, _, _, _, _, _, _, _, _, _, _, j2, _, _, _, _, _, _, _, _, _, _, _, _, _, _, _, k1, k2, rfl, rfl⟩
