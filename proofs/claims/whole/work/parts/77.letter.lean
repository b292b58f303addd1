/-! L3: read. A letter with its numbers. -/
theorem z_b11 {α0 α1 α2 α3 α4 α5 α6 α7 α8 α9 α10 ρ : Type} (a0 : α0) (a1 : α1) (a2 : α2) (a3 : α3) (a4 : α4) (a5 : α5) (a6 : α6) (a7 : α7) (a8 : α8) (a9 : α9) (a10 : α10) (k : α0 → α1 → α2 → α3 → α4 → α5 → α6 → α7 → α8 → α9 → α10 → Option ρ) : kb11 (some (a0, a1, a2, a3, a4, a5, a6, a7, a8, a9, a10)) k = k a0 a1 a2 a3 a4 a5 a6 a7 a8 a9 a10 := rfl
theorem z_b4 {α0 α1 α2 α3 ρ : Type} (a0 : α0) (a1 : α1) (a2 : α2) (a3 : α3) (k : α0 → α1 → α2 → α3 → Option ρ) : kb4 (some (a0, a1, a2, a3)) k = k a0 a1 a2 a3 := rfl
theorem z_b7 {α0 α1 α2 α3 α4 α5 α6 ρ : Type} (a0 : α0) (a1 : α1) (a2 : α2) (a3 : α3) (a4 : α4) (a5 : α5) (a6 : α6) (k : α0 → α1 → α2 → α3 → α4 → α5 → α6 → Option ρ) : kb7 (some (a0, a1, a2, a3, a4, a5, a6)) k = k a0 a1 a2 a3 a4 a5 a6 := rfl
theorem z_b9 {α0 α1 α2 α3 α4 α5 α6 α7 α8 ρ : Type} (a0 : α0) (a1 : α1) (a2 : α2) (a3 : α3) (a4 : α4) (a5 : α5) (a6 : α6) (a7 : α7) (a8 : α8) (k : α0 → α1 → α2 → α3 → α4 → α5 → α6 → α7 → α8 → Option ρ) : kb9 (some (a0, a1, a2, a3, a4, a5, a6, a7, a8)) k = k a0 a1 a2 a3 a4 a5 a6 a7 a8 := rfl
theorem z_b10 {α0 α1 α2 α3 α4 α5 α6 α7 α8 α9 ρ : Type} (a0 : α0) (a1 : α1) (a2 : α2) (a3 : α3) (a4 : α4) (a5 : α5) (a6 : α6) (a7 : α7) (a8 : α8) (a9 : α9) (k : α0 → α1 → α2 → α3 → α4 → α5 → α6 → α7 → α8 → α9 → Option ρ) : kb10 (some (a0, a1, a2, a3, a4, a5, a6, a7, a8, a9)) k = k a0 a1 a2 a3 a4 a5 a6 a7 a8 a9 := rfl
theorem z_b12 {α0 α1 α2 α3 α4 α5 α6 α7 α8 α9 α10 α11 ρ : Type} (a0 : α0) (a1 : α1) (a2 : α2) (a3 : α3) (a4 : α4) (a5 : α5) (a6 : α6) (a7 : α7) (a8 : α8) (a9 : α9) (a10 : α10) (a11 : α11) (k : α0 → α1 → α2 → α3 → α4 → α5 → α6 → α7 → α8 → α9 → α10 → α11 → Option ρ) : kb12 (some (a0, a1, a2, a3, a4, a5, a6, a7, a8, a9, a10, a11)) k = k a0 a1 a2 a3 a4 a5 a6 a7 a8 a9 a10 a11 := rfl
theorem z_b17 {α0 α1 α2 α3 α4 α5 α6 α7 α8 α9 α10 α11 α12 α13 α14 α15 α16 ρ : Type} (a0 : α0) (a1 : α1) (a2 : α2) (a3 : α3) (a4 : α4) (a5 : α5) (a6 : α6) (a7 : α7) (a8 : α8) (a9 : α9) (a10 : α10) (a11 : α11) (a12 : α12) (a13 : α13) (a14 : α14) (a15 : α15) (a16 : α16) (k : α0 → α1 → α2 → α3 → α4 → α5 → α6 → α7 → α8 → α9 → α10 → α11 → α12 → α13 → α14 → α15 → α16 → Option ρ) : kb17 (some (a0, a1, a2, a3, a4, a5, a6, a7, a8, a9, a10, a11, a12, a13, a14, a15, a16)) k = k a0 a1 a2 a3 a4 a5 a6 a7 a8 a9 a10 a11 a12 a13 a14 a15 a16 := rfl
theorem z_b19 {α0 α1 α2 α3 α4 α5 α6 α7 α8 α9 α10 α11 α12 α13 α14 α15 α16 α17 α18 ρ : Type} (a0 : α0) (a1 : α1) (a2 : α2) (a3 : α3) (a4 : α4) (a5 : α5) (a6 : α6) (a7 : α7) (a8 : α8) (a9 : α9) (a10 : α10) (a11 : α11) (a12 : α12) (a13 : α13) (a14 : α14) (a15 : α15) (a16 : α16) (a17 : α17) (a18 : α18) (k : α0 → α1 → α2 → α3 → α4 → α5 → α6 → α7 → α8 → α9 → α10 → α11 → α12 → α13 → α14 → α15 → α16 → α17 → α18 → Option ρ) : kb19 (some (a0, a1, a2, a3, a4, a5, a6, a7, a8, a9, a10, a11, a12, a13, a14, a15, a16, a17, a18)) k = k a0 a1 a2 a3 a4 a5 a6 a7 a8 a9 a10 a11 a12 a13 a14 a15 a16 a17 a18 := rfl
theorem z_b23 {α0 α1 α2 α3 α4 α5 α6 α7 α8 α9 α10 α11 α12 α13 α14 α15 α16 α17 α18 α19 α20 α21 α22 ρ : Type} (a0 : α0) (a1 : α1) (a2 : α2) (a3 : α3) (a4 : α4) (a5 : α5) (a6 : α6) (a7 : α7) (a8 : α8) (a9 : α9) (a10 : α10) (a11 : α11) (a12 : α12) (a13 : α13) (a14 : α14) (a15 : α15) (a16 : α16) (a17 : α17) (a18 : α18) (a19 : α19) (a20 : α20) (a21 : α21) (a22 : α22) (k : α0 → α1 → α2 → α3 → α4 → α5 → α6 → α7 → α8 → α9 → α10 → α11 → α12 → α13 → α14 → α15 → α16 → α17 → α18 → α19 → α20 → α21 → α22 → Option ρ) : kb23 (some (a0, a1, a2, a3, a4, a5, a6, a7, a8, a9, a10, a11, a12, a13, a14, a15, a16, a17, a18, a19, a20, a21, a22)) k = k a0 a1 a2 a3 a4 a5 a6 a7 a8 a9 a10 a11 a12 a13 a14 a15 a16 a17 a18 a19 a20 a21 a22 := rfl
theorem z_b25 {α0 α1 α2 α3 α4 α5 α6 α7 α8 α9 α10 α11 α12 α13 α14 α15 α16 α17 α18 α19 α20 α21 α22 α23 α24 ρ : Type} (a0 : α0) (a1 : α1) (a2 : α2) (a3 : α3) (a4 : α4) (a5 : α5) (a6 : α6) (a7 : α7) (a8 : α8) (a9 : α9) (a10 : α10) (a11 : α11) (a12 : α12) (a13 : α13) (a14 : α14) (a15 : α15) (a16 : α16) (a17 : α17) (a18 : α18) (a19 : α19) (a20 : α20) (a21 : α21) (a22 : α22) (a23 : α23) (a24 : α24) (k : α0 → α1 → α2 → α3 → α4 → α5 → α6 → α7 → α8 → α9 → α10 → α11 → α12 → α13 → α14 → α15 → α16 → α17 → α18 → α19 → α20 → α21 → α22 → α23 → α24 → Option ρ) : kb25 (some (a0, a1, a2, a3, a4, a5, a6, a7, a8, a9, a10, a11, a12, a13, a14, a15, a16, a17, a18, a19, a20, a21, a22, a23, a24)) k = k a0 a1 a2 a3 a4 a5 a6 a7 a8 a9 a10 a11 a12 a13 a14 a15 a16 a17 a18 a19 a20 a21 a22 a23 a24 := rfl
def ltr (C c : Int32) (m : Nat) : Prop := (C = 77 ∧ c = 109 ∧ m = 2) ∨ (C = 76 ∧ c = 108 ∧ m = 2) ∨ (C = 72 ∧ c = 104 ∧ m = 1) ∨ (C = 86 ∧ c = 118 ∧ m = 1) ∨ (C = 67 ∧ c = 99 ∧ m = 6) ∨ (C = 83 ∧ c = 115 ∧ m = 4) ∨ (C = 81 ∧ c = 113 ∧ m = 4) ∨ (C = 84 ∧ c = 116 ∧ m = 2)
theorem ltr_m {C c : Int32} {m : Nat} (h : ltr C c m) : 1 ≤ m ∧ m ≤ 6 := by
  rcases h with ⟨_, _, rfl⟩ | ⟨_, _, rfl⟩ | ⟨_, _, rfl⟩ | ⟨_, _, rfl⟩ | ⟨_, _, rfl⟩ | ⟨_, _, rfl⟩ | ⟨_, _, rfl⟩ | ⟨_, _, rfl⟩ <;> decide
theorem ltr_n {C c : Int32} {m : Nat} (h : ltr C c m) : m_needs c = some (nI m) := by
  rcases h with ⟨_, rfl, rfl⟩ | ⟨_, rfl, rfl⟩ | ⟨_, rfl, rfl⟩ | ⟨_, rfl, rfl⟩ | ⟨_, rfl, rfl⟩ | ⟨_, rfl, rfl⟩ | ⟨_, rfl, rfl⟩ | ⟨_, rfl, rfl⟩ <;> rfl
theorem ltr_7 {C c : Int32} {m : Nat} (h : ltr C c m) : C = 77 ↔ c = 109 := by
  rcases h with ⟨rfl, rfl, _⟩ | ⟨rfl, rfl, _⟩ | ⟨rfl, rfl, _⟩ | ⟨rfl, rfl, _⟩ | ⟨rfl, rfl, _⟩ | ⟨rfl, rfl, _⟩ | ⟨rfl, rfl, _⟩ | ⟨rfl, rfl, _⟩ <;> decide
theorem ltr_2 {c : Int32} {m : Nat} (h : ltr 77 c m) : m = 2 := by
  rcases h with ⟨_, _, h⟩ | ⟨h, _⟩ | ⟨h, _⟩ | ⟨h, _⟩ | ⟨h, _⟩ | ⟨h, _⟩ | ⟨h, _⟩ | ⟨h, _⟩
  · exact h
  all_goals exact absurd h (by decide)
theorem ltr_6 {c : Int32} {m : Nat} (h : ltr 76 c m) : c = 108 ∧ m = 2 := by
  rcases h with ⟨h, _⟩ | ⟨_, h⟩ | ⟨h, _⟩ | ⟨h, _⟩ | ⟨h, _⟩ | ⟨h, _⟩ | ⟨h, _⟩ | ⟨h, _⟩
  · exact absurd h (by decide)
  · exact h
  all_goals exact absurd h (by decide)
theorem cm_any {N : Nat} {C c sm cf bf place w : Int32} {m n dep : Nat} {x y sX sY cX cY ox oy mx my msX msY tX tY : Int64} {pts nums rows drw mat giv : Nat → Int64} {sn sk dn dk : Nat → Int32} (hl : ltr C c m) (hN : 5000 ≤ N) (hd : dep ≤ 8) (hD : rD n sk sn dk dn) (hM : rM n dk) (hX : ∀ s, s < 6 * (dep + 1) → rows s = mat s) (hp0 : ¬ place = -1) (hg : ∀ s, s < m → nums s = giv s) (h1 : ox = if sm = 0 then 0 else x) (h2 : oy = if sm = 0 then 0 else y) (hP : rP w x y sX sY cX cY cf mx my msX msY bf tX tY) (hw : w = 1 → C = 77) (hn : n = 0 → w = 1) : cmG N C sm c n dep x y sX sY cX cY cf pts nums rows drw sn sk ox oy place w mx my msX msY bf tX tY mat dn dk giv := by
  by_cases h7 : C = 77
  · subst h7
    obtain rfl := (ltr_7 hl).mp rfl
    obtain rfl := ltr_2 hl
    exact cm_M hN hd hD hM hX hg h1 h2
  · have hP0 := hP
    rcases hP with ⟨hw1, _⟩ | ⟨rfl, e1, e2, e3, e4, _⟩
    · exact absurd (hw hw1) h7
    have hn0 : 0 < n := by
      rcases Nat.eq_zero_or_pos n with q | q
      · exact absurd (hn q) (by decide)
      · exact q
    rcases hl with ⟨rfl, _⟩ | ⟨rfl, rfl, rfl⟩ | ⟨rfl, rfl, rfl⟩ | ⟨rfl, rfl, rfl⟩ | ⟨rfl, rfl, rfl⟩ | ⟨rfl, rfl, rfl⟩ | ⟨rfl, rfl, rfl⟩ | ⟨rfl, rfl, rfl⟩
    · exact absurd rfl h7
    · exact cm_L hN hd hD hM hn0 hX hg h1 h2 ⟨e3, e4⟩
    · exact cm_H hN hd hD hM hn0 hX hg h1 h2 ⟨e1, e2⟩ ⟨e3, e4⟩
    · exact cm_V hN hd hD hM hn0 hX hg h1 h2 ⟨e1, e2⟩ ⟨e3, e4⟩
    · exact cm_C hN hd hD hM hn0 hX hp0 hg h1 h2 ⟨e3, e4⟩
    · exact cm_S hN hd hD hM hn0 hX hp0 hg h1 h2 hP0
    · exact cm_Q hN hd hD hM hn0 hX hp0 hg h1 h2 ⟨e1, e2⟩ ⟨e3, e4⟩
    · exact cm_T hN hd hD hM hn0 hX hp0 hg h1 h2 hP0
def mnt (C0 : Int32) (s : Nat) : Int32 := if C0 = 77 ∧ 0 < s then 76 else C0
theorem mnt_next {C0 c : Int32} {s m : Nat} (h : ltr (mnt C0 s) c m) : ltr (mnt C0 (s + 1)) (if c = 109 then 108 else c) m := by
  unfold mnt at *
  by_cases h7 : C0 = 77
  · subst h7
    rw [if_pos ⟨rfl, by omega⟩]
    by_cases hs : 0 < s
    · rw [if_pos ⟨rfl, hs⟩] at h
      obtain ⟨rfl, rfl⟩ := ltr_6 h
      exact Or.inr (Or.inl ⟨rfl, by decide, rfl⟩)
    · rw [if_neg (fun z => hs z.2)] at h
      obtain rfl := ltr_2 h
      rw [if_pos ((ltr_7 h).mp rfl)]
      exact Or.inr (Or.inl ⟨rfl, rfl, rfl⟩)
  · rw [if_neg (fun z => h7 z.1)] at h ⊢
    rw [if_neg (fun z => h7 ((ltr_7 h).mpr z))]
    exact h
theorem wr_ge {p : Nat} (h : p < 2 ^ 31) : (0 : Int32) ≤ nI p := by rw [show (0 : Int32) = nI 0 from rfl, z_le (by omega) (by omega)]; omega
theorem wr_ne {p : Nat} (h : p < 2 ^ 31) : ¬ nI p = -1 := fun e => by
  have := wr_ge h
  rw [e] at this
  exact absurd this (by decide)
theorem wr_nlt {p : Nat} (h : p < 2 ^ 31) : ¬ nI p < 0 := i_n0 h
theorem tl_L {N n p dep m : Nat} {sm C0 : Int32} {xc yc : Nat → Int32} {rows mat : Nat → Int64} (hN : 5000 ≤ N) (hT : rT n xc yc) (hp : p ≤ n) (hd : dep ≤ 8) (hX : ∀ s, s < 6 * (dep + 1) → rows s = mat s) :
    ∀ f s i, i ≤ n → n + 1 < f + i → s ≤ i → ∀ c wr w x y sX sY cX cY cf pts nums drw cnt sn sk val bh wh mx my msX msY bf tX tY dn dk giv, ltr (mnt C0 s) c m → rP w x y sX sY cX cY cf mx my msX msY bf tX tY → (w = 1 → C0 = 77 ∧ s = 0) → (cnt = 0 → w = 1) → rD cnt sk sn dk dn → rM cnt dk →
    (∃ i' nums' x' y' sX' sY' cX' cY' cf' pts' drw' cnt' sn' sk' val' mx' my' msX' msY' bf' tX' tY' bh' wh' dn' dk' giv', i < i' ∧ i' ≤ n ∧ nb (sgn n yc i') ∧ 0 < cnt' ∧
      xReader_takeLetter_L79 N f (nI p) sm C0 (nI m) (nI s) (nI i) wr 0 (nI n) xc nums x y sX sY cX cY cf pts (nI dep) rows drw (nI cnt) sn sk = some (1, nI i', wr, 0, nums', x', y', sX', sY', cX', cY', cf', pts', drw', nI cnt', sn', sk') ∧
      m_commandsOf_L56 N f (nI p) sm c 1 (nI n) (nI cnt) (nI dep) (nI i) val (-1) w mx my msX msY bf tX tY bh wh mat dn dk giv yc = some (nI cnt', nI i', val', -1, 0, mx', my', msX', msY', bf', tX', tY', bh', wh', dn', dk', giv') ∧ rP 0 x' y' sX' sY' cX' cY' cf' mx' my' msX' msY' bf' tX' tY' ∧ rD cnt' sk' sn' dk' dn' ∧ rM cnt' dk') ∨
    (∃ q a1 a3 a4 a5 a6 a7 a8 a9 a10 a11 a12 a13 a14 a15 a16 b1 j2 b3 b5 b6 b7 b8 b9 b10 b11 b12 b13 b14 b15 b16 b17, q ≤ n ∧ j2 ≤ n ∧
      xReader_takeLetter_L79 N f (nI p) sm C0 (nI m) (nI s) (nI i) wr 0 (nI n) xc nums x y sX sY cX cY cf pts (nI dep) rows drw (nI cnt) sn sk = some (0, a1, nI q, a3, a4, a5, a6, a7, a8, a9, a10, a11, a12, a13, a14, a15, a16) ∧
      m_commandsOf_L56 N f (nI p) sm c 1 (nI n) (nI cnt) (nI dep) (nI i) val (-1) w mx my msX msY bf tX tY bh wh mat dn dk giv yc = some (b1, nI j2, b3, nI q, b5, b6, b7, b8, b9, b10, b11, b12, b13, b14, b15, b16, b17)) := by
  have hn := hT.1
  have n1 : ¬ (1 : Int32) = 0 := by decide
  have nm : ¬ (0 : Int32) ≤ -1 := by decide
  -- the reference's loop ends where something is wrong, or no numeral follows
  have stop : ∀ f c mo cnt at0 val wr w mx my msX msY bf tX tY bh wh dn dk giv, 0 < f → (mo = 0 ∨ (0 : Int32) ≤ wr) → m_commandsOf_L56 N f (nI p) sm c mo (nI n) cnt (nI dep) at0 val wr w mx my msX msY bf tX tY bh wh mat dn dk giv yc = some (cnt, at0, val, wr, w, mx, my, msX, msY, bf, tX, tY, bh, wh, dn, dk, giv) := fun f c mo cnt at0 val wr w mx my msX msY bf tX tY bh wh dn dk giv hf h => by
    obtain ⟨f, rfl⟩ : ∃ f', f = f' + 1 := ⟨f - 1, by omega⟩
    show m_commandsOf_B56 N (m_commandsOf_L56 N f) (nI p) sm c mo (nI n) cnt (nI dep) at0 val wr w mx my msX msY bf tX tY bh wh mat dn dk giv yc = _
    unfold m_commandsOf_B56
    by_cases q : mo = 0
    · rw [if_pos q]
    · rw [if_neg q, if_pos (h.resolve_left q)]
  intro f
  induction f with
  | zero => intro s i a b; omega
  | succ f ih =>
    intro s i hi hf hs c wr w x y sX sY cX cY cf pts nums drw cnt sn sk val bh wh mx my msX msY bf tX tY dn dk giv hl hP hw hc hD hM
    have hm := ltr_m hl
    have ex : xReader_takeLetter_L79 N (f + 1) (nI p) sm C0 (nI m) (nI s) (nI i) wr 0 (nI n) xc nums x y sX sY cX cY cf pts (nI dep) rows drw (nI cnt) sn sk = xReader_takeLetter_B79 N (xReader_takeLetter_L79 N f) (nI p) sm C0 (nI m) (nI s) (nI i) wr 0 (nI n) xc nums x y sX sY cX cY cf pts (nI dep) rows drw (nI cnt) sn sk := rfl
    have ey : m_commandsOf_L56 N (f + 1) (nI p) sm c 1 (nI n) (nI cnt) (nI dep) (nI i) val (-1) w mx my msX msY bf tX tY bh wh mat dn dk giv yc = m_commandsOf_B56 N (m_commandsOf_L56 N f) (nI p) sm c 1 (nI n) (nI cnt) (nI dep) (nI i) val (-1) w mx my msX msY bf tX tY bh wh mat dn dk giv yc := rfl
    rw [ex, ey]
    unfold xReader_takeLetter_B79 m_commandsOf_B56
    rw [if_neg (show ¬ (1200 : Int32) < nI s by rw [show (1200 : Int32) = nI 1200 from rfl, z_lt (by omega) (by omega)]; omega), if_neg n1, if_neg nm, ltr_n hl, z_b1]
    rcases ns_eq (wr := wr) (bh := bh) (val := val) (wh := wh) (nums := nums) (giv := giv) hN hT hm.2 hi with ⟨i1, nums1, giv1, val1, bh1, wh1, d1, d2, d3, d4, d5⟩ | ⟨q, at1, nums1, j2, val1, bh1, wh1, giv1, d1, d0, d2, d3⟩
    · rw [d4, z_b4, if_neg n1, d5, z_b6, if_neg nm]
      have hx : (if C0 = (77 : Int32) then (if nI s ≤ (0 : Int32) then xReader_takeLetter_b115 N (xReader_takeLetter_L79 N f) (nI p) sm C0 (nI m) (nI s) (nI i1) wr 0 (nI n) xc nums1 x y sX sY cX cY cf pts (nI dep) rows drw (nI cnt) sn sk else xReader_takeLetter_b117 N (xReader_takeLetter_L79 N f) (nI p) sm C0 (nI m) (nI s) 76 (nI i1) wr 0 (nI n) xc nums1 x y sX sY cX cY cf pts (nI dep) rows drw (nI cnt) sn sk) else xReader_takeLetter_b115 N (xReader_takeLetter_L79 N f) (nI p) sm C0 (nI m) (nI s) (nI i1) wr 0 (nI n) xc nums1 x y sX sY cX cY cf pts (nI dep) rows drw (nI cnt) sn sk) = xReader_takeLetter_b117 N (xReader_takeLetter_L79 N f) (nI p) sm C0 (nI m) (nI s) (mnt C0 s) (nI i1) wr 0 (nI n) xc nums1 x y sX sY cX cY cf pts (nI dep) rows drw (nI cnt) sn sk := by
        unfold xReader_takeLetter_b115 mnt
        by_cases h7 : C0 = 77
        · rw [if_pos h7]
          by_cases h0 : 0 < s
          · rw [if_neg (show ¬ nI s ≤ (0 : Int32) by rw [show (0 : Int32) = nI 0 from rfl, z_le (by omega) (by omega)]; omega), if_pos ⟨h7, h0⟩]
          · rw [if_pos (show nI s ≤ (0 : Int32) by rw [show (0 : Int32) = nI 0 from rfl, z_le (by omega) (by omega)]; omega), if_neg (fun z => h0 z.2)]
        · rw [if_neg h7, if_neg (fun z => h7 z.1)]
      rw [hx]
      have hy : (if sm = (0 : Int32) then m_commandsOf_b106 N (m_commandsOf_L56 N f) (nI p) sm c (nI n) (nI cnt) (nI dep) (nI i1) val1 (-1) w mx my msX msY bf tX tY bh1 wh1 mat dn dk giv1 yc else if c = (109 : Int32) then (if w = (0 : Int32) then m_commandsOf_b107 N (m_commandsOf_L56 N f) (nI p) sm c 1 (nI n) (nI cnt) (nI dep) (nI i1) val1 (-1) w mx my msX msY bf tX tY bh1 wh1 mat dn dk giv1 yc else m_commandsOf_b106 N (m_commandsOf_L56 N f) (nI p) sm c (nI n) (nI cnt) (nI dep) (nI i1) val1 (-1) w mx my msX msY bf tX tY bh1 wh1 mat dn dk giv1 yc) else m_commandsOf_b107 N (m_commandsOf_L56 N f) (nI p) sm c 1 (nI n) (nI cnt) (nI dep) (nI i1) val1 (-1) w mx my msX msY bf tX tY bh1 wh1 mat dn dk giv1 yc) = m_commandsOf_b138 N (m_commandsOf_L56 N f) (nI p) sm c c (if sm = 0 then 0 else x) (if sm = 0 then 0 else y) (nI n) (nI cnt) (nI dep) (nI i1) val1 (-1) w mx my msX msY bf tX tY bh1 wh1 mat dn dk giv1 yc := by
        unfold m_commandsOf_b106 m_commandsOf_b107 m_commandsOf_b125
        simp only [if_neg n1, if_true]
        by_cases hs0 : sm = 0
        · simp only [if_pos hs0]
        · simp only [if_neg hs0]
          rcases hP with ⟨rfl, rfl, rfl, _⟩ | ⟨rfl, rfl, rfl, _⟩
          · have h109 : c = 109 := by
              obtain ⟨h7, h0⟩ := hw rfl
              refine (ltr_7 hl).mp ?_
              unfold mnt; rw [if_neg (by omega), h7]
            rw [if_pos h109, if_neg n1]
          · simp only [if_true, ite_self]
      rw [hy]
      unfold xReader_takeLetter_b117 m_commandsOf_b138 m_commandsOf_b156
      obtain ⟨i2, r, g1, g2, g3, g4, g5, g6, g7⟩ := nf_eq (N := N) hN hT d2
      rcases cm_any (N := N) (sm := sm) (place := nI p) (pts := pts) (drw := drw) (ox := if sm = 0 then 0 else x) (oy := if sm = 0 then 0 else y) hl hN hd hD hM hX (wr_ne (by omega)) d3 rfl rfl hP (fun h => by obtain ⟨a, b⟩ := hw h; unfold mnt; rw [if_neg (by omega)]; exact a) hc with ⟨kind, sX', sY', cX', cY', cf', pts', x', y', drw', sn', sk', mx', my', msX', msY', tX', tY', dn', dk', c1, c2, c3, c4, c5, c6, c7⟩ | ⟨kind, sX', sY', cX', cY', cf', pts', x', y', drw', n', sn', sk', z1, z3, z4, z5, z6, z7, z8, z9, z10, z11, z12, c1, c2, c3⟩
      · rw [c2, z_b7, c3, z_b7, if_neg n1, if_neg (show ¬ nI m = 0 by rw [show (0 : Int32) = nI 0 from rfl, z_inj (by omega) (by omega)]; omega), g5, z_b2, c4, z_b12]
        simp only [g6, z_b1, g7]
        have e9 : (if c = (109 : Int32) then m_commandsOf_L56 N f (nI p) sm 108 r (nI n) (nI (cnt + 1)) (nI dep) (nI i2) val1 (-1) 0 mx' my' msX' msY' c tX' tY' bh1 wh1 mat dn' dk' giv1 yc else m_commandsOf_L56 N f (nI p) sm c r (nI n) (nI (cnt + 1)) (nI dep) (nI i2) val1 (-1) 0 mx' my' msX' msY' c tX' tY' bh1 wh1 mat dn' dk' giv1 yc) = m_commandsOf_L56 N f (nI p) sm (if c = 109 then 108 else c) r (nI n) (nI (cnt + 1)) (nI dep) (nI i2) val1 (-1) 0 mx' my' msX' msY' c tX' tY' bh1 wh1 mat dn' dk' giv1 yc := by split <;> rfl
        rw [e9]
        rcases g4 with rfl | rfl
        · rw [if_pos rfl, stop f _ 0 _ _ _ _ _ _ _ _ _ _ _ _ _ _ _ _ _ (by omega) (Or.inl rfl)]
          exact Or.inl ⟨i2, nums1, x', y', sX', sY', cX', cY', cf', pts', drw', cnt + 1, sn', sk', val1, mx', my', msX', msY', c, tX', tY', bh1, wh1, dn', dk', giv1, by omega, g2, g3, by omega, rfl, rfl, c5, c6, c7⟩
        · rw [if_neg n1, show nI s + 1 = nI (s + 1) from z_add s 1]
          rcases ih (s + 1) i2 g2 (by omega) (by omega) (if c = 109 then 108 else c) wr 0 x' y' sX' sY' cX' cY' cf' pts' nums1 drw' (cnt + 1) sn' sk' val1 bh1 wh1 mx' my' msX' msY' c tX' tY' dn' dk' giv1 (mnt_next hl) c5 (fun h => absurd h (by decide)) (fun h => by omega) c6 c7 with ⟨i', nums', x2, y2, sX2, sY2, cX2, cY2, cf2, pts2, drw2, cnt2, sn2, sk2, val2, mx2, my2, msX2, msY2, bf2, tX2, tY2, bh2, wh2, dn2, dk2, giv2, k1, k2⟩ | k
          · exact Or.inl ⟨i', nums', x2, y2, sX2, sY2, cX2, cY2, cf2, pts2, drw2, cnt2, sn2, sk2, val2, mx2, my2, msX2, msY2, bf2, tX2, tY2, bh2, wh2, dn2, dk2, giv2, by omega, k2⟩
          · exact Or.inr k
      · rw [c1, z_b7, c2, z_b7, if_pos rfl, c3, z_b12]
        simp only [g6, z_b1, g7]
        have e9 : (if c = (109 : Int32) then m_commandsOf_L56 N f (nI p) sm 108 r (nI n) z1 (nI dep) (nI i2) val1 (nI p) z3 z4 z5 z6 z7 z8 z9 z10 bh1 wh1 mat z11 z12 giv1 yc else m_commandsOf_L56 N f (nI p) sm c r (nI n) z1 (nI dep) (nI i2) val1 (nI p) z3 z4 z5 z6 z7 z8 z9 z10 bh1 wh1 mat z11 z12 giv1 yc) = some (z1, nI i2, val1, nI p, z3, z4, z5, z6, z7, z8, z9, z10, bh1, wh1, z11, z12, giv1) := by
          rw [stop f _ r _ _ _ _ _ _ _ _ _ _ _ _ _ _ _ _ _ (by omega) (Or.inr (wr_ge (by omega))), stop f _ r _ _ _ _ _ _ _ _ _ _ _ _ _ _ _ _ _ (by omega) (Or.inr (wr_ge (by omega))), ite_self]
        rw [e9]
        exact Or.inr ⟨p, _, _, _, _, _, _, _, _, _, _, _, _, _, _, _, _, _, _, _, _, _, _, _, _, _, _, _, _, _, _, _, hp, g2, rfl, rfl⟩
    · rw [d2, z_b4, if_pos rfl, d3, z_b6, if_pos (wr_ge (by omega)), stop f _ 1 _ _ _ _ _ _ _ _ _ _ _ _ _ _ _ _ _ (by omega) (Or.inr (wr_ge (by omega)))]
      exact Or.inr ⟨q, _, _, _, _, _, _, _, _, _, _, _, _, _, _, _, _, _, _, _, _, _, _, _, _, _, _, _, _, _, _, _, d1, d0, rfl, rfl⟩
