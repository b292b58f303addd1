/-! L3: text. -/
theorem ch_k2 : ∀ q, q < 256 → k2c (nI q) = nI q := by decide +kernel
theorem ch_kc {q : Nat} (h : q < 65536) : kc (nI q) = true := decide_eq_true (by rw [nI_toInt (by omega)]; omega)
theorem ch_nar {q : Nat} (h : q < 256) : vp_nar .char (k2c (nI q)) = nI q := by
  rw [ch_k2 q h]
  unfold vp_nar
  rw [kc_n (ch_kc (by omega))]
theorem ch_narI {v : Int32} (h0 : 0 ≤ v.toInt) (h1 : v.toInt < 256) : vp_nar .char (k2c v) = v := by
  have e : v = nI v.toInt.toNat := Int32.toInt_inj.mp (by rw [nI_toInt (by omega)]; omega)
  rw [e]; exact ch_nar (by omega)
theorem ch_kcI {v : Int32} (h0 : 0 ≤ v.toInt) (h1 : v.toInt < 65536) : kc v = true := decide_eq_true ⟨h0, h1⟩
/-- a text of n characters, the same on both sides -/
def rT (n : Nat) (xc yc : Nat → Int32) : Prop := n ≤ 1200 ∧ ∀ k, k < n → xc k = yc k ∧ 32 ≤ (yc k).toInt ∧ (yc k).toInt ≤ 126
def byt (x : Int64) (i : Nat) : Int32 := Int64.toInt32 ((x >>> (Int32.toInt64 ((8 : Int32) * nI i) &&& 63)) &&& (255 : Int64))
theorem byt_bits (x : BitVec 64) (s : Nat) (hs : s ≤ 56) : ((x >>> s).setWidth 32) &&& 255#32 = ((x.sshiftRight s) &&& 255#64).setWidth 32 := by
  have h1 : ∀ j, j < 32 → (255#32).getLsbD j = decide (j < 8) := by decide +kernel
  have h2 : ∀ j, j < 32 → (255#64).getLsbD j = decide (j < 8) := by decide +kernel
  refine BitVec.eq_of_getLsbD_eq fun j hj => ?_
  rw [BitVec.getLsbD_and, BitVec.getLsbD_setWidth, BitVec.getLsbD_setWidth, BitVec.getLsbD_and, BitVec.getLsbD_ushiftRight, BitVec.getLsbD_sshiftRight, h1 j hj, h2 j hj]
  by_cases h8 : j < 8
  · rw [if_pos (by omega)]
    simp [h8, hj]; omega
  · simp [h8]
theorem byt_x {x : Int64} : ∀ i, i < 8 → xP_byteOf x (nI i) = some (byt x i) := by
  have go : ∀ (s : Nat) (a : UInt64) (b : Int64), s ≤ 56 → a.toBitVec % 64#64 = BitVec.ofNat 64 s → b.toBitVec.smod 64#64 = BitVec.ofNat 64 s → (Int64.toInt32 (Int64.toUInt64 x >>> a).toInt64) &&& (255 : Int32) = Int64.toInt32 ((x >>> b) &&& (255 : Int64)) := fun s a b hs ha hb => by
    apply Int32.toBitVec_inj.mp
    have hs2 : (BitVec.ofNat 64 s).toNat = s := by rw [BitVec.toNat_ofNat]; exact Nat.mod_eq_of_lt (by omega)
    rw [Int32.toBitVec_and, Int64.toBitVec_toInt32, UInt64.toBitVec_toInt64, UInt64.toBitVec_shiftRight, Int64.toBitVec_toUInt64, Int64.toBitVec_toInt32, Int64.toBitVec_and, Int64.toBitVec_shiftRight]
    have ha' : x.toBitVec >>> (a.toBitVec % 64) = x.toBitVec >>> s := by
      rw [show a.toBitVec % 64 = BitVec.ofNat 64 s from ha, BitVec.ushiftRight_eq', hs2]
    have hb' : x.toBitVec.sshiftRight' (b.toBitVec.smod 64) = x.toBitVec.sshiftRight s := by
      rw [show b.toBitVec.smod 64 = BitVec.ofNat 64 s from hb, BitVec.sshiftRight', hs2]
    rw [ha', hb', BitVec.signExtend_eq_setWidth_of_le _ (by omega), BitVec.signExtend_eq_setWidth_of_le _ (by omega)]
    exact byt_bits x.toBitVec s hs
  intro i hi
  have h : i = 0 ∨ i = 1 ∨ i = 2 ∨ i = 3 ∨ i = 4 ∨ i = 5 ∨ i = 6 ∨ i = 7 := by omega
  unfold xP_byteOf byt
  rcases h with rfl | rfl | rfl | rfl | rfl | rfl | rfl | rfl
  · exact congrArg some (go 0 _ _ (by decide) (by decide +kernel) (by decide +kernel))
  · exact congrArg some (go 8 _ _ (by decide) (by decide +kernel) (by decide +kernel))
  · exact congrArg some (go 16 _ _ (by decide) (by decide +kernel) (by decide +kernel))
  · exact congrArg some (go 24 _ _ (by decide) (by decide +kernel) (by decide +kernel))
  · exact congrArg some (go 32 _ _ (by decide) (by decide +kernel) (by decide +kernel))
  · exact congrArg some (go 40 _ _ (by decide) (by decide +kernel) (by decide +kernel))
  · exact congrArg some (go 48 _ _ (by decide) (by decide +kernel) (by decide +kernel))
  · exact congrArg some (go 56 _ _ (by decide) (by decide +kernel) (by decide +kernel))
/-- how many of the last d bytes aren't 0 -/
def nz (x : Int64) : Nat → Nat
  | 0 => 0
  | d + 1 => nz x d + (if byt x (7 - d) = 0 then 0 else 1)
def bytGood (x : Int64) (i : Nat) : Prop := byt x i = 0 ∨ (32 ≤ (byt x i).toInt ∧ (byt x i).toInt ≤ 126)
theorem tx_m0 {N sz : Nat} {x : Int64} {yc : Nat → Int32} : ∀ n d, d ≤ 8 → d < n → ∀ c, m_text_L8 N n x c 0 (nI (8 - d)) (nI sz) yc = m_text_b107 N x 1 (nI sz) yc := by
  intro n
  induction n with
  | zero => intro d h1 h2; omega
  | succ n ih =>
    intro d h1 h2 c
    show m_text_B8 N (m_text_L8 N n) x c 0 (nI (8 - d)) (nI sz) yc = _
    unfold m_text_B8 m_text_b41
    simp (disch := omega) only [z_lit, z_le, z_add]
    by_cases h : d = 0
    · subst h; rfl
    · rw [if_neg (by omega), if_pos trivial, if_pos trivial, show 8 - d + 1 = 8 - (d - 1) by omega]
      have e := ih (d - 1) (by omega) (by omega)
      simp only [z_lit] at e
      rw [e, e]
      split <;> rfl
theorem tx_1 {N sz : Nat} {x : Int64} {xc yc : Nat → Int32} (hs : sz ≤ 1200) : ∀ n d, d ≤ 8 → d < n → ∀ c, c + d ≤ 8 →
    ((∀ j, 8 - d ≤ j → j < 8 → bytGood x j) ∧ xP_text_L5 N n x (nI c) (nI (8 - d)) (nI sz) xc = (if sz + (c + nz x d) ≤ 1200 then xP_text_L86 N N x 0 (nI sz) xc else some (3, 0, nI sz, xc)) ∧ m_text_L8 N n x (nI c) 1 (nI (8 - d)) (nI sz) yc = (if sz + (c + nz x d) ≤ 1200 then m_text_b107 N x 0 (nI sz) yc else m_text_b107 N x 2 (nI sz) yc)) ∨
    (xP_text_L5 N n x (nI c) (nI (8 - d)) (nI sz) xc = some (1, 0, nI sz, xc) ∧ m_text_L8 N n x (nI c) 1 (nI (8 - d)) (nI sz) yc = m_text_b107 N x 1 (nI sz) yc) := by
  intro n
  induction n with
  | zero => intro d h1 h2; omega
  | succ n ih =>
    intro d h1 h2 c hc
    show (_ ∧ xP_text_B5 N (xP_text_L5 N n) x (nI c) (nI (8 - d)) (nI sz) xc = _ ∧ m_text_B8 N (m_text_L8 N n) x (nI c) 1 (nI (8 - d)) (nI sz) yc = _) ∨ (xP_text_B5 N (xP_text_L5 N n) x (nI c) (nI (8 - d)) (nI sz) xc = _ ∧ m_text_B8 N (m_text_L8 N n) x (nI c) 1 (nI (8 - d)) (nI sz) yc = _)
    unfold xP_text_B5 m_text_B8 xP_text_b39
    cases d with
    | zero =>
      refine Or.inl ⟨fun j a b => by omega, ?_, ?_⟩
      · rw [if_pos (show (8 : Int32) ≤ nI (8 - 0) by decide), z_add, show (1200 : Int32) = nI 1200 from rfl]
        simp (disch := omega) only [z_le]
        rfl
      · rw [if_pos (show (8 : Int32) ≤ nI (8 - 0) by decide), if_neg (by decide), z_add, show (1200 : Int32) = nI 1200 from rfl]
        simp (disch := omega) only [z_le]
        rfl
    | succ d =>
      have e7 : 8 - (d + 1) = 7 - d := by omega
      have e8 : nI (7 - d) + 1 = nI (8 - d) := by rw [show (1 : Int32) = nI 1 from rfl, z_add]; congr 1; omega
      have e9 : nI c + 1 = nI (c + 1) := z_add c 1
      have eb := byt_x (x := x) (7 - d) (by omega)
      have hle : ¬ (8 : Int32) ≤ nI (7 - d) := by rw [show (8 : Int32) = nI 8 from rfl, z_le (by omega) (by omega)]; omega
      rw [e7, if_neg hle, if_neg hle, eb, z_b1, e8, e9]
      have em : Int64.toInt32 ((x >>> (Int32.toInt64 ((8 : Int32) * nI (7 - d)) &&& 63)) &&& (255 : Int64)) = byt x (7 - d) := rfl
      rw [em]
      by_cases h0 : byt x (7 - d) = 0
      · rw [if_pos h0, if_pos h0]
        unfold m_text_b41
        rw [if_neg (show ¬ (1 : Int32) = 0 by decide), if_pos h0, e8]
        have en : nz x (d + 1) = nz x d := by show nz x d + _ = _; rw [if_pos h0]; rfl
        rw [en]
        rcases ih d (by omega) (by omega) c (by omega) with ⟨g, a, b⟩ | ⟨a, b⟩
        · refine Or.inl ⟨fun j q1 q2 => ?_, a, b⟩
          by_cases e : j = 7 - d
          · rw [e]; exact Or.inl h0
          · exact g j (by omega) q2
        · exact Or.inr ⟨a, b⟩
      · rw [if_neg h0, if_neg h0]
        unfold m_text_b41
        rw [if_neg (show ¬ (1 : Int32) = 0 by decide), if_neg h0, e8]
        have en : nz x (d + 1) = nz x d + 1 := by show nz x d + _ = _; rw [if_neg h0]
        have m0 := tx_m0 (N := N) (sz := sz) (x := x) (yc := yc) n d (by omega) (by omega) (nI (c + 1))
        by_cases h1 : (byt x (7 - d)).toInt < 32
        · refine Or.inr ⟨?_, ?_⟩
          · rw [if_pos (by rw [i_lt]; exact h1)]
          · rw [m_in_f (Or.inl h1), z_b1, if_pos rfl, m0]
        · by_cases h2 : (byt x (7 - d)).toInt ≤ 126
          · rw [if_neg (by rw [i_lt]; exact h1), if_pos (by rw [i_le]; exact h2), m_in_t (Int.not_lt.mp h1) h2, z_b1, if_neg (show ¬ (1 : Int32) = 0 by decide), en, show c + (nz x d + 1) = c + 1 + nz x d by omega]
            rcases ih d (by omega) (by omega) (c + 1) (by omega) with ⟨g, a, b⟩ | ⟨a, b⟩
            · refine Or.inl ⟨fun j q1 q2 => ?_, a, b⟩
              by_cases e : j = 7 - d
              · rw [e]; exact Or.inr ⟨Int.not_lt.mp h1, h2⟩
              · exact g j (by omega) q2
            · exact Or.inr ⟨a, b⟩
          · refine Or.inr ⟨?_, ?_⟩
            · rw [if_neg (by rw [i_lt]; exact h1), if_neg (by rw [i_le]; exact h2)]
            · rw [m_in_f (Or.inr (Int.not_le.mp h2)), z_b1, if_pos rfl, m0]
theorem rT_push {n : Nat} {xc yc : Nat → Int32} {v : Int32} (hT : rT n xc yc) (hn : n < 1200) (h0 : 32 ≤ v.toInt) (h1 : v.toInt ≤ 126) : rT (n + 1) (upd xc n v) (upd yc n v) := by
  refine ⟨by omega, fun k hk => ?_⟩
  by_cases e : k = n
  · subst e; rw [upd_at, upd_at]; exact ⟨rfl, h0, h1⟩
  · rw [upd_ne e, upd_ne e]; exact hT.2 k (by omega)
theorem put_ok {m n : Nat} {c : Nat → Int32} {v : Int32} (hn : n < m) (hm : m < 2 ^ 31) (h0 : 0 ≤ v.toInt) (h1 : v.toInt < 256) : xRow_put m v (nI n) c = some (nI (n + 1), upd c n v) := by
  unfold xRow_put
  rw [if_neg (i_n0 (by omega)), if_neg (by show ¬ nI m ≤ nI n; rw [z_le (by omega) (by omega)]; omega), z_kg hn hm, z_clamp (by omega), ch_narI h0 h1]
  rw [show nI n + 1 = nI (n + 1) from z_add n 1]
theorem tx_2 {N : Nat} {x : Int64} (hg : ∀ j, j < 8 → bytGood x j) : ∀ n d, d ≤ 8 → d < n → ∀ sz xc yc, rT sz xc yc → sz + nz x d ≤ 1200 → ∃ sz' xc' yc', xP_text_L86 N n x (nI (8 - d)) (nI sz) xc = some (0, nI sz', nI sz', xc') ∧ m_text_L122 N n x (nI (8 - d)) 0 (nI sz) yc = some (nI sz', 0, nI sz', yc') ∧ rT sz' xc' yc' := by
  intro n
  induction n with
  | zero => intro d h1 h2; omega
  | succ n ih =>
    intro d h1 h2 sz xc yc hT hz
    show ∃ sz' xc' yc', xP_text_B86 N (xP_text_L86 N n) x (nI (8 - d)) (nI sz) xc = _ ∧ m_text_B122 N (m_text_L122 N n) x (nI (8 - d)) 0 (nI sz) yc = _ ∧ _
    unfold xP_text_B86 m_text_B122
    cases d with
    | zero => exact ⟨sz, xc, yc, by rw [if_pos (show (8 : Int32) ≤ nI (8 - 0) by decide)], by rw [if_pos (show (8 : Int32) ≤ nI (8 - 0) by decide)], hT⟩
    | succ d =>
      have e7 : 8 - (d + 1) = 7 - d := by omega
      have e8 : nI (7 - d) + 1 = nI (8 - d) := by rw [show (1 : Int32) = nI 1 from rfl, z_add]; congr 1; omega
      have eb := byt_x (x := x) (7 - d) (by omega)
      have hle : ¬ (8 : Int32) ≤ nI (7 - d) := by rw [show (8 : Int32) = nI 8 from rfl, z_le (by omega) (by omega)]; omega
      have em : Int64.toInt32 ((x >>> (Int32.toInt64 ((8 : Int32) * nI (7 - d)) &&& 63)) &&& (255 : Int64)) = byt x (7 - d) := rfl
      rw [e7, if_neg hle, if_neg hle, eb, z_b1, e8, em]
      by_cases h0 : byt x (7 - d) = 0
      · rw [if_pos h0, if_pos h0]
        have en : nz x (d + 1) = nz x d := by show nz x d + _ = _; rw [if_pos h0]; rfl
        exact ih d (by omega) (by omega) sz xc yc hT (by omega)
      · rw [if_neg h0, if_neg h0]
        have en : nz x (d + 1) = nz x d + 1 := by show nz x d + _ = _; rw [if_neg h0]
        obtain ⟨q1, q2⟩ := (hg (7 - d) (by omega)).resolve_left h0
        rw [put_ok (by omega) (by omega) (by omega) (by omega), z_b2, z_kg (by omega) (by omega), z_clamp (by omega), show nI sz + 1 = nI (sz + 1) from z_add sz 1]
        exact ih d (by omega) (by omega) (sz + 1) _ _ (rT_push hT (by omega) q1 q2) (by omega)
theorem e_text {N sz : Nat} {x : Int64} {xc yc : Nat → Int32} {o : Nat → Int64} (hN : 200 ≤ N) (hT : rT sz xc yc) : ∃ r b sz' xc' yc' o', lPLaw_text N x (nI sz) xc o = some (r, nI sz', xc', o') ∧ m_text N x (nI sz) yc = some (b, r, nI sz', yc') ∧ (r = 0 → o' 0 = Int32.toInt64 b) ∧ rT sz' xc' yc' := by
  have hs := hT.1
  unfold lPLaw_text xP_text m_text
  rcases tx_1 (N := N) (x := x) (xc := xc) (yc := yc) hs N 8 (by omega) (by omega) 0 (by omega) with ⟨g, a, b⟩ | ⟨a, b⟩
  · rw [show xP_text_L5 N N x 0 0 (nI sz) xc = _ from a, show m_text_L8 N N x 0 1 0 (nI sz) yc = _ from b]
    by_cases h : sz + (0 + nz x 8) ≤ 1200
    · rw [if_pos h, if_pos h]
      obtain ⟨sz', xc', yc', a1, b1, hT'⟩ := tx_2 (N := N) (x := x) (fun j hj => g j (by omega) hj) N 8 (by omega) (by omega) sz xc yc hT (by omega)
      rw [show xP_text_L86 N N x 0 (nI sz) xc = _ from a1]
      unfold m_text_b107
      rw [if_pos (by decide), show m_text_L122 N N x 0 0 (nI sz) yc = _ from b1]
      exact ⟨0, nI sz', sz', xc', yc', vp_updL o 0 (Int32.toInt64 (nI sz')), rfl, rfl, fun _ => rfl, hT'⟩
    · rw [if_neg h, if_neg h]
      exact ⟨2, 0, sz, xc, yc, o, rfl, rfl, fun h => absurd h (by decide), hT⟩
  · rw [show xP_text_L5 N N x 0 0 (nI sz) xc = _ from a, show m_text_L8 N N x 0 1 0 (nI sz) yc = _ from b]
    exact ⟨1, 0, sz, xc, yc, o, rfl, rfl, fun h => absurd h (by decide), hT⟩
