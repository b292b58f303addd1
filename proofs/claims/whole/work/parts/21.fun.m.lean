def m_thrown (v_o_fault : Int32) : Option (Int32) :=
  some v_o_fault
def m_in (x0 : Int64) (x2 : Int64) (x4 : Int64) : Option (Int32) :=
  if x0 < x2 then
    some (0 : Int32)
  else
    if x4 < x0 then
        some (0 : Int32)
      else
        some (1 : Int32)
def m_nearest (x0 : Int64) (x2 : Int64) : Option (Int64) :=
  kg (knl ((2 : Int64) * x2)) (
  if (0 : Int64) ≤ (((2 : Int64) * x0) + x2) then
    some ((((2 : Int64) * x0) + x2) / ((2 : Int64) * x2))
  else
    if ((((((2 : Int64) * x0) + x2) / ((2 : Int64) * x2)) * (2 : Int64)) * x2) = (((2 : Int64) * x0) + x2) then
        some ((((2 : Int64) * x0) + x2) / ((2 : Int64) * x2))
      else
        some (((((2 : Int64) * x0) + x2) / ((2 : Int64) * x2)) - (1 : Int64)))
def m_text_B122 (N : Nat) (k122 : Int64 → Int32 → Int32 → Int32 → (Nat → Int32) → Option (Int32 × Int32 × Int32 × (Nat → Int32))) (x1 : Int64) (x5 : Int32) (v_o_fault : Int32) (v_o_size : Int32) (c_o_text : (Nat → Int32)) : Option (Int32 × Int32 × Int32 × (Nat → Int32)) :=
  if (8 : Int32) ≤ x5 then
    some (v_o_size, v_o_fault, v_o_size, c_o_text)
  else
    if (Int64.toInt32 ((x1 >>> (Int32.toInt64 ((8 : Int32) * x5) &&& 63)) &&& (255 : Int64))) = (0 : Int32) then
        k122 x1 (x5 + (1 : Int32)) v_o_fault v_o_size c_o_text
      else
        kg (ki v_o_size 1200) (
          k122 x1 (x5 + (1 : Int32)) v_o_fault (v_o_size + (1 : Int32)) (upd c_o_text (v_o_size).toNatClampNeg (Int64.toInt32 ((x1 >>> (Int32.toInt64 ((8 : Int32) * x5) &&& 63)) &&& (255 : Int64)))))
def m_text_L122 (N : Nat) : Nat → Int64 → Int32 → Int32 → Int32 → (Nat → Int32) → Option (Int32 × Int32 × Int32 × (Nat → Int32))
  | 0 => fun _ _ _ _ _ => none
  | n + 1 => fun x1 x5 v_o_fault v_o_size c_o_text => m_text_B122 N (m_text_L122 N n) x1 x5 v_o_fault v_o_size c_o_text
def m_text_b107 (N : Nat) (x1 : Int64) (s1 : Int32) (v_o_size : Int32) (c_o_text : (Nat → Int32)) : Option (Int32 × Int32 × Int32 × (Nat → Int32)) :=
  if s1 ≤ (0 : Int32) then
    m_text_L122 N N x1 (0 : Int32) s1 v_o_size c_o_text
  else
    some ((0 : Int32), s1, v_o_size, c_o_text)
def m_text_b41 (N : Nat) (k8 : Int64 → Int32 → Int32 → Int32 → Int32 → (Nat → Int32) → Option (Int32 × Int32 × Int32 × (Nat → Int32))) (x1 : Int64) (x4 : Int32) (x5 : Int32) (x6 : Int32) (s0 : Int32) (v_o_size : Int32) (c_o_text : (Nat → Int32)) : Option (Int32 × Int32 × Int32 × (Nat → Int32)) :=
  if x4 = (0 : Int32) then
    k8 x1 s0 (0 : Int32) (x5 + (1 : Int32)) v_o_size c_o_text
  else
    if x6 = (0 : Int32) then
        k8 x1 s0 (1 : Int32) (x5 + (1 : Int32)) v_o_size c_o_text
      else
        kb1 (m_in (Int32.toInt64 x6) (32 : Int64) (126 : Int64)) fun r61 =>
          if r61 = (0 : Int32) then
            k8 x1 s0 (0 : Int32) (x5 + (1 : Int32)) v_o_size c_o_text
          else
            k8 x1 s0 (1 : Int32) (x5 + (1 : Int32)) v_o_size c_o_text
def m_text_B8 (N : Nat) (k8 : Int64 → Int32 → Int32 → Int32 → Int32 → (Nat → Int32) → Option (Int32 × Int32 × Int32 × (Nat → Int32))) (x1 : Int64) (x3 : Int32) (x4 : Int32) (x5 : Int32) (v_o_size : Int32) (c_o_text : (Nat → Int32)) : Option (Int32 × Int32 × Int32 × (Nat → Int32)) :=
  if (8 : Int32) ≤ x5 then
    if x4 = (0 : Int32) then
        m_text_b107 N x1 (1 : Int32) v_o_size c_o_text
      else
        if (v_o_size + x3) ≤ (1200 : Int32) then
            m_text_b107 N x1 (0 : Int32) v_o_size c_o_text
          else
            m_text_b107 N x1 (2 : Int32) v_o_size c_o_text
  else
    if (Int64.toInt32 ((x1 >>> (Int32.toInt64 ((8 : Int32) * x5) &&& 63)) &&& (255 : Int64))) = (0 : Int32) then
        m_text_b41 N k8 x1 x4 x5 (Int64.toInt32 ((x1 >>> (Int32.toInt64 ((8 : Int32) * x5) &&& 63)) &&& (255 : Int64))) x3 v_o_size c_o_text
      else
        m_text_b41 N k8 x1 x4 x5 (Int64.toInt32 ((x1 >>> (Int32.toInt64 ((8 : Int32) * x5) &&& 63)) &&& (255 : Int64))) (x3 + (1 : Int32)) v_o_size c_o_text
def m_text_L8 (N : Nat) : Nat → Int64 → Int32 → Int32 → Int32 → Int32 → (Nat → Int32) → Option (Int32 × Int32 × Int32 × (Nat → Int32))
  | 0 => fun _ _ _ _ _ _ => none
  | n + 1 => fun x1 x3 x4 x5 v_o_size c_o_text => m_text_B8 N (m_text_L8 N n) x1 x3 x4 x5 v_o_size c_o_text
def m_text (N : Nat) (x1 : Int64) (v_o_size : Int32) (c_o_text : (Nat → Int32)) : Option (Int32 × Int32 × Int32 × (Nat → Int32)) :=
  m_text_L8 N N x1 (0 : Int32) (1 : Int32) (0 : Int32) v_o_size c_o_text
def m_sign (v_o_size : Int32) (v_o_at : Int32) (c_o_text : (Nat → Int32)) : Option (Int32) :=
  if v_o_size ≤ v_o_at then
    some (0 : Int32)
  else
    kg (ki v_o_at 1200) (
      some (c_o_text (v_o_at).toNatClampNeg))
def m_skip_b18 (N : Nat) (k0 : Int32 → Int32 → (Nat → Int32) → Option (Int32)) (v_o_size : Int32) (v_o_at : Int32) (c_o_text : (Nat → Int32)) : Option (Int32) :=
  k0 v_o_size (v_o_at + (1 : Int32)) c_o_text
def m_skip_B0 (N : Nat) (k0 : Int32 → Int32 → (Nat → Int32) → Option (Int32)) (v_o_size : Int32) (v_o_at : Int32) (c_o_text : (Nat → Int32)) : Option (Int32) :=
  kb1 (m_sign v_o_size v_o_at c_o_text) fun r1 =>
  if r1 = (32 : Int32) then
    m_skip_b18 N k0 v_o_size v_o_at c_o_text
  else
    kb1 (m_sign v_o_size v_o_at c_o_text) fun r10 =>
      if r10 = (44 : Int32) then
        m_skip_b18 N k0 v_o_size v_o_at c_o_text
      else
        some v_o_at
def m_skip_L0 (N : Nat) : Nat → Int32 → Int32 → (Nat → Int32) → Option (Int32)
  | 0 => fun _ _ _ => none
  | n + 1 => fun v_o_size v_o_at c_o_text => m_skip_B0 N (m_skip_L0 N n) v_o_size v_o_at c_o_text
def m_skip (N : Nat) (v_o_size : Int32) (v_o_at : Int32) (c_o_text : (Nat → Int32)) : Option (Int32) :=
  m_skip_L0 N N v_o_size v_o_at c_o_text
def m_isDigit (x0 : Int32) : Option (Int32) :=
  if x0 < (48 : Int32) then
    some (0 : Int32)
  else
    if (57 : Int32) < x0 then
        some (0 : Int32)
      else
        some (1 : Int32)
def m_isNumeral (v_o_size : Int32) (v_o_at : Int32) (c_o_text : (Nat → Int32)) : Option (Int32) :=
  kb1 (m_sign v_o_size v_o_at c_o_text) fun r1 =>
  kb1 (m_isDigit r1) fun r6 =>
  if r6 = (0 : Int32) then
    if r1 = (43 : Int32) then
        some (1 : Int32)
      else
        if r1 = (45 : Int32) then
            some (1 : Int32)
          else
            if r1 = (46 : Int32) then
                some (1 : Int32)
              else
                some (0 : Int32)
  else
    some (1 : Int32)
def m_passDigits_b55 (N : Nat) (k2 : Int32 → Int32 → Int32 → Int64 → (Nat → Int32) → Option (Int32 × Int32 × Int64)) (x1 : Int32) (s1 : Int64) (v_o_size : Int32) (v_o_at : Int32) (c_o_text : (Nat → Int32)) : Option (Int32 × Int32 × Int64) :=
  k2 (x1 + (1 : Int32)) v_o_size (v_o_at + (1 : Int32)) s1 c_o_text
def m_passDigits_b51 (N : Nat) (k2 : Int32 → Int32 → Int32 → Int64 → (Nat → Int32) → Option (Int32 × Int32 × Int64)) (x1 : Int32) (v_o_size : Int32) (v_o_at : Int32) (v_o_whole : Int64) (c_o_text : (Nat → Int32)) : Option (Int32 × Int32 × Int64) :=
  m_passDigits_b55 N k2 x1 v_o_whole v_o_size v_o_at c_o_text
def m_passDigits_B2 (N : Nat) (k2 : Int32 → Int32 → Int32 → Int64 → (Nat → Int32) → Option (Int32 × Int32 × Int64)) (x1 : Int32) (v_o_size : Int32) (v_o_at : Int32) (v_o_whole : Int64) (c_o_text : (Nat → Int32)) : Option (Int32 × Int32 × Int64) :=
  kb1 (m_sign v_o_size v_o_at c_o_text) fun r3 =>
  kb1 (m_isDigit r3) fun r6 =>
  if r6 = (0 : Int32) then
    some (x1, v_o_at, v_o_whole)
  else
    if (10 : Int32) ≤ x1 then
        m_passDigits_b51 N k2 x1 v_o_size v_o_at v_o_whole c_o_text
      else
        if (1000000000 : Int64) ≤ v_o_whole then
            m_passDigits_b51 N k2 x1 v_o_size v_o_at v_o_whole c_o_text
          else
            kb1 (m_sign v_o_size v_o_at c_o_text) fun r39 =>
              m_passDigits_b55 N k2 x1 ((((10 : Int64) * v_o_whole) + (Int32.toInt64 r39)) - (48 : Int64)) v_o_size v_o_at c_o_text
def m_passDigits_L2 (N : Nat) : Nat → Int32 → Int32 → Int32 → Int64 → (Nat → Int32) → Option (Int32 × Int32 × Int64)
  | 0 => fun _ _ _ _ _ => none
  | n + 1 => fun x1 v_o_size v_o_at v_o_whole c_o_text => m_passDigits_B2 N (m_passDigits_L2 N n) x1 v_o_size v_o_at v_o_whole c_o_text
def m_passDigits (N : Nat) (v_o_size : Int32) (v_o_at : Int32) (v_o_whole : Int64) (c_o_text : (Nat → Int32)) : Option (Int32 × Int32 × Int64) :=
  m_passDigits_L2 N N (0 : Int32) v_o_size v_o_at v_o_whole c_o_text
def m_numeral_b134 (N : Nat) (x1 : Int32) (v_o_at : Int32) (v_o_value : Int64) (v_o_behind : Int32) (v_o_whole : Int64) : Option (Int32 × Int64 × Int32 × Int32 × Int64) :=
  some (v_o_at, v_o_value, x1, v_o_behind, v_o_whole)
def m_numeral_b226 (N : Nat) (s1 : Int32) (v_o_at : Int32) (v_o_value : Int64) (v_o_behind : Int32) (v_o_whole : Int64) : Option (Int32 × Int64 × Int32 × Int32 × Int64) :=
  some (v_o_at, v_o_value, s1, v_o_behind, v_o_whole)
def m_numeral_b193 (N : Nat) (x1 : Int32) (x4 : Int64) (s1 : Int64) (v_o_at : Int32) (v_o_wrong : Int32) (v_o_behind : Int32) (v_o_whole : Int64) : Option (Int32 × Int64 × Int32 × Int32 × Int64) :=
  kb1 (m_nearest s1 x4) fun r195 =>
  kb1 (m_in r195 (-1048576 : Int64) (1048576 : Int64)) fun r212 =>
  if r212 = (0 : Int32) then
    m_numeral_b226 N x1 v_o_at r195 v_o_behind v_o_whole
  else
    m_numeral_b226 N v_o_wrong v_o_at r195 v_o_behind v_o_whole
def m_numeral_B146 (N : Nat) (k146 : Int32 → Int32 → Int64 → Int32 → Int32 → Int32 → Int32 → Int64 → Option (Int32 × Int64 × Int32 × Int32 × Int64)) (x1 : Int32) (x2 : Int32) (x4 : Int64) (x6 : Int32) (v_o_at : Int32) (v_o_wrong : Int32) (v_o_behind : Int32) (v_o_whole : Int64) : Option (Int32 × Int64 × Int32 × Int32 × Int64) :=
  if v_o_behind ≤ x6 then
    if x2 = (0 : Int32) then
        m_numeral_b193 N x1 x4 ((256 : Int64) * v_o_whole) v_o_at v_o_wrong v_o_behind v_o_whole
      else
        m_numeral_b193 N x1 x4 ((-256 : Int64) * v_o_whole) v_o_at v_o_wrong v_o_behind v_o_whole
  else
    k146 x1 x2 (x4 * (10 : Int64)) (x6 + (1 : Int32)) v_o_at v_o_wrong v_o_behind v_o_whole
def m_numeral_L146 (N : Nat) : Nat → Int32 → Int32 → Int64 → Int32 → Int32 → Int32 → Int32 → Int64 → Option (Int32 × Int64 × Int32 × Int32 × Int64)
  | 0 => fun _ _ _ _ _ _ _ _ => none
  | n + 1 => fun x1 x2 x4 x6 v_o_at v_o_wrong v_o_behind v_o_whole => m_numeral_B146 N (m_numeral_L146 N n) x1 x2 x4 x6 v_o_at v_o_wrong v_o_behind v_o_whole
def m_numeral_b117 (N : Nat) (x1 : Int32) (x2 : Int32) (x3 : Int32) (v_o_at : Int32) (v_o_value : Int64) (v_o_wrong : Int32) (v_o_behind : Int32) (v_o_whole : Int64) : Option (Int32 × Int64 × Int32 × Int32 × Int64) :=
  if (x3 + v_o_behind) = (0 : Int32) then
    m_numeral_b134 N x1 v_o_at v_o_value v_o_behind v_o_whole
  else
    if (x3 + v_o_behind) ≤ (9 : Int32) then
        m_numeral_L146 N N x1 x2 (1 : Int64) (0 : Int32) v_o_at v_o_wrong v_o_behind v_o_whole
      else
        m_numeral_b134 N x1 v_o_at v_o_value v_o_behind v_o_whole
def m_numeral_b72 (N : Nat) (x1 : Int32) (x2 : Int32) (s1 : Int32) (v_o_size : Int32) (v_o_value : Int64) (v_o_wrong : Int32) (c_o_text : (Nat → Int32)) : Option (Int32 × Int64 × Int32 × Int32 × Int64) :=
  kb3 (m_passDigits N v_o_size s1 (0 : Int64) c_o_text) fun r81 v_o_at_81 v_o_whole_81 =>
  kb1 (m_sign v_o_size v_o_at_81 c_o_text) fun r91 =>
  if r91 = (46 : Int32) then
    kb3 (m_passDigits N v_o_size (v_o_at_81 + (1 : Int32)) v_o_whole_81 c_o_text) fun r111 v_o_at_111 v_o_whole_111 =>
      m_numeral_b117 N x1 x2 r81 v_o_at_111 v_o_value v_o_wrong r111 v_o_whole_111
  else
    m_numeral_b117 N x1 x2 r81 v_o_at_81 v_o_value v_o_wrong (0 : Int32) v_o_whole_81
def m_numeral_b59 (N : Nat) (x1 : Int32) (x2 : Int32) (v_o_size : Int32) (v_o_at : Int32) (v_o_value : Int64) (v_o_wrong : Int32) (c_o_text : (Nat → Int32)) : Option (Int32 × Int64 × Int32 × Int32 × Int64) :=
  m_numeral_b72 N x1 x2 (v_o_at + (1 : Int32)) v_o_size v_o_value v_o_wrong c_o_text
def m_numeral_b39 (N : Nat) (x1 : Int32) (s0 : Int32) (v_o_size : Int32) (v_o_at : Int32) (v_o_value : Int64) (v_o_wrong : Int32) (c_o_text : (Nat → Int32)) : Option (Int32 × Int64 × Int32 × Int32 × Int64) :=
  kb1 (m_sign v_o_size v_o_at c_o_text) fun r42 =>
  if r42 = (45 : Int32) then
    m_numeral_b59 N x1 s0 v_o_size v_o_at v_o_value v_o_wrong c_o_text
  else
    kb1 (m_sign v_o_size v_o_at c_o_text) fun r51 =>
      if r51 = (43 : Int32) then
        m_numeral_b59 N x1 s0 v_o_size v_o_at v_o_value v_o_wrong c_o_text
      else
        m_numeral_b72 N x1 s0 v_o_at v_o_size v_o_value v_o_wrong c_o_text
def m_numeral (N : Nat) (v_o_size : Int32) (v_o_at : Int32) (v_o_value : Int64) (v_o_wrong : Int32) (v_o_behind : Int32) (v_o_whole : Int64) (c_o_text : (Nat → Int32)) : Option (Int32 × Int64 × Int32 × Int32 × Int64) :=
  kb1 (m_skip N v_o_size v_o_at c_o_text) fun v_o_at_1 =>
  kb1 (m_isNumeral v_o_size v_o_at_1 c_o_text) fun r10 =>
  if r10 = (0 : Int32) then
    some (v_o_at_1, v_o_value, v_o_at_1, v_o_behind, v_o_whole)
  else
    kb1 (m_sign v_o_size v_o_at_1 c_o_text) fun r26 =>
      if r26 = (45 : Int32) then
        m_numeral_b39 N v_o_at_1 (1 : Int32) v_o_size v_o_at_1 v_o_value v_o_wrong c_o_text
      else
        m_numeral_b39 N v_o_at_1 (0 : Int32) v_o_size v_o_at_1 v_o_value v_o_wrong c_o_text
def m_numerals_B2 (N : Nat) (k2 : Int32 → Int32 → Int32 → Int32 → Int64 → Int32 → Int32 → Int64 → (Nat → Int32) → (Nat → Int64) → Option (Int32 × Int64 × Int32 × Int32 × Int64 × (Nat → Int64))) (x1 : Int32) (x2 : Int32) (v_o_size : Int32) (v_o_at : Int32) (v_o_value : Int64) (v_o_wrong : Int32) (v_o_behind : Int32) (v_o_whole : Int64) (c_o_text : (Nat → Int32)) (c_o_given : (Nat → Int64)) : Option (Int32 × Int64 × Int32 × Int32 × Int64 × (Nat → Int64)) :=
  if x1 ≤ x2 then
    some (v_o_at, v_o_value, v_o_wrong, v_o_behind, v_o_whole, c_o_given)
  else
    if (0 : Int32) ≤ v_o_wrong then
        some (v_o_at, v_o_value, v_o_wrong, v_o_behind, v_o_whole, c_o_given)
      else
        kb5 (m_numeral N v_o_size v_o_at v_o_value v_o_wrong v_o_behind v_o_whole c_o_text) fun v_o_at_15 v_o_value_15 v_o_wrong_15 v_o_behind_15 v_o_whole_15 =>
          kg (ki x2 6) (
          k2 x1 (x2 + (1 : Int32)) v_o_size v_o_at_15 v_o_value_15 v_o_wrong_15 v_o_behind_15 v_o_whole_15 c_o_text (vp_updL c_o_given (x2).toNatClampNeg v_o_value_15))
def m_numerals_L2 (N : Nat) : Nat → Int32 → Int32 → Int32 → Int32 → Int64 → Int32 → Int32 → Int64 → (Nat → Int32) → (Nat → Int64) → Option (Int32 × Int64 × Int32 × Int32 × Int64 × (Nat → Int64))
  | 0 => fun _ _ _ _ _ _ _ _ _ _ => none
  | n + 1 => fun x1 x2 v_o_size v_o_at v_o_value v_o_wrong v_o_behind v_o_whole c_o_text c_o_given => m_numerals_B2 N (m_numerals_L2 N n) x1 x2 v_o_size v_o_at v_o_value v_o_wrong v_o_behind v_o_whole c_o_text c_o_given
def m_numerals (N : Nat) (x1 : Int32) (v_o_size : Int32) (v_o_at : Int32) (v_o_value : Int64) (v_o_wrong : Int32) (v_o_behind : Int32) (v_o_whole : Int64) (c_o_text : (Nat → Int32)) (c_o_given : (Nat → Int64)) : Option (Int32 × Int64 × Int32 × Int32 × Int64 × (Nat → Int64)) :=
  m_numerals_L2 N N x1 (0 : Int32) v_o_size v_o_at v_o_value v_o_wrong v_o_behind v_o_whole c_o_text c_o_given
def m_openGroup_b273 (N : Nat) (k236 : Int32 → Int32 → Int32 → Int32 → Int32 → Int64 → Int32 → Int32 → Int64 → (Nat → Int64) → (Nat → Int64) → Option (Int32 × Int32 × Int64 × Int32 × Int32 × Int32 × Int64 × (Nat → Int64) × (Nat → Int64))) (x1 : Int32) (x3 : Int32) (x4 : Int32) (s1 : Int32) (v_o_depth : Int32) (v_o_at : Int32) (v_o_value : Int64) (v_o_behind : Int32) (v_o_whole : Int64) (c_o_given : (Nat → Int64)) (c_o_matrix : (Nat → Int64)) : Option (Int32 × Int32 × Int64 × Int32 × Int32 × Int32 × Int64 × (Nat → Int64) × (Nat → Int64)) :=
  k236 x1 x3 (x4 + (1 : Int32)) v_o_depth v_o_at v_o_value s1 v_o_behind v_o_whole c_o_given c_o_matrix
def m_openGroup_B236 (N : Nat) (k236 : Int32 → Int32 → Int32 → Int32 → Int32 → Int64 → Int32 → Int32 → Int64 → (Nat → Int64) → (Nat → Int64) → Option (Int32 × Int32 × Int64 × Int32 × Int32 × Int32 × Int64 × (Nat → Int64) × (Nat → Int64))) (x1 : Int32) (x3 : Int32) (x4 : Int32) (v_o_depth : Int32) (v_o_at : Int32) (v_o_value : Int64) (v_o_wrong : Int32) (v_o_behind : Int32) (v_o_whole : Int64) (c_o_given : (Nat → Int64)) (c_o_matrix : (Nat → Int64)) : Option (Int32 × Int32 × Int64 × Int32 × Int32 × Int32 × Int64 × (Nat → Int64) × (Nat → Int64)) :=
  if (x3 + (6 : Int32)) ≤ x4 then
    some ((v_o_depth + (1 : Int32)), v_o_at, v_o_value, v_o_wrong, (1 : Int32), v_o_behind, v_o_whole, c_o_given, c_o_matrix)
  else
    kg (ki x4 54) (
      kb1 (m_in (c_o_matrix (x4).toNatClampNeg) (-1048576 : Int64) (1048576 : Int64)) fun r259 =>
      if r259 = (0 : Int32) then
        m_openGroup_b273 N k236 x1 x3 x4 x1 v_o_depth v_o_at v_o_value v_o_behind v_o_whole c_o_given c_o_matrix
      else
        m_openGroup_b273 N k236 x1 x3 x4 v_o_wrong v_o_depth v_o_at v_o_value v_o_behind v_o_whole c_o_given c_o_matrix)
def m_openGroup_L236 (N : Nat) : Nat → Int32 → Int32 → Int32 → Int32 → Int32 → Int64 → Int32 → Int32 → Int64 → (Nat → Int64) → (Nat → Int64) → Option (Int32 × Int32 × Int64 × Int32 × Int32 × Int32 × Int64 × (Nat → Int64) × (Nat → Int64))
  | 0 => fun _ _ _ _ _ _ _ _ _ _ _ => none
  | n + 1 => fun x1 x3 x4 v_o_depth v_o_at v_o_value v_o_wrong v_o_behind v_o_whole c_o_given c_o_matrix => m_openGroup_B236 N (m_openGroup_L236 N n) x1 x3 x4 v_o_depth v_o_at v_o_value v_o_wrong v_o_behind v_o_whole c_o_given c_o_matrix
def m_openGroup_B55 (N : Nat) (k55 : Int32 → Int32 → Int32 → Int32 → Int32 → Int32 → Int64 → Int32 → Int32 → Int64 → (Nat → Int64) → (Nat → Int64) → Option (Int32 × Int32 × Int64 × Int32 × Int32 × Int32 × Int64 × (Nat → Int64) × (Nat → Int64))) (x1 : Int32) (x2 : Int32) (x3 : Int32) (x4 : Int32) (v_o_depth : Int32) (v_o_at : Int32) (v_o_value : Int64) (v_o_wrong : Int32) (v_o_behind : Int32) (v_o_whole : Int64) (c_o_given : (Nat → Int64)) (c_o_matrix : (Nat → Int64)) : Option (Int32 × Int32 × Int64 × Int32 × Int32 × Int32 × Int64 × (Nat → Int64) × (Nat → Int64)) :=
  if (2 : Int32) ≤ x4 then
    m_openGroup_L236 N N x1 x3 x3 v_o_depth v_o_at v_o_value v_o_wrong v_o_behind v_o_whole c_o_given c_o_matrix
  else
    kg (ki (x2 + x4) 54) (
      kg (ki ((x2 + (2 : Int32)) + x4) 54) (
      kb1 (m_nearest (((c_o_matrix ((x2 + x4)).toNatClampNeg) * (c_o_given ((0 : Int32)).toNatClampNeg)) + ((c_o_matrix (((x2 + (2 : Int32)) + x4)).toNatClampNeg) * (c_o_given ((1 : Int32)).toNatClampNeg))) (256 : Int64)) fun r107 =>
      kg (ki (x3 + x4) 54) (
      kg (ki (x2 + x4) 54) (
      kg (ki ((x2 + (2 : Int32)) + x4) 54) (
      kb1 (m_nearest ((((vp_updL c_o_matrix ((x3 + x4)).toNatClampNeg r107) ((x2 + x4)).toNatClampNeg) * (c_o_given ((2 : Int32)).toNatClampNeg)) + (((vp_updL c_o_matrix ((x3 + x4)).toNatClampNeg r107) (((x2 + (2 : Int32)) + x4)).toNatClampNeg) * (c_o_given ((3 : Int32)).toNatClampNeg))) (256 : Int64)) fun r159 =>
      kg (ki ((x3 + (2 : Int32)) + x4) 54) (
      kg (ki (x2 + x4) 54) (
      kg (ki ((x2 + (2 : Int32)) + x4) 54) (
      kb1 (m_nearest ((((vp_updL (vp_updL c_o_matrix ((x3 + x4)).toNatClampNeg r107) (((x3 + (2 : Int32)) + x4)).toNatClampNeg r159) ((x2 + x4)).toNatClampNeg) * (c_o_given ((4 : Int32)).toNatClampNeg)) + (((vp_updL (vp_updL c_o_matrix ((x3 + x4)).toNatClampNeg r107) (((x3 + (2 : Int32)) + x4)).toNatClampNeg r159) (((x2 + (2 : Int32)) + x4)).toNatClampNeg) * (c_o_given ((5 : Int32)).toNatClampNeg))) (256 : Int64)) fun r211 =>
      kg (ki ((x2 + (4 : Int32)) + x4) 54) (
      kg (ki ((x3 + (4 : Int32)) + x4) 54) (
      k55 x1 x2 x3 (x4 + (1 : Int32)) v_o_depth v_o_at v_o_value v_o_wrong v_o_behind v_o_whole c_o_given (vp_updL (vp_updL (vp_updL c_o_matrix ((x3 + x4)).toNatClampNeg r107) (((x3 + (2 : Int32)) + x4)).toNatClampNeg r159) (((x3 + (4 : Int32)) + x4)).toNatClampNeg (r211 + ((vp_updL (vp_updL c_o_matrix ((x3 + x4)).toNatClampNeg r107) (((x3 + (2 : Int32)) + x4)).toNatClampNeg r159) (((x2 + (4 : Int32)) + x4)).toNatClampNeg)))))))))))))
def m_openGroup_L55 (N : Nat) : Nat → Int32 → Int32 → Int32 → Int32 → Int32 → Int32 → Int64 → Int32 → Int32 → Int64 → (Nat → Int64) → (Nat → Int64) → Option (Int32 × Int32 × Int64 × Int32 × Int32 × Int32 × Int64 × (Nat → Int64) × (Nat → Int64))
  | 0 => fun _ _ _ _ _ _ _ _ _ _ _ _ => none
  | n + 1 => fun x1 x2 x3 x4 v_o_depth v_o_at v_o_value v_o_wrong v_o_behind v_o_whole c_o_given c_o_matrix => m_openGroup_B55 N (m_openGroup_L55 N n) x1 x2 x3 x4 v_o_depth v_o_at v_o_value v_o_wrong v_o_behind v_o_whole c_o_given c_o_matrix
def m_openGroup (N : Nat) (x1 : Int32) (v_o_size : Int32) (v_o_depth : Int32) (v_o_at : Int32) (v_o_value : Int64) (v_o_wrong : Int32) (v_o_wantsMove : Int32) (v_o_behind : Int32) (v_o_whole : Int64) (c_o_text : (Nat → Int32)) (c_o_given : (Nat → Int64)) (c_o_matrix : (Nat → Int64)) : Option (Int32 × Int32 × Int64 × Int32 × Int32 × Int32 × Int64 × (Nat → Int64) × (Nat → Int64)) :=
  if v_o_depth = (8 : Int32) then
    some (v_o_depth, (v_o_at + (1 : Int32)), v_o_value, x1, v_o_wantsMove, v_o_behind, v_o_whole, c_o_given, c_o_matrix)
  else
    kb6 (m_numerals N (6 : Int32) v_o_size (v_o_at + (1 : Int32)) v_o_value v_o_wrong v_o_behind v_o_whole c_o_text c_o_given) fun v_o_at_28 v_o_value_28 v_o_wrong_28 v_o_behind_28 v_o_whole_28 c_o_given_28 =>
      if v_o_wrong_28 < (0 : Int32) then
        m_openGroup_L55 N N x1 ((6 : Int32) * v_o_depth) (((6 : Int32) * v_o_depth) + (6 : Int32)) (0 : Int32) v_o_depth v_o_at_28 v_o_value_28 v_o_wrong_28 v_o_behind_28 v_o_whole_28 c_o_given_28 c_o_matrix
      else
        some (v_o_depth, v_o_at_28, v_o_value_28, v_o_wrong_28, v_o_wantsMove, v_o_behind_28, v_o_whole_28, c_o_given_28, c_o_matrix)
def m_point_b119 (x6 : Int32) (c_o_drawnNumbers : (Nat → Int32)) : Option (Int32 × (Nat → Int32)) :=
  some (x6, c_o_drawnNumbers)
def m_point (x1 : Int32) (x2 : Int64) (x4 : Int64) (x6 : Int32) (v_o_drawn : Int32) (v_o_depth : Int32) (v_o_wrong : Int32) (c_o_matrix : (Nat → Int64)) (c_o_drawnNumbers : (Nat → Int32)) : Option (Int32 × (Nat → Int32)) :=
  kg (ki ((6 : Int32) * v_o_depth) 54) (
  kg (ki (((6 : Int32) * v_o_depth) + (2 : Int32)) 54) (
  kb1 (m_nearest (((c_o_matrix (((6 : Int32) * v_o_depth)).toNatClampNeg) * x2) + ((c_o_matrix ((((6 : Int32) * v_o_depth) + (2 : Int32))).toNatClampNeg) * x4)) (256 : Int64)) fun r34 =>
  kg (ki (((6 : Int32) * v_o_depth) + (4 : Int32)) 54) (
  kg (ki (((6 : Int32) * v_o_depth) + (1 : Int32)) 54) (
  kg (ki (((6 : Int32) * v_o_depth) + (3 : Int32)) 54) (
  kb1 (m_nearest (((c_o_matrix ((((6 : Int32) * v_o_depth) + (1 : Int32))).toNatClampNeg) * x2) + ((c_o_matrix ((((6 : Int32) * v_o_depth) + (3 : Int32))).toNatClampNeg) * x4)) (256 : Int64)) fun r76 =>
  kg (ki (((6 : Int32) * v_o_depth) + (5 : Int32)) 54) (
  kb1 (m_in (r34 + (c_o_matrix ((((6 : Int32) * v_o_depth) + (4 : Int32))).toNatClampNeg)) (-1048576 : Int64) (1048576 : Int64)) fun r99 =>
  if r99 = (0 : Int32) then
    m_point_b119 x6 c_o_drawnNumbers
  else
    kb1 (m_in (r76 + (c_o_matrix ((((6 : Int32) * v_o_depth) + (5 : Int32))).toNatClampNeg)) (-1048576 : Int64) (1048576 : Int64)) fun r113 =>
      if r113 = (0 : Int32) then
        m_point_b119 x6 c_o_drawnNumbers
      else
        kg (ki (((6 : Int32) * v_o_drawn) + ((2 : Int32) * x1)) 900) (
          kg (ki ((((6 : Int32) * v_o_drawn) + ((2 : Int32) * x1)) + (1 : Int32)) 900) (
          some (v_o_wrong, (upd (upd c_o_drawnNumbers ((((6 : Int32) * v_o_drawn) + ((2 : Int32) * x1))).toNatClampNeg (Int64.toInt32 (r34 + (c_o_matrix ((((6 : Int32) * v_o_depth) + (4 : Int32))).toNatClampNeg)))) (((((6 : Int32) * v_o_drawn) + ((2 : Int32) * x1)) + (1 : Int32))).toNatClampNeg (Int64.toInt32 (r76 + (c_o_matrix ((((6 : Int32) * v_o_depth) + (5 : Int32))).toNatClampNeg)))))))))))))
def m_draw_b73 (x1 : Int32) (x10 : Int64) (x12 : Int64) (v_o_drawn : Int32) (v_o_wrong : Int32) (c_o_drawnNumbers : (Nat → Int32)) (c_o_drawnKinds : (Nat → Int32)) : Option (Int32 × Int32 × Int64 × Int64 × (Nat → Int32) × (Nat → Int32)) :=
  kg (ki v_o_drawn 150) (
  some ((v_o_drawn + (1 : Int32)), v_o_wrong, x10, x12, c_o_drawnNumbers, (upd c_o_drawnKinds (v_o_drawn).toNatClampNeg x1)))
def m_draw (x1 : Int32) (x2 : Int64) (x4 : Int64) (x6 : Int64) (x8 : Int64) (x10 : Int64) (x12 : Int64) (x14 : Int32) (v_o_drawn : Int32) (v_o_depth : Int32) (v_o_wrong : Int32) (v_o_x : Int64) (v_o_y : Int64) (c_o_matrix : (Nat → Int64)) (c_o_drawnNumbers : (Nat → Int32)) (c_o_drawnKinds : (Nat → Int32)) : Option (Int32 × Int32 × Int64 × Int64 × (Nat → Int32) × (Nat → Int32)) :=
  if v_o_drawn = (150 : Int32) then
    some (v_o_drawn, x14, v_o_x, v_o_y, c_o_drawnNumbers, c_o_drawnKinds)
  else
    if x1 = (2 : Int32) then
        kb2 (m_point (0 : Int32) x2 x4 x14 v_o_drawn v_o_depth v_o_wrong c_o_matrix c_o_drawnNumbers) fun v_o_wrong_29 c_o_drawnNumbers_29 =>
          kb2 (m_point (1 : Int32) x6 x8 x14 v_o_drawn v_o_depth v_o_wrong_29 c_o_matrix c_o_drawnNumbers_29) fun v_o_wrong_40 c_o_drawnNumbers_40 =>
          kb2 (m_point (2 : Int32) x10 x12 x14 v_o_drawn v_o_depth v_o_wrong_40 c_o_matrix c_o_drawnNumbers_40) fun v_o_wrong_51 c_o_drawnNumbers_51 =>
          m_draw_b73 x1 x10 x12 v_o_drawn v_o_wrong_51 c_o_drawnNumbers_51 c_o_drawnKinds
      else
        if x1 = (3 : Int32) then
            m_draw_b73 x1 x10 x12 v_o_drawn v_o_wrong c_o_drawnNumbers c_o_drawnKinds
          else
            kb2 (m_point (0 : Int32) x10 x12 x14 v_o_drawn v_o_depth v_o_wrong c_o_matrix c_o_drawnNumbers) fun v_o_wrong_70 c_o_drawnNumbers_70 =>
              m_draw_b73 x1 x10 x12 v_o_drawn v_o_wrong_70 c_o_drawnNumbers_70 c_o_drawnKinds
def m_needs (x0 : Int32) : Option (Int32) :=
  if x0 = (99 : Int32) then
    some (6 : Int32)
  else if x0 = (104 : Int32) then
    some (1 : Int32)
  else if x0 = (108 : Int32) then
    some (2 : Int32)
  else if x0 = (109 : Int32) then
    some (2 : Int32)
  else if x0 = (113 : Int32) then
    some (4 : Int32)
  else if x0 = (115 : Int32) then
    some (4 : Int32)
  else if x0 = (116 : Int32) then
    some (2 : Int32)
  else if x0 = (118 : Int32) then
    some (1 : Int32)
  else if x0 = (122 : Int32) then
    some (0 : Int32)
  else 
    some (-1 : Int32)
def m_command4_b602 (x1 : Int32) (v_o_drawn : Int32) (v_o_wrong : Int32) (v_o_wantsMove : Int32) (v_o_x : Int64) (v_o_y : Int64) (v_o_startX : Int64) (v_o_startY : Int64) (v_o_turnX : Int64) (v_o_turnY : Int64) (c_o_drawnNumbers : (Nat → Int32)) (c_o_drawnKinds : (Nat → Int32)) : Option (Int32 × Int32 × Int32 × Int64 × Int64 × Int64 × Int64 × Int32 × Int64 × Int64 × (Nat → Int32) × (Nat → Int32)) :=
  some (v_o_drawn, v_o_wrong, v_o_wantsMove, v_o_x, v_o_y, v_o_startX, v_o_startY, x1, v_o_turnX, v_o_turnY, c_o_drawnNumbers, c_o_drawnKinds)
def m_command4_b408 (x1 : Int32) (x6 : Int32) (x14 : Int64) (x16 : Int64) (s1 : Int32) (s2 : Int64) (s3 : Int64) (v_o_drawn : Int32) (v_o_depth : Int32) (v_o_wrong : Int32) (v_o_wantsMove : Int32) (v_o_x : Int64) (v_o_y : Int64) (v_o_startX : Int64) (v_o_startY : Int64) (v_o_turnX : Int64) (v_o_turnY : Int64) (c_o_matrix : (Nat → Int64)) (c_o_drawnNumbers : (Nat → Int32)) (c_o_drawnKinds : (Nat → Int32)) : Option (Int32 × Int32 × Int32 × Int64 × Int64 × Int64 × Int64 × Int32 × Int64 × Int64 × (Nat → Int32) × (Nat → Int32)) :=
  kb6 (m_draw s1 s2 s3 v_o_turnX v_o_turnY x14 x16 x6 v_o_drawn v_o_depth v_o_wrong v_o_x v_o_y c_o_matrix c_o_drawnNumbers c_o_drawnKinds) fun v_o_drawn_422 v_o_wrong_422 v_o_x_422 v_o_y_422 c_o_drawnNumbers_422 c_o_drawnKinds_422 =>
  m_command4_b602 x1 v_o_drawn_422 v_o_wrong_422 v_o_wantsMove v_o_x_422 v_o_y_422 v_o_startX v_o_startY v_o_turnX v_o_turnY c_o_drawnNumbers_422 c_o_drawnKinds_422
def m_command4_b396 (x1 : Int32) (x6 : Int32) (x7 : Int32) (x11 : Int64) (x14 : Int64) (x16 : Int64) (x20 : Int64) (s1 : Int32) (s2 : Int64) (v_o_drawn : Int32) (v_o_depth : Int32) (v_o_wrong : Int32) (v_o_wantsMove : Int32) (v_o_x : Int64) (v_o_y : Int64) (v_o_startX : Int64) (v_o_startY : Int64) (v_o_turnX : Int64) (v_o_turnY : Int64) (c_o_matrix : (Nat → Int64)) (c_o_drawnNumbers : (Nat → Int32)) (c_o_drawnKinds : (Nat → Int32)) : Option (Int32 × Int32 × Int32 × Int64 × Int64 × Int64 × Int64 × Int32 × Int64 × Int64 × (Nat → Int32) × (Nat → Int32)) :=
  if x7 = (0 : Int32) then
    m_command4_b408 x1 x6 x14 x16 s1 s2 x20 v_o_drawn v_o_depth v_o_wrong v_o_wantsMove v_o_x v_o_y v_o_startX v_o_startY v_o_turnX v_o_turnY c_o_matrix c_o_drawnNumbers c_o_drawnKinds
  else
    m_command4_b408 x1 x6 x14 x16 s1 s2 x11 v_o_drawn v_o_depth v_o_wrong v_o_wantsMove v_o_x v_o_y v_o_startX v_o_startY v_o_turnX v_o_turnY c_o_matrix c_o_drawnNumbers c_o_drawnKinds
def m_command4_b520 (x1 : Int32) (x6 : Int32) (x14 : Int64) (x16 : Int64) (x18 : Int64) (x20 : Int64) (s1 : Int64) (v_o_drawn : Int32) (v_o_depth : Int32) (v_o_wrong : Int32) (v_o_wantsMove : Int32) (v_o_x : Int64) (v_o_y : Int64) (v_o_startX : Int64) (v_o_startY : Int64) (v_o_turnX : Int64) (c_o_matrix : (Nat → Int64)) (c_o_drawnNumbers : (Nat → Int32)) (c_o_drawnKinds : (Nat → Int32)) : Option (Int32 × Int32 × Int32 × Int64 × Int64 × Int64 × Int64 × Int32 × Int64 × Int64 × (Nat → Int32) × (Nat → Int32)) :=
  kb1 (m_nearest (x18 + ((2 : Int64) * v_o_turnX)) (3 : Int64)) fun r539 =>
  kb1 (m_nearest (x20 + ((2 : Int64) * s1)) (3 : Int64)) fun r556 =>
  kb1 (m_nearest (x14 + ((2 : Int64) * v_o_turnX)) (3 : Int64)) fun r573 =>
  kb1 (m_nearest (x16 + ((2 : Int64) * s1)) (3 : Int64)) fun r590 =>
  kb6 (m_draw (2 : Int32) r539 r556 r573 r590 x14 x16 x6 v_o_drawn v_o_depth v_o_wrong v_o_x v_o_y c_o_matrix c_o_drawnNumbers c_o_drawnKinds) fun v_o_drawn_599 v_o_wrong_599 v_o_x_599 v_o_y_599 c_o_drawnNumbers_599 c_o_drawnKinds_599 =>
  m_command4_b602 x1 v_o_drawn_599 v_o_wrong_599 v_o_wantsMove v_o_x_599 v_o_y_599 v_o_startX v_o_startY v_o_turnX s1 c_o_drawnNumbers_599 c_o_drawnKinds_599
def m_command4_b486 (x1 : Int32) (x4 : Int64) (x6 : Int32) (x8 : Int32) (x11 : Int64) (x14 : Int64) (x16 : Int64) (x18 : Int64) (x20 : Int64) (s1 : Int64) (v_o_drawn : Int32) (v_o_depth : Int32) (v_o_wrong : Int32) (v_o_wantsMove : Int32) (v_o_x : Int64) (v_o_y : Int64) (v_o_startX : Int64) (v_o_startY : Int64) (c_o_matrix : (Nat → Int64)) (c_o_drawnNumbers : (Nat → Int32)) (c_o_drawnKinds : (Nat → Int32)) (c_o_given : (Nat → Int64)) : Option (Int32 × Int32 × Int32 × Int64 × Int64 × Int64 × Int64 × Int32 × Int64 × Int64 × (Nat → Int32) × (Nat → Int32)) :=
  if x1 = (113 : Int32) then
    m_command4_b520 x1 x6 x14 x16 x18 x20 (x4 + (c_o_given ((1 : Int32)).toNatClampNeg)) v_o_drawn v_o_depth v_o_wrong v_o_wantsMove v_o_x v_o_y v_o_startX v_o_startY s1 c_o_matrix c_o_drawnNumbers c_o_drawnKinds
  else
    if x8 = (0 : Int32) then
        m_command4_b520 x1 x6 x14 x16 x18 x20 x20 v_o_drawn v_o_depth v_o_wrong v_o_wantsMove v_o_x v_o_y v_o_startX v_o_startY s1 c_o_matrix c_o_drawnNumbers c_o_drawnKinds
      else
        m_command4_b520 x1 x6 x14 x16 x18 x20 x11 v_o_drawn v_o_depth v_o_wrong v_o_wantsMove v_o_x v_o_y v_o_startX v_o_startY s1 c_o_matrix c_o_drawnNumbers c_o_drawnKinds
def m_command4_b137 (x1 : Int32) (x2 : Int64) (x4 : Int64) (x6 : Int32) (x7 : Int32) (x8 : Int32) (x9 : Int64) (x11 : Int64) (x14 : Int64) (s0 : Int64) (v_o_drawn : Int32) (v_o_depth : Int32) (v_o_wrong : Int32) (v_o_wantsMove : Int32) (v_o_x : Int64) (v_o_y : Int64) (v_o_startX : Int64) (v_o_startY : Int64) (v_o_turnX : Int64) (v_o_turnY : Int64) (c_o_matrix : (Nat → Int64)) (c_o_drawnNumbers : (Nat → Int32)) (c_o_drawnKinds : (Nat → Int32)) (c_o_given : (Nat → Int64)) : Option (Int32 × Int32 × Int32 × Int64 × Int64 × Int64 × Int64 × Int32 × Int64 × Int64 × (Nat → Int32) × (Nat → Int32)) :=
  if x1 = (109 : Int32) then
    kb6 (m_draw (0 : Int32) (0 : Int64) (0 : Int64) (0 : Int64) (0 : Int64) x14 s0 x6 v_o_drawn v_o_depth v_o_wrong v_o_x v_o_y c_o_matrix c_o_drawnNumbers c_o_drawnKinds) fun v_o_drawn_169 v_o_wrong_169 v_o_x_169 v_o_y_169 c_o_drawnNumbers_169 c_o_drawnKinds_169 =>
      m_command4_b602 x1 v_o_drawn_169 v_o_wrong_169 (0 : Int32) v_o_x_169 v_o_y_169 x14 s0 v_o_turnX v_o_turnY c_o_drawnNumbers_169 c_o_drawnKinds_169
  else
    if x1 = (108 : Int32) then
        kb6 (m_draw (1 : Int32) (0 : Int64) (0 : Int64) (0 : Int64) (0 : Int64) x14 s0 x6 v_o_drawn v_o_depth v_o_wrong v_o_x v_o_y c_o_matrix c_o_drawnNumbers c_o_drawnKinds) fun v_o_drawn_210 v_o_wrong_210 v_o_x_210 v_o_y_210 c_o_drawnNumbers_210 c_o_drawnKinds_210 =>
          m_command4_b602 x1 v_o_drawn_210 v_o_wrong_210 v_o_wantsMove v_o_x_210 v_o_y_210 v_o_startX v_o_startY v_o_turnX v_o_turnY c_o_drawnNumbers_210 c_o_drawnKinds_210
      else
        if x1 = (104 : Int32) then
            kb6 (m_draw (1 : Int32) (0 : Int64) (0 : Int64) (0 : Int64) (0 : Int64) (x2 + (c_o_given ((0 : Int32)).toNatClampNeg)) v_o_y x6 v_o_drawn v_o_depth v_o_wrong v_o_x v_o_y c_o_matrix c_o_drawnNumbers c_o_drawnKinds) fun v_o_drawn_242 v_o_wrong_242 v_o_x_242 v_o_y_242 c_o_drawnNumbers_242 c_o_drawnKinds_242 =>
              m_command4_b602 x1 v_o_drawn_242 v_o_wrong_242 v_o_wantsMove v_o_x_242 v_o_y_242 v_o_startX v_o_startY v_o_turnX v_o_turnY c_o_drawnNumbers_242 c_o_drawnKinds_242
          else
            if x1 = (118 : Int32) then
                kb6 (m_draw (1 : Int32) (0 : Int64) (0 : Int64) (0 : Int64) (0 : Int64) v_o_x (x4 + (c_o_given ((0 : Int32)).toNatClampNeg)) x6 v_o_drawn v_o_depth v_o_wrong v_o_x v_o_y c_o_matrix c_o_drawnNumbers c_o_drawnKinds) fun v_o_drawn_275 v_o_wrong_275 v_o_x_275 v_o_y_275 c_o_drawnNumbers_275 c_o_drawnKinds_275 =>
                  m_command4_b602 x1 v_o_drawn_275 v_o_wrong_275 v_o_wantsMove v_o_x_275 v_o_y_275 v_o_startX v_o_startY v_o_turnX v_o_turnY c_o_drawnNumbers_275 c_o_drawnKinds_275
              else
                if x1 = (99 : Int32) then
                    kb6 (m_draw (2 : Int32) (x2 + (c_o_given ((0 : Int32)).toNatClampNeg)) (x4 + (c_o_given ((1 : Int32)).toNatClampNeg)) (x2 + (c_o_given ((2 : Int32)).toNatClampNeg)) (x4 + (c_o_given ((3 : Int32)).toNatClampNeg)) x14 s0 x6 v_o_drawn v_o_depth v_o_wrong v_o_x v_o_y c_o_matrix c_o_drawnNumbers c_o_drawnKinds) fun v_o_drawn_345 v_o_wrong_345 v_o_x_345 v_o_y_345 c_o_drawnNumbers_345 c_o_drawnKinds_345 =>
                      m_command4_b602 x1 v_o_drawn_345 v_o_wrong_345 v_o_wantsMove v_o_x_345 v_o_y_345 v_o_startX v_o_startY (x2 + (c_o_given ((2 : Int32)).toNatClampNeg)) (x4 + (c_o_given ((3 : Int32)).toNatClampNeg)) c_o_drawnNumbers_345 c_o_drawnKinds_345
                  else
                    if x1 = (115 : Int32) then
                        if x7 = (0 : Int32) then
                            m_command4_b396 x1 x6 x7 x11 x14 s0 v_o_y (2 : Int32) v_o_x v_o_drawn v_o_depth v_o_wrong v_o_wantsMove v_o_x v_o_y v_o_startX v_o_startY (x2 + (c_o_given ((0 : Int32)).toNatClampNeg)) (x4 + (c_o_given ((1 : Int32)).toNatClampNeg)) c_o_matrix c_o_drawnNumbers c_o_drawnKinds
                          else
                            m_command4_b396 x1 x6 x7 x11 x14 s0 v_o_y (2 : Int32) x9 v_o_drawn v_o_depth v_o_wrong v_o_wantsMove v_o_x v_o_y v_o_startX v_o_startY (x2 + (c_o_given ((0 : Int32)).toNatClampNeg)) (x4 + (c_o_given ((1 : Int32)).toNatClampNeg)) c_o_matrix c_o_drawnNumbers c_o_drawnKinds
                      else
                        if x1 = (122 : Int32) then
                            kb6 (m_draw (3 : Int32) (0 : Int64) (0 : Int64) (0 : Int64) (0 : Int64) v_o_startX v_o_startY x6 v_o_drawn v_o_depth v_o_wrong v_o_x v_o_y c_o_matrix c_o_drawnNumbers c_o_drawnKinds) fun v_o_drawn_450 v_o_wrong_450 v_o_x_450 v_o_y_450 c_o_drawnNumbers_450 c_o_drawnKinds_450 =>
                              m_command4_b602 x1 v_o_drawn_450 v_o_wrong_450 v_o_wantsMove v_o_x_450 v_o_y_450 v_o_startX v_o_startY v_o_turnX v_o_turnY c_o_drawnNumbers_450 c_o_drawnKinds_450
                          else
                            if x1 = (113 : Int32) then
                                m_command4_b486 x1 x4 x6 x8 x11 x14 s0 v_o_x v_o_y (x2 + (c_o_given ((0 : Int32)).toNatClampNeg)) v_o_drawn v_o_depth v_o_wrong v_o_wantsMove v_o_x v_o_y v_o_startX v_o_startY c_o_matrix c_o_drawnNumbers c_o_drawnKinds c_o_given
                              else
                                if x8 = (0 : Int32) then
                                    m_command4_b486 x1 x4 x6 x8 x11 x14 s0 v_o_x v_o_y v_o_x v_o_drawn v_o_depth v_o_wrong v_o_wantsMove v_o_x v_o_y v_o_startX v_o_startY c_o_matrix c_o_drawnNumbers c_o_drawnKinds c_o_given
                                  else
                                    m_command4_b486 x1 x4 x6 x8 x11 x14 s0 v_o_x v_o_y x9 v_o_drawn v_o_depth v_o_wrong v_o_wantsMove v_o_x v_o_y v_o_startX v_o_startY c_o_matrix c_o_drawnNumbers c_o_drawnKinds c_o_given
def m_command4_b110 (x1 : Int32) (x2 : Int64) (x4 : Int64) (x6 : Int32) (x7 : Int32) (x8 : Int32) (x9 : Int64) (x11 : Int64) (x13 : Int32) (s0 : Int64) (v_o_drawn : Int32) (v_o_depth : Int32) (v_o_wrong : Int32) (v_o_wantsMove : Int32) (v_o_x : Int64) (v_o_y : Int64) (v_o_startX : Int64) (v_o_startY : Int64) (v_o_turnX : Int64) (v_o_turnY : Int64) (c_o_matrix : (Nat → Int64)) (c_o_drawnNumbers : (Nat → Int32)) (c_o_drawnKinds : (Nat → Int32)) (c_o_given : (Nat → Int64)) : Option (Int32 × Int32 × Int32 × Int64 × Int64 × Int64 × Int64 × Int32 × Int64 × Int64 × (Nat → Int32) × (Nat → Int32)) :=
  if (2 : Int32) ≤ x13 then
    kg (ki (x13 - (1 : Int32)) 6) (
      m_command4_b137 x1 x2 x4 x6 x7 x8 x9 x11 s0 (x4 + (c_o_given ((x13 - (1 : Int32))).toNatClampNeg)) v_o_drawn v_o_depth v_o_wrong v_o_wantsMove v_o_x v_o_y v_o_startX v_o_startY v_o_turnX v_o_turnY c_o_matrix c_o_drawnNumbers c_o_drawnKinds c_o_given)
  else
    m_command4_b137 x1 x2 x4 x6 x7 x8 x9 x11 s0 v_o_y v_o_drawn v_o_depth v_o_wrong v_o_wantsMove v_o_x v_o_y v_o_startX v_o_startY v_o_turnX v_o_turnY c_o_matrix c_o_drawnNumbers c_o_drawnKinds c_o_given
def m_command4_b48 (x1 : Int32) (x2 : Int64) (x4 : Int64) (x6 : Int32) (x7 : Int32) (s0 : Int32) (v_o_drawn : Int32) (v_o_depth : Int32) (v_o_wrong : Int32) (v_o_wantsMove : Int32) (v_o_x : Int64) (v_o_y : Int64) (v_o_startX : Int64) (v_o_startY : Int64) (v_o_turnX : Int64) (v_o_turnY : Int64) (c_o_matrix : (Nat → Int64)) (c_o_drawnNumbers : (Nat → Int32)) (c_o_drawnKinds : (Nat → Int32)) (c_o_given : (Nat → Int64)) : Option (Int32 × Int32 × Int32 × Int64 × Int64 × Int64 × Int64 × Int32 × Int64 × Int64 × (Nat → Int32) × (Nat → Int32)) :=
  kb1 (m_needs x1) fun r81 =>
  if (2 : Int32) ≤ r81 then
    kg (ki (r81 - (2 : Int32)) 6) (
      m_command4_b110 x1 x2 x4 x6 x7 s0 (((2 : Int64) * v_o_x) - v_o_turnX) (((2 : Int64) * v_o_y) - v_o_turnY) r81 (x2 + (c_o_given ((r81 - (2 : Int32))).toNatClampNeg)) v_o_drawn v_o_depth v_o_wrong v_o_wantsMove v_o_x v_o_y v_o_startX v_o_startY v_o_turnX v_o_turnY c_o_matrix c_o_drawnNumbers c_o_drawnKinds c_o_given)
  else
    m_command4_b110 x1 x2 x4 x6 x7 s0 (((2 : Int64) * v_o_x) - v_o_turnX) (((2 : Int64) * v_o_y) - v_o_turnY) r81 v_o_x v_o_drawn v_o_depth v_o_wrong v_o_wantsMove v_o_x v_o_y v_o_startX v_o_startY v_o_turnX v_o_turnY c_o_matrix c_o_drawnNumbers c_o_drawnKinds c_o_given
def m_command4_b23 (x1 : Int32) (x2 : Int64) (x4 : Int64) (x6 : Int32) (s0 : Int32) (v_o_drawn : Int32) (v_o_depth : Int32) (v_o_wrong : Int32) (v_o_wantsMove : Int32) (v_o_x : Int64) (v_o_y : Int64) (v_o_startX : Int64) (v_o_startY : Int64) (v_o_before : Int32) (v_o_turnX : Int64) (v_o_turnY : Int64) (c_o_matrix : (Nat → Int64)) (c_o_drawnNumbers : (Nat → Int32)) (c_o_drawnKinds : (Nat → Int32)) (c_o_given : (Nat → Int64)) : Option (Int32 × Int32 × Int32 × Int64 × Int64 × Int64 × Int64 × Int32 × Int64 × Int64 × (Nat → Int32) × (Nat → Int32)) :=
  if v_o_before = (113 : Int32) then
    m_command4_b48 x1 x2 x4 x6 s0 (1 : Int32) v_o_drawn v_o_depth v_o_wrong v_o_wantsMove v_o_x v_o_y v_o_startX v_o_startY v_o_turnX v_o_turnY c_o_matrix c_o_drawnNumbers c_o_drawnKinds c_o_given
  else
    if v_o_before = (116 : Int32) then
        m_command4_b48 x1 x2 x4 x6 s0 (1 : Int32) v_o_drawn v_o_depth v_o_wrong v_o_wantsMove v_o_x v_o_y v_o_startX v_o_startY v_o_turnX v_o_turnY c_o_matrix c_o_drawnNumbers c_o_drawnKinds c_o_given
      else
        m_command4_b48 x1 x2 x4 x6 s0 (0 : Int32) v_o_drawn v_o_depth v_o_wrong v_o_wantsMove v_o_x v_o_y v_o_startX v_o_startY v_o_turnX v_o_turnY c_o_matrix c_o_drawnNumbers c_o_drawnKinds c_o_given
def m_command4 (x1 : Int32) (x2 : Int64) (x4 : Int64) (x6 : Int32) (v_o_drawn : Int32) (v_o_depth : Int32) (v_o_wrong : Int32) (v_o_wantsMove : Int32) (v_o_x : Int64) (v_o_y : Int64) (v_o_startX : Int64) (v_o_startY : Int64) (v_o_before : Int32) (v_o_turnX : Int64) (v_o_turnY : Int64) (c_o_matrix : (Nat → Int64)) (c_o_drawnNumbers : (Nat → Int32)) (c_o_drawnKinds : (Nat → Int32)) (c_o_given : (Nat → Int64)) : Option (Int32 × Int32 × Int32 × Int64 × Int64 × Int64 × Int64 × Int32 × Int64 × Int64 × (Nat → Int32) × (Nat → Int32)) :=
  if v_o_before = (99 : Int32) then
    m_command4_b23 x1 x2 x4 x6 (1 : Int32) v_o_drawn v_o_depth v_o_wrong v_o_wantsMove v_o_x v_o_y v_o_startX v_o_startY v_o_before v_o_turnX v_o_turnY c_o_matrix c_o_drawnNumbers c_o_drawnKinds c_o_given
  else
    if v_o_before = (115 : Int32) then
        m_command4_b23 x1 x2 x4 x6 (1 : Int32) v_o_drawn v_o_depth v_o_wrong v_o_wantsMove v_o_x v_o_y v_o_startX v_o_startY v_o_before v_o_turnX v_o_turnY c_o_matrix c_o_drawnNumbers c_o_drawnKinds c_o_given
      else
        m_command4_b23 x1 x2 x4 x6 (0 : Int32) v_o_drawn v_o_depth v_o_wrong v_o_wantsMove v_o_x v_o_y v_o_startX v_o_startY v_o_before v_o_turnX v_o_turnY c_o_matrix c_o_drawnNumbers c_o_drawnKinds c_o_given
def m_commandsOf_b156 (N : Nat) (k56 : Int32 → Int32 → Int32 → Int32 → Int32 → Int32 → Int32 → Int32 → Int64 → Int32 → Int32 → Int64 → Int64 → Int64 → Int64 → Int32 → Int64 → Int64 → Int32 → Int64 → (Nat → Int64) → (Nat → Int32) → (Nat → Int32) → (Nat → Int64) → (Nat → Int32) → Option (Int32 × Int32 × Int64 × Int32 × Int32 × Int64 × Int64 × Int64 × Int64 × Int32 × Int64 × Int64 × Int32 × Int64 × (Nat → Int32) × (Nat → Int32) × (Nat → Int64))) (x2 : Int32) (x3 : Int32) (s0 : Int32) (v_o_size : Int32) (v_o_drawn : Int32) (v_o_depth : Int32) (v_o_at : Int32) (v_o_value : Int64) (v_o_wrong : Int32) (v_o_wantsMove : Int32) (v_o_x : Int64) (v_o_y : Int64) (v_o_startX : Int64) (v_o_startY : Int64) (v_o_before : Int32) (v_o_turnX : Int64) (v_o_turnY : Int64) (v_o_behind : Int32) (v_o_whole : Int64) (c_o_matrix : (Nat → Int64)) (c_o_drawnNumbers : (Nat → Int32)) (c_o_drawnKinds : (Nat → Int32)) (c_o_given : (Nat → Int64)) (c_o_text : (Nat → Int32)) : Option (Int32 × Int32 × Int64 × Int32 × Int32 × Int64 × Int64 × Int64 × Int64 × Int32 × Int64 × Int64 × Int32 × Int64 × (Nat → Int32) × (Nat → Int32) × (Nat → Int64)) :=
  kb1 (m_skip N v_o_size v_o_at c_o_text) fun v_o_at_159 =>
  kb1 (m_isNumeral v_o_size v_o_at_159 c_o_text) fun r163 =>
  k56 x2 x3 s0 r163 v_o_size v_o_drawn v_o_depth v_o_at_159 v_o_value v_o_wrong v_o_wantsMove v_o_x v_o_y v_o_startX v_o_startY v_o_before v_o_turnX v_o_turnY v_o_behind v_o_whole c_o_matrix c_o_drawnNumbers c_o_drawnKinds c_o_given c_o_text
def m_commandsOf_b138 (N : Nat) (k56 : Int32 → Int32 → Int32 → Int32 → Int32 → Int32 → Int32 → Int32 → Int64 → Int32 → Int32 → Int64 → Int64 → Int64 → Int64 → Int32 → Int64 → Int64 → Int32 → Int64 → (Nat → Int64) → (Nat → Int32) → (Nat → Int32) → (Nat → Int64) → (Nat → Int32) → Option (Int32 × Int32 × Int64 × Int32 × Int32 × Int64 × Int64 × Int64 × Int64 × Int32 × Int64 × Int64 × Int32 × Int64 × (Nat → Int32) × (Nat → Int32) × (Nat → Int64))) (x2 : Int32) (x3 : Int32) (x4 : Int32) (s1 : Int32) (s2 : Int64) (s3 : Int64) (v_o_size : Int32) (v_o_drawn : Int32) (v_o_depth : Int32) (v_o_at : Int32) (v_o_value : Int64) (v_o_wrong : Int32) (v_o_wantsMove : Int32) (v_o_x : Int64) (v_o_y : Int64) (v_o_startX : Int64) (v_o_startY : Int64) (v_o_before : Int32) (v_o_turnX : Int64) (v_o_turnY : Int64) (v_o_behind : Int32) (v_o_whole : Int64) (c_o_matrix : (Nat → Int64)) (c_o_drawnNumbers : (Nat → Int32)) (c_o_drawnKinds : (Nat → Int32)) (c_o_given : (Nat → Int64)) (c_o_text : (Nat → Int32)) : Option (Int32 × Int32 × Int64 × Int32 × Int32 × Int64 × Int64 × Int64 × Int64 × Int32 × Int64 × Int64 × Int32 × Int64 × (Nat → Int32) × (Nat → Int32) × (Nat → Int64)) :=
  kb12 (m_command4 s1 s2 s3 x2 v_o_drawn v_o_depth v_o_wrong v_o_wantsMove v_o_x v_o_y v_o_startX v_o_startY v_o_before v_o_turnX v_o_turnY c_o_matrix c_o_drawnNumbers c_o_drawnKinds c_o_given) fun v_o_drawn_139 v_o_wrong_139 v_o_wantsMove_139 v_o_x_139 v_o_y_139 v_o_startX_139 v_o_startY_139 v_o_before_139 v_o_turnX_139 v_o_turnY_139 c_o_drawnNumbers_139 c_o_drawnKinds_139 =>
  if x4 = (109 : Int32) then
    m_commandsOf_b156 N k56 x2 x3 (108 : Int32) v_o_size v_o_drawn_139 v_o_depth v_o_at v_o_value v_o_wrong_139 v_o_wantsMove_139 v_o_x_139 v_o_y_139 v_o_startX_139 v_o_startY_139 v_o_before_139 v_o_turnX_139 v_o_turnY_139 v_o_behind v_o_whole c_o_matrix c_o_drawnNumbers_139 c_o_drawnKinds_139 c_o_given c_o_text
  else
    m_commandsOf_b156 N k56 x2 x3 x4 v_o_size v_o_drawn_139 v_o_depth v_o_at v_o_value v_o_wrong_139 v_o_wantsMove_139 v_o_x_139 v_o_y_139 v_o_startX_139 v_o_startY_139 v_o_before_139 v_o_turnX_139 v_o_turnY_139 v_o_behind v_o_whole c_o_matrix c_o_drawnNumbers_139 c_o_drawnKinds_139 c_o_given c_o_text
def m_commandsOf_b125 (N : Nat) (k56 : Int32 → Int32 → Int32 → Int32 → Int32 → Int32 → Int32 → Int32 → Int64 → Int32 → Int32 → Int64 → Int64 → Int64 → Int64 → Int32 → Int64 → Int64 → Int32 → Int64 → (Nat → Int64) → (Nat → Int32) → (Nat → Int32) → (Nat → Int64) → (Nat → Int32) → Option (Int32 × Int32 × Int64 × Int32 × Int32 × Int64 × Int64 × Int64 × Int64 × Int32 × Int64 × Int64 × Int32 × Int64 × (Nat → Int32) × (Nat → Int32) × (Nat → Int64))) (x2 : Int32) (x3 : Int32) (x4 : Int32) (x6 : Int32) (s1 : Int32) (s2 : Int64) (v_o_size : Int32) (v_o_drawn : Int32) (v_o_depth : Int32) (v_o_at : Int32) (v_o_value : Int64) (v_o_wrong : Int32) (v_o_wantsMove : Int32) (v_o_x : Int64) (v_o_y : Int64) (v_o_startX : Int64) (v_o_startY : Int64) (v_o_before : Int32) (v_o_turnX : Int64) (v_o_turnY : Int64) (v_o_behind : Int32) (v_o_whole : Int64) (c_o_matrix : (Nat → Int64)) (c_o_drawnNumbers : (Nat → Int32)) (c_o_drawnKinds : (Nat → Int32)) (c_o_given : (Nat → Int64)) (c_o_text : (Nat → Int32)) : Option (Int32 × Int32 × Int64 × Int32 × Int32 × Int64 × Int64 × Int64 × Int64 × Int32 × Int64 × Int64 × Int32 × Int64 × (Nat → Int32) × (Nat → Int32) × (Nat → Int64)) :=
  if x6 = (0 : Int32) then
    m_commandsOf_b138 N k56 x2 x3 x4 s1 s2 (0 : Int64) v_o_size v_o_drawn v_o_depth v_o_at v_o_value v_o_wrong v_o_wantsMove v_o_x v_o_y v_o_startX v_o_startY v_o_before v_o_turnX v_o_turnY v_o_behind v_o_whole c_o_matrix c_o_drawnNumbers c_o_drawnKinds c_o_given c_o_text
  else
    m_commandsOf_b138 N k56 x2 x3 x4 s1 s2 v_o_y v_o_size v_o_drawn v_o_depth v_o_at v_o_value v_o_wrong v_o_wantsMove v_o_x v_o_y v_o_startX v_o_startY v_o_before v_o_turnX v_o_turnY v_o_behind v_o_whole c_o_matrix c_o_drawnNumbers c_o_drawnKinds c_o_given c_o_text
def m_commandsOf_b107 (N : Nat) (k56 : Int32 → Int32 → Int32 → Int32 → Int32 → Int32 → Int32 → Int32 → Int64 → Int32 → Int32 → Int64 → Int64 → Int64 → Int64 → Int32 → Int64 → Int64 → Int32 → Int64 → (Nat → Int64) → (Nat → Int32) → (Nat → Int32) → (Nat → Int64) → (Nat → Int32) → Option (Int32 × Int32 × Int64 × Int32 × Int32 × Int64 × Int64 × Int64 × Int64 × Int32 × Int64 × Int64 × Int32 × Int64 × (Nat → Int32) × (Nat → Int32) × (Nat → Int64))) (x2 : Int32) (x3 : Int32) (x4 : Int32) (s0 : Int32) (v_o_size : Int32) (v_o_drawn : Int32) (v_o_depth : Int32) (v_o_at : Int32) (v_o_value : Int64) (v_o_wrong : Int32) (v_o_wantsMove : Int32) (v_o_x : Int64) (v_o_y : Int64) (v_o_startX : Int64) (v_o_startY : Int64) (v_o_before : Int32) (v_o_turnX : Int64) (v_o_turnY : Int64) (v_o_behind : Int32) (v_o_whole : Int64) (c_o_matrix : (Nat → Int64)) (c_o_drawnNumbers : (Nat → Int32)) (c_o_drawnKinds : (Nat → Int32)) (c_o_given : (Nat → Int64)) (c_o_text : (Nat → Int32)) : Option (Int32 × Int32 × Int64 × Int32 × Int32 × Int64 × Int64 × Int64 × Int64 × Int32 × Int64 × Int64 × Int32 × Int64 × (Nat → Int32) × (Nat → Int32) × (Nat → Int64)) :=
  if s0 = (0 : Int32) then
    m_commandsOf_b125 N k56 x2 x3 x4 s0 x4 (0 : Int64) v_o_size v_o_drawn v_o_depth v_o_at v_o_value v_o_wrong v_o_wantsMove v_o_x v_o_y v_o_startX v_o_startY v_o_before v_o_turnX v_o_turnY v_o_behind v_o_whole c_o_matrix c_o_drawnNumbers c_o_drawnKinds c_o_given c_o_text
  else
    m_commandsOf_b125 N k56 x2 x3 x4 s0 x4 v_o_x v_o_size v_o_drawn v_o_depth v_o_at v_o_value v_o_wrong v_o_wantsMove v_o_x v_o_y v_o_startX v_o_startY v_o_before v_o_turnX v_o_turnY v_o_behind v_o_whole c_o_matrix c_o_drawnNumbers c_o_drawnKinds c_o_given c_o_text
def m_commandsOf_b106 (N : Nat) (k56 : Int32 → Int32 → Int32 → Int32 → Int32 → Int32 → Int32 → Int32 → Int64 → Int32 → Int32 → Int64 → Int64 → Int64 → Int64 → Int32 → Int64 → Int64 → Int32 → Int64 → (Nat → Int64) → (Nat → Int32) → (Nat → Int32) → (Nat → Int64) → (Nat → Int32) → Option (Int32 × Int32 × Int64 × Int32 × Int32 × Int64 × Int64 × Int64 × Int64 × Int32 × Int64 × Int64 × Int32 × Int64 × (Nat → Int32) × (Nat → Int32) × (Nat → Int64))) (x2 : Int32) (x3 : Int32) (x4 : Int32) (v_o_size : Int32) (v_o_drawn : Int32) (v_o_depth : Int32) (v_o_at : Int32) (v_o_value : Int64) (v_o_wrong : Int32) (v_o_wantsMove : Int32) (v_o_x : Int64) (v_o_y : Int64) (v_o_startX : Int64) (v_o_startY : Int64) (v_o_before : Int32) (v_o_turnX : Int64) (v_o_turnY : Int64) (v_o_behind : Int32) (v_o_whole : Int64) (c_o_matrix : (Nat → Int64)) (c_o_drawnNumbers : (Nat → Int32)) (c_o_drawnKinds : (Nat → Int32)) (c_o_given : (Nat → Int64)) (c_o_text : (Nat → Int32)) : Option (Int32 × Int32 × Int64 × Int32 × Int32 × Int64 × Int64 × Int64 × Int64 × Int32 × Int64 × Int64 × Int32 × Int64 × (Nat → Int32) × (Nat → Int32) × (Nat → Int64)) :=
  m_commandsOf_b107 N k56 x2 x3 x4 (0 : Int32) v_o_size v_o_drawn v_o_depth v_o_at v_o_value v_o_wrong v_o_wantsMove v_o_x v_o_y v_o_startX v_o_startY v_o_before v_o_turnX v_o_turnY v_o_behind v_o_whole c_o_matrix c_o_drawnNumbers c_o_drawnKinds c_o_given c_o_text
def m_commandsOf_B56 (N : Nat) (k56 : Int32 → Int32 → Int32 → Int32 → Int32 → Int32 → Int32 → Int32 → Int64 → Int32 → Int32 → Int64 → Int64 → Int64 → Int64 → Int32 → Int64 → Int64 → Int32 → Int64 → (Nat → Int64) → (Nat → Int32) → (Nat → Int32) → (Nat → Int64) → (Nat → Int32) → Option (Int32 × Int32 × Int64 × Int32 × Int32 × Int64 × Int64 × Int64 × Int64 × Int32 × Int64 × Int64 × Int32 × Int64 × (Nat → Int32) × (Nat → Int32) × (Nat → Int64))) (x2 : Int32) (x3 : Int32) (x4 : Int32) (x5 : Int32) (v_o_size : Int32) (v_o_drawn : Int32) (v_o_depth : Int32) (v_o_at : Int32) (v_o_value : Int64) (v_o_wrong : Int32) (v_o_wantsMove : Int32) (v_o_x : Int64) (v_o_y : Int64) (v_o_startX : Int64) (v_o_startY : Int64) (v_o_before : Int32) (v_o_turnX : Int64) (v_o_turnY : Int64) (v_o_behind : Int32) (v_o_whole : Int64) (c_o_matrix : (Nat → Int64)) (c_o_drawnNumbers : (Nat → Int32)) (c_o_drawnKinds : (Nat → Int32)) (c_o_given : (Nat → Int64)) (c_o_text : (Nat → Int32)) : Option (Int32 × Int32 × Int64 × Int32 × Int32 × Int64 × Int64 × Int64 × Int64 × Int32 × Int64 × Int64 × Int32 × Int64 × (Nat → Int32) × (Nat → Int32) × (Nat → Int64)) :=
  if x5 = (0 : Int32) then
    some (v_o_drawn, v_o_at, v_o_value, v_o_wrong, v_o_wantsMove, v_o_x, v_o_y, v_o_startX, v_o_startY, v_o_before, v_o_turnX, v_o_turnY, v_o_behind, v_o_whole, c_o_drawnNumbers, c_o_drawnKinds, c_o_given)
  else
    if (0 : Int32) ≤ v_o_wrong then
        some (v_o_drawn, v_o_at, v_o_value, v_o_wrong, v_o_wantsMove, v_o_x, v_o_y, v_o_startX, v_o_startY, v_o_before, v_o_turnX, v_o_turnY, v_o_behind, v_o_whole, c_o_drawnNumbers, c_o_drawnKinds, c_o_given)
      else
        kb1 (m_needs x4) fun r71 =>
          kb6 (m_numerals N r71 v_o_size v_o_at v_o_value v_o_wrong v_o_behind v_o_whole c_o_text c_o_given) fun v_o_at_74 v_o_value_74 v_o_wrong_74 v_o_behind_74 v_o_whole_74 c_o_given_74 =>
          if (0 : Int32) ≤ v_o_wrong_74 then
            k56 x2 x3 x4 x5 v_o_size v_o_drawn v_o_depth v_o_at_74 v_o_value_74 v_o_wrong_74 v_o_wantsMove v_o_x v_o_y v_o_startX v_o_startY v_o_before v_o_turnX v_o_turnY v_o_behind_74 v_o_whole_74 c_o_matrix c_o_drawnNumbers c_o_drawnKinds c_o_given_74 c_o_text
          else
            if x3 = (0 : Int32) then
                m_commandsOf_b106 N k56 x2 x3 x4 v_o_size v_o_drawn v_o_depth v_o_at_74 v_o_value_74 v_o_wrong_74 v_o_wantsMove v_o_x v_o_y v_o_startX v_o_startY v_o_before v_o_turnX v_o_turnY v_o_behind_74 v_o_whole_74 c_o_matrix c_o_drawnNumbers c_o_drawnKinds c_o_given_74 c_o_text
              else
                if x4 = (109 : Int32) then
                    if v_o_wantsMove = (0 : Int32) then
                        m_commandsOf_b107 N k56 x2 x3 x4 (1 : Int32) v_o_size v_o_drawn v_o_depth v_o_at_74 v_o_value_74 v_o_wrong_74 v_o_wantsMove v_o_x v_o_y v_o_startX v_o_startY v_o_before v_o_turnX v_o_turnY v_o_behind_74 v_o_whole_74 c_o_matrix c_o_drawnNumbers c_o_drawnKinds c_o_given_74 c_o_text
                      else
                        m_commandsOf_b106 N k56 x2 x3 x4 v_o_size v_o_drawn v_o_depth v_o_at_74 v_o_value_74 v_o_wrong_74 v_o_wantsMove v_o_x v_o_y v_o_startX v_o_startY v_o_before v_o_turnX v_o_turnY v_o_behind_74 v_o_whole_74 c_o_matrix c_o_drawnNumbers c_o_drawnKinds c_o_given_74 c_o_text
                  else
                    m_commandsOf_b107 N k56 x2 x3 x4 (1 : Int32) v_o_size v_o_drawn v_o_depth v_o_at_74 v_o_value_74 v_o_wrong_74 v_o_wantsMove v_o_x v_o_y v_o_startX v_o_startY v_o_before v_o_turnX v_o_turnY v_o_behind_74 v_o_whole_74 c_o_matrix c_o_drawnNumbers c_o_drawnKinds c_o_given_74 c_o_text
def m_commandsOf_L56 (N : Nat) : Nat → Int32 → Int32 → Int32 → Int32 → Int32 → Int32 → Int32 → Int32 → Int64 → Int32 → Int32 → Int64 → Int64 → Int64 → Int64 → Int32 → Int64 → Int64 → Int32 → Int64 → (Nat → Int64) → (Nat → Int32) → (Nat → Int32) → (Nat → Int64) → (Nat → Int32) → Option (Int32 × Int32 × Int64 × Int32 × Int32 × Int64 × Int64 × Int64 × Int64 × Int32 × Int64 × Int64 × Int32 × Int64 × (Nat → Int32) × (Nat → Int32) × (Nat → Int64))
  | 0 => fun _ _ _ _ _ _ _ _ _ _ _ _ _ _ _ _ _ _ _ _ _ _ _ _ _ => none
  | n + 1 => fun x2 x3 x4 x5 v_o_size v_o_drawn v_o_depth v_o_at v_o_value v_o_wrong v_o_wantsMove v_o_x v_o_y v_o_startX v_o_startY v_o_before v_o_turnX v_o_turnY v_o_behind v_o_whole c_o_matrix c_o_drawnNumbers c_o_drawnKinds c_o_given c_o_text => m_commandsOf_B56 N (m_commandsOf_L56 N n) x2 x3 x4 x5 v_o_size v_o_drawn v_o_depth v_o_at v_o_value v_o_wrong v_o_wantsMove v_o_x v_o_y v_o_startX v_o_startY v_o_before v_o_turnX v_o_turnY v_o_behind v_o_whole c_o_matrix c_o_drawnNumbers c_o_drawnKinds c_o_given c_o_text
def m_commandsOf_b24 (N : Nat) (x2 : Int32) (x3 : Int32) (s0 : Int32) (v_o_size : Int32) (v_o_drawn : Int32) (v_o_depth : Int32) (v_o_at : Int32) (v_o_value : Int64) (v_o_wrong : Int32) (v_o_wantsMove : Int32) (v_o_x : Int64) (v_o_y : Int64) (v_o_startX : Int64) (v_o_startY : Int64) (v_o_before : Int32) (v_o_turnX : Int64) (v_o_turnY : Int64) (v_o_behind : Int32) (v_o_whole : Int64) (c_o_matrix : (Nat → Int64)) (c_o_drawnNumbers : (Nat → Int32)) (c_o_drawnKinds : (Nat → Int32)) (c_o_given : (Nat → Int64)) (c_o_text : (Nat → Int32)) : Option (Int32 × Int32 × Int64 × Int32 × Int32 × Int64 × Int64 × Int64 × Int64 × Int32 × Int64 × Int64 × Int32 × Int64 × (Nat → Int32) × (Nat → Int32) × (Nat → Int64)) :=
  if s0 = (122 : Int32) then
    kb12 (m_command4 s0 (0 : Int64) (0 : Int64) x2 v_o_drawn v_o_depth v_o_wrong v_o_wantsMove v_o_x v_o_y v_o_startX v_o_startY v_o_before v_o_turnX v_o_turnY c_o_matrix c_o_drawnNumbers c_o_drawnKinds c_o_given) fun v_o_drawn_49 v_o_wrong_49 v_o_wantsMove_49 v_o_x_49 v_o_y_49 v_o_startX_49 v_o_startY_49 v_o_before_49 v_o_turnX_49 v_o_turnY_49 c_o_drawnNumbers_49 c_o_drawnKinds_49 =>
      some (v_o_drawn_49, (v_o_at + (1 : Int32)), v_o_value, v_o_wrong_49, v_o_wantsMove_49, v_o_x_49, v_o_y_49, v_o_startX_49, v_o_startY_49, v_o_before_49, v_o_turnX_49, v_o_turnY_49, v_o_behind, v_o_whole, c_o_drawnNumbers_49, c_o_drawnKinds_49, c_o_given)
  else
    m_commandsOf_L56 N N x2 x3 s0 (1 : Int32) v_o_size v_o_drawn v_o_depth (v_o_at + (1 : Int32)) v_o_value v_o_wrong v_o_wantsMove v_o_x v_o_y v_o_startX v_o_startY v_o_before v_o_turnX v_o_turnY v_o_behind v_o_whole c_o_matrix c_o_drawnNumbers c_o_drawnKinds c_o_given c_o_text
def m_commandsOf_b11 (N : Nat) (x1 : Int32) (x2 : Int32) (s0 : Int32) (v_o_size : Int32) (v_o_drawn : Int32) (v_o_depth : Int32) (v_o_at : Int32) (v_o_value : Int64) (v_o_wrong : Int32) (v_o_wantsMove : Int32) (v_o_x : Int64) (v_o_y : Int64) (v_o_startX : Int64) (v_o_startY : Int64) (v_o_before : Int32) (v_o_turnX : Int64) (v_o_turnY : Int64) (v_o_behind : Int32) (v_o_whole : Int64) (c_o_matrix : (Nat → Int64)) (c_o_drawnNumbers : (Nat → Int32)) (c_o_drawnKinds : (Nat → Int32)) (c_o_given : (Nat → Int64)) (c_o_text : (Nat → Int32)) : Option (Int32 × Int32 × Int64 × Int32 × Int32 × Int64 × Int64 × Int64 × Int64 × Int32 × Int64 × Int64 × Int32 × Int64 × (Nat → Int32) × (Nat → Int32) × (Nat → Int64)) :=
  if s0 = (0 : Int32) then
    m_commandsOf_b24 N x2 s0 (x1 + (32 : Int32)) v_o_size v_o_drawn v_o_depth v_o_at v_o_value v_o_wrong v_o_wantsMove v_o_x v_o_y v_o_startX v_o_startY v_o_before v_o_turnX v_o_turnY v_o_behind v_o_whole c_o_matrix c_o_drawnNumbers c_o_drawnKinds c_o_given c_o_text
  else
    m_commandsOf_b24 N x2 s0 x1 v_o_size v_o_drawn v_o_depth v_o_at v_o_value v_o_wrong v_o_wantsMove v_o_x v_o_y v_o_startX v_o_startY v_o_before v_o_turnX v_o_turnY v_o_behind v_o_whole c_o_matrix c_o_drawnNumbers c_o_drawnKinds c_o_given c_o_text
def m_commandsOf (N : Nat) (x1 : Int32) (x2 : Int32) (v_o_size : Int32) (v_o_drawn : Int32) (v_o_depth : Int32) (v_o_at : Int32) (v_o_value : Int64) (v_o_wrong : Int32) (v_o_wantsMove : Int32) (v_o_x : Int64) (v_o_y : Int64) (v_o_startX : Int64) (v_o_startY : Int64) (v_o_before : Int32) (v_o_turnX : Int64) (v_o_turnY : Int64) (v_o_behind : Int32) (v_o_whole : Int64) (c_o_matrix : (Nat → Int64)) (c_o_drawnNumbers : (Nat → Int32)) (c_o_drawnKinds : (Nat → Int32)) (c_o_given : (Nat → Int64)) (c_o_text : (Nat → Int32)) : Option (Int32 × Int32 × Int64 × Int32 × Int32 × Int64 × Int64 × Int64 × Int64 × Int32 × Int64 × Int64 × Int32 × Int64 × (Nat → Int32) × (Nat → Int32) × (Nat → Int64)) :=
  if x1 < (97 : Int32) then
    m_commandsOf_b11 N x1 x2 (0 : Int32) v_o_size v_o_drawn v_o_depth v_o_at v_o_value v_o_wrong v_o_wantsMove v_o_x v_o_y v_o_startX v_o_startY v_o_before v_o_turnX v_o_turnY v_o_behind v_o_whole c_o_matrix c_o_drawnNumbers c_o_drawnKinds c_o_given c_o_text
  else
    m_commandsOf_b11 N x1 x2 (1 : Int32) v_o_size v_o_drawn v_o_depth v_o_at v_o_value v_o_wrong v_o_wantsMove v_o_x v_o_y v_o_startX v_o_startY v_o_before v_o_turnX v_o_turnY v_o_behind v_o_whole c_o_matrix c_o_drawnNumbers c_o_drawnKinds c_o_given c_o_text
def m_readOne_b112 (N : Nat) (x1 : Int32) (v_o_drawn : Int32) (v_o_depth : Int32) (v_o_at : Int32) (v_o_value : Int64) (v_o_wantsMove : Int32) (v_o_x : Int64) (v_o_y : Int64) (v_o_startX : Int64) (v_o_startY : Int64) (v_o_before : Int32) (v_o_turnX : Int64) (v_o_turnY : Int64) (v_o_behind : Int32) (v_o_whole : Int64) (c_o_given : (Nat → Int64)) (c_o_matrix : (Nat → Int64)) (c_o_drawnNumbers : (Nat → Int32)) (c_o_drawnKinds : (Nat → Int32)) : Option (Int32 × Int32 × Int32 × Int64 × Int32 × Int32 × Int64 × Int64 × Int64 × Int64 × Int32 × Int64 × Int64 × Int32 × Int64 × (Nat → Int64) × (Nat → Int64) × (Nat → Int32) × (Nat → Int32)) :=
  some (v_o_drawn, v_o_depth, v_o_at, v_o_value, x1, v_o_wantsMove, v_o_x, v_o_y, v_o_startX, v_o_startY, v_o_before, v_o_turnX, v_o_turnY, v_o_behind, v_o_whole, c_o_given, c_o_matrix, c_o_drawnNumbers, c_o_drawnKinds)
def m_readOne_b118 (N : Nat) (x1 : Int32) (x2 : Int32) (v_o_size : Int32) (v_o_drawn : Int32) (v_o_depth : Int32) (v_o_at : Int32) (v_o_value : Int64) (v_o_wrong : Int32) (v_o_wantsMove : Int32) (v_o_x : Int64) (v_o_y : Int64) (v_o_startX : Int64) (v_o_startY : Int64) (v_o_before : Int32) (v_o_turnX : Int64) (v_o_turnY : Int64) (v_o_behind : Int32) (v_o_whole : Int64) (c_o_text : (Nat → Int32)) (c_o_given : (Nat → Int64)) (c_o_matrix : (Nat → Int64)) (c_o_drawnNumbers : (Nat → Int32)) (c_o_drawnKinds : (Nat → Int32)) : Option (Int32 × Int32 × Int32 × Int64 × Int32 × Int32 × Int64 × Int64 × Int64 × Int64 × Int32 × Int64 × Int64 × Int32 × Int64 × (Nat → Int64) × (Nat → Int64) × (Nat → Int32) × (Nat → Int32)) :=
  kb17 (m_commandsOf N x2 x1 v_o_size v_o_drawn v_o_depth v_o_at v_o_value v_o_wrong v_o_wantsMove v_o_x v_o_y v_o_startX v_o_startY v_o_before v_o_turnX v_o_turnY v_o_behind v_o_whole c_o_matrix c_o_drawnNumbers c_o_drawnKinds c_o_given c_o_text) fun v_o_drawn_121 v_o_at_121 v_o_value_121 v_o_wrong_121 v_o_wantsMove_121 v_o_x_121 v_o_y_121 v_o_startX_121 v_o_startY_121 v_o_before_121 v_o_turnX_121 v_o_turnY_121 v_o_behind_121 v_o_whole_121 c_o_drawnNumbers_121 c_o_drawnKinds_121 c_o_given_121 =>
  some (v_o_drawn_121, v_o_depth, v_o_at_121, v_o_value_121, v_o_wrong_121, v_o_wantsMove_121, v_o_x_121, v_o_y_121, v_o_startX_121, v_o_startY_121, v_o_before_121, v_o_turnX_121, v_o_turnY_121, v_o_behind_121, v_o_whole_121, c_o_given_121, c_o_matrix, c_o_drawnNumbers_121, c_o_drawnKinds_121)
def m_readOne_b91 (N : Nat) (x1 : Int32) (x2 : Int32) (s0 : Int32) (v_o_size : Int32) (v_o_drawn : Int32) (v_o_depth : Int32) (v_o_at : Int32) (v_o_value : Int64) (v_o_wrong : Int32) (v_o_wantsMove : Int32) (v_o_x : Int64) (v_o_y : Int64) (v_o_startX : Int64) (v_o_startY : Int64) (v_o_before : Int32) (v_o_turnX : Int64) (v_o_turnY : Int64) (v_o_behind : Int32) (v_o_whole : Int64) (c_o_text : (Nat → Int32)) (c_o_given : (Nat → Int64)) (c_o_matrix : (Nat → Int64)) (c_o_drawnNumbers : (Nat → Int32)) (c_o_drawnKinds : (Nat → Int32)) : Option (Int32 × Int32 × Int32 × Int64 × Int32 × Int32 × Int64 × Int64 × Int64 × Int64 × Int32 × Int64 × Int64 × Int32 × Int64 × (Nat → Int64) × (Nat → Int64) × (Nat → Int32) × (Nat → Int32)) :=
  kb1 (m_needs s0) fun r93 =>
  if r93 < (0 : Int32) then
    m_readOne_b112 N x1 v_o_drawn v_o_depth v_o_at v_o_value v_o_wantsMove v_o_x v_o_y v_o_startX v_o_startY v_o_before v_o_turnX v_o_turnY v_o_behind v_o_whole c_o_given c_o_matrix c_o_drawnNumbers c_o_drawnKinds
  else
    if v_o_wantsMove = (0 : Int32) then
        m_readOne_b118 N x1 x2 v_o_size v_o_drawn v_o_depth v_o_at v_o_value v_o_wrong v_o_wantsMove v_o_x v_o_y v_o_startX v_o_startY v_o_before v_o_turnX v_o_turnY v_o_behind v_o_whole c_o_text c_o_given c_o_matrix c_o_drawnNumbers c_o_drawnKinds
      else
        if s0 = (109 : Int32) then
            m_readOne_b118 N x1 x2 v_o_size v_o_drawn v_o_depth v_o_at v_o_value v_o_wrong v_o_wantsMove v_o_x v_o_y v_o_startX v_o_startY v_o_before v_o_turnX v_o_turnY v_o_behind v_o_whole c_o_text c_o_given c_o_matrix c_o_drawnNumbers c_o_drawnKinds
          else
            m_readOne_b112 N x1 v_o_drawn v_o_depth v_o_at v_o_value v_o_wantsMove v_o_x v_o_y v_o_startX v_o_startY v_o_before v_o_turnX v_o_turnY v_o_behind v_o_whole c_o_given c_o_matrix c_o_drawnNumbers c_o_drawnKinds
def m_readOne_b90 (N : Nat) (x1 : Int32) (x2 : Int32) (v_o_size : Int32) (v_o_drawn : Int32) (v_o_depth : Int32) (v_o_at : Int32) (v_o_value : Int64) (v_o_wrong : Int32) (v_o_wantsMove : Int32) (v_o_x : Int64) (v_o_y : Int64) (v_o_startX : Int64) (v_o_startY : Int64) (v_o_before : Int32) (v_o_turnX : Int64) (v_o_turnY : Int64) (v_o_behind : Int32) (v_o_whole : Int64) (c_o_text : (Nat → Int32)) (c_o_given : (Nat → Int64)) (c_o_matrix : (Nat → Int64)) (c_o_drawnNumbers : (Nat → Int32)) (c_o_drawnKinds : (Nat → Int32)) : Option (Int32 × Int32 × Int32 × Int64 × Int32 × Int32 × Int64 × Int64 × Int64 × Int64 × Int32 × Int64 × Int64 × Int32 × Int64 × (Nat → Int64) × (Nat → Int64) × (Nat → Int32) × (Nat → Int32)) :=
  m_readOne_b91 N x1 x2 x2 v_o_size v_o_drawn v_o_depth v_o_at v_o_value v_o_wrong v_o_wantsMove v_o_x v_o_y v_o_startX v_o_startY v_o_before v_o_turnX v_o_turnY v_o_behind v_o_whole c_o_text c_o_given c_o_matrix c_o_drawnNumbers c_o_drawnKinds
def m_readOne (N : Nat) (v_o_size : Int32) (v_o_drawn : Int32) (v_o_depth : Int32) (v_o_at : Int32) (v_o_value : Int64) (v_o_wrong : Int32) (v_o_wantsMove : Int32) (v_o_x : Int64) (v_o_y : Int64) (v_o_startX : Int64) (v_o_startY : Int64) (v_o_before : Int32) (v_o_turnX : Int64) (v_o_turnY : Int64) (v_o_behind : Int32) (v_o_whole : Int64) (c_o_text : (Nat → Int32)) (c_o_given : (Nat → Int64)) (c_o_matrix : (Nat → Int64)) (c_o_drawnNumbers : (Nat → Int32)) (c_o_drawnKinds : (Nat → Int32)) : Option (Int32 × Int32 × Int32 × Int64 × Int32 × Int32 × Int64 × Int64 × Int64 × Int64 × Int32 × Int64 × Int64 × Int32 × Int64 × (Nat → Int64) × (Nat → Int64) × (Nat → Int32) × (Nat → Int32)) :=
  kb1 (m_sign v_o_size v_o_at c_o_text) fun r6 =>
  if r6 = (40 : Int32) then
    kb9 (m_openGroup N v_o_at v_o_size v_o_depth v_o_at v_o_value v_o_wrong v_o_wantsMove v_o_behind v_o_whole c_o_text c_o_given c_o_matrix) fun v_o_depth_18 v_o_at_18 v_o_value_18 v_o_wrong_18 v_o_wantsMove_18 v_o_behind_18 v_o_whole_18 c_o_given_18 c_o_matrix_18 =>
      some (v_o_drawn, v_o_depth_18, v_o_at_18, v_o_value_18, v_o_wrong_18, v_o_wantsMove_18, v_o_x, v_o_y, v_o_startX, v_o_startY, v_o_before, v_o_turnX, v_o_turnY, v_o_behind_18, v_o_whole_18, c_o_given_18, c_o_matrix_18, c_o_drawnNumbers, c_o_drawnKinds)
  else
    if r6 = (41 : Int32) then
        if v_o_depth = (0 : Int32) then
            some (v_o_drawn, v_o_depth, (v_o_at + (1 : Int32)), v_o_value, v_o_at, v_o_wantsMove, v_o_x, v_o_y, v_o_startX, v_o_startY, v_o_before, v_o_turnX, v_o_turnY, v_o_behind, v_o_whole, c_o_given, c_o_matrix, c_o_drawnNumbers, c_o_drawnKinds)
          else
            some (v_o_drawn, (v_o_depth - (1 : Int32)), (v_o_at + (1 : Int32)), v_o_value, v_o_wrong, (1 : Int32), v_o_x, v_o_y, v_o_startX, v_o_startY, v_o_before, v_o_turnX, v_o_turnY, v_o_behind, v_o_whole, c_o_given, c_o_matrix, c_o_drawnNumbers, c_o_drawnKinds)
      else
        if r6 < (65 : Int32) then
            m_readOne_b90 N v_o_at r6 v_o_size v_o_drawn v_o_depth v_o_at v_o_value v_o_wrong v_o_wantsMove v_o_x v_o_y v_o_startX v_o_startY v_o_before v_o_turnX v_o_turnY v_o_behind v_o_whole c_o_text c_o_given c_o_matrix c_o_drawnNumbers c_o_drawnKinds
          else
            if (90 : Int32) < r6 then
                m_readOne_b90 N v_o_at r6 v_o_size v_o_drawn v_o_depth v_o_at v_o_value v_o_wrong v_o_wantsMove v_o_x v_o_y v_o_startX v_o_startY v_o_before v_o_turnX v_o_turnY v_o_behind v_o_whole c_o_text c_o_given c_o_matrix c_o_drawnNumbers c_o_drawnKinds
              else
                m_readOne_b91 N v_o_at r6 (r6 + (32 : Int32)) v_o_size v_o_drawn v_o_depth v_o_at v_o_value v_o_wrong v_o_wantsMove v_o_x v_o_y v_o_startX v_o_startY v_o_before v_o_turnX v_o_turnY v_o_behind v_o_whole c_o_text c_o_given c_o_matrix c_o_drawnNumbers c_o_drawnKinds
def m_read_B197 (N : Nat) (k175 : Int32 → Int32 → Int32 → Int32 → Int32 → Int32 → Int32 → Int64 → Int32 → Int32 → Int64 → Int64 → Int64 → Int64 → Int32 → Int64 → Int64 → Int32 → Int64 → (Nat → Int64) → (Nat → Int64) → (Nat → Int32) → (Nat → Int32) → (Nat → Int32) → (Nat → Int32) → Option (Int32 × Int32 × Int32 × Int32 × Int32 × Int32 × Int32 × Int64 × Int32 × Int32 × Int64 × Int64 × Int64 × Int64 × Int32 × Int64 × Int64 × Int32 × Int64 × (Nat → Int64) × (Nat → Int64) × (Nat → Int32) × (Nat → Int32) × (Nat → Int32) × (Nat → Int32))) (k197 : Int32 → Int32 → Int32 → Int32 → Int32 → Int32 → Int32 → Int32 → Int64 → Int32 → Int32 → Int64 → Int64 → Int64 → Int64 → Int32 → Int64 → Int64 → Int32 → Int64 → (Nat → Int64) → (Nat → Int64) → (Nat → Int32) → (Nat → Int32) → (Nat → Int32) → (Nat → Int32) → Option (Int32 × Int32 × Int32 × Int32 × Int32 × Int32 × Int32 × Int64 × Int32 × Int32 × Int64 × Int64 × Int64 × Int64 × Int32 × Int64 × Int64 × Int32 × Int64 × (Nat → Int64) × (Nat → Int64) × (Nat → Int32) × (Nat → Int32) × (Nat → Int32) × (Nat → Int32))) (x1 : Int32) (x2 : Int32) (v_o_fault : Int32) (v_o_size : Int32) (v_o_commands : Int32) (v_o_drawn : Int32) (v_o_depth : Int32) (v_o_at : Int32) (v_o_value : Int64) (v_o_wrong : Int32) (v_o_wantsMove : Int32) (v_o_x : Int64) (v_o_y : Int64) (v_o_startX : Int64) (v_o_startY : Int64) (v_o_before : Int32) (v_o_turnX : Int64) (v_o_turnY : Int64) (v_o_behind : Int32) (v_o_whole : Int64) (c_o_matrix : (Nat → Int64)) (c_o_given : (Nat → Int64)) (c_o_drawnNumbers : (Nat → Int32)) (c_o_drawnKinds : (Nat → Int32)) (c_o_kinds : (Nat → Int32)) (c_o_numbers : (Nat → Int32)) : Option (Int32 × Int32 × Int32 × Int32 × Int32 × Int32 × Int32 × Int64 × Int32 × Int32 × Int64 × Int64 × Int64 × Int64 × Int32 × Int64 × Int64 × Int32 × Int64 × (Nat → Int64) × (Nat → Int64) × (Nat → Int32) × (Nat → Int32) × (Nat → Int32) × (Nat → Int32)) :=
  if (6 : Int32) ≤ x2 then
    k175 (x1 + (1 : Int32)) v_o_fault v_o_size v_o_commands v_o_drawn v_o_depth v_o_at v_o_value v_o_wrong v_o_wantsMove v_o_x v_o_y v_o_startX v_o_startY v_o_before v_o_turnX v_o_turnY v_o_behind v_o_whole c_o_matrix c_o_given c_o_drawnNumbers c_o_drawnKinds c_o_kinds c_o_numbers
  else
    kg (ki (((6 : Int32) * x1) + x2) 900) (
      kg (ki (((6 : Int32) * x1) + x2) 900) (
      k197 x1 (x2 + (1 : Int32)) v_o_fault v_o_size v_o_commands v_o_drawn v_o_depth v_o_at v_o_value v_o_wrong v_o_wantsMove v_o_x v_o_y v_o_startX v_o_startY v_o_before v_o_turnX v_o_turnY v_o_behind v_o_whole c_o_matrix c_o_given c_o_drawnNumbers c_o_drawnKinds c_o_kinds (upd c_o_numbers ((((6 : Int32) * x1) + x2)).toNatClampNeg (c_o_drawnNumbers ((((6 : Int32) * x1) + x2)).toNatClampNeg))))
def m_read_L197 (N : Nat) (k175 : Int32 → Int32 → Int32 → Int32 → Int32 → Int32 → Int32 → Int64 → Int32 → Int32 → Int64 → Int64 → Int64 → Int64 → Int32 → Int64 → Int64 → Int32 → Int64 → (Nat → Int64) → (Nat → Int64) → (Nat → Int32) → (Nat → Int32) → (Nat → Int32) → (Nat → Int32) → Option (Int32 × Int32 × Int32 × Int32 × Int32 × Int32 × Int32 × Int64 × Int32 × Int32 × Int64 × Int64 × Int64 × Int64 × Int32 × Int64 × Int64 × Int32 × Int64 × (Nat → Int64) × (Nat → Int64) × (Nat → Int32) × (Nat → Int32) × (Nat → Int32) × (Nat → Int32))) : Nat → Int32 → Int32 → Int32 → Int32 → Int32 → Int32 → Int32 → Int32 → Int64 → Int32 → Int32 → Int64 → Int64 → Int64 → Int64 → Int32 → Int64 → Int64 → Int32 → Int64 → (Nat → Int64) → (Nat → Int64) → (Nat → Int32) → (Nat → Int32) → (Nat → Int32) → (Nat → Int32) → Option (Int32 × Int32 × Int32 × Int32 × Int32 × Int32 × Int32 × Int64 × Int32 × Int32 × Int64 × Int64 × Int64 × Int64 × Int32 × Int64 × Int64 × Int32 × Int64 × (Nat → Int64) × (Nat → Int64) × (Nat → Int32) × (Nat → Int32) × (Nat → Int32) × (Nat → Int32))
  | 0 => fun _ _ _ _ _ _ _ _ _ _ _ _ _ _ _ _ _ _ _ _ _ _ _ _ _ _ => none
  | n + 1 => fun x1 x2 v_o_fault v_o_size v_o_commands v_o_drawn v_o_depth v_o_at v_o_value v_o_wrong v_o_wantsMove v_o_x v_o_y v_o_startX v_o_startY v_o_before v_o_turnX v_o_turnY v_o_behind v_o_whole c_o_matrix c_o_given c_o_drawnNumbers c_o_drawnKinds c_o_kinds c_o_numbers => m_read_B197 N k175 (m_read_L197 N k175 n) x1 x2 v_o_fault v_o_size v_o_commands v_o_drawn v_o_depth v_o_at v_o_value v_o_wrong v_o_wantsMove v_o_x v_o_y v_o_startX v_o_startY v_o_before v_o_turnX v_o_turnY v_o_behind v_o_whole c_o_matrix c_o_given c_o_drawnNumbers c_o_drawnKinds c_o_kinds c_o_numbers
def m_read_B175 (N : Nat) (k175 : Int32 → Int32 → Int32 → Int32 → Int32 → Int32 → Int32 → Int64 → Int32 → Int32 → Int64 → Int64 → Int64 → Int64 → Int32 → Int64 → Int64 → Int32 → Int64 → (Nat → Int64) → (Nat → Int64) → (Nat → Int32) → (Nat → Int32) → (Nat → Int32) → (Nat → Int32) → Option (Int32 × Int32 × Int32 × Int32 × Int32 × Int32 × Int32 × Int64 × Int32 × Int32 × Int64 × Int64 × Int64 × Int64 × Int32 × Int64 × Int64 × Int32 × Int64 × (Nat → Int64) × (Nat → Int64) × (Nat → Int32) × (Nat → Int32) × (Nat → Int32) × (Nat → Int32))) (x1 : Int32) (v_o_fault : Int32) (v_o_size : Int32) (v_o_commands : Int32) (v_o_drawn : Int32) (v_o_depth : Int32) (v_o_at : Int32) (v_o_value : Int64) (v_o_wrong : Int32) (v_o_wantsMove : Int32) (v_o_x : Int64) (v_o_y : Int64) (v_o_startX : Int64) (v_o_startY : Int64) (v_o_before : Int32) (v_o_turnX : Int64) (v_o_turnY : Int64) (v_o_behind : Int32) (v_o_whole : Int64) (c_o_matrix : (Nat → Int64)) (c_o_given : (Nat → Int64)) (c_o_drawnNumbers : (Nat → Int32)) (c_o_drawnKinds : (Nat → Int32)) (c_o_kinds : (Nat → Int32)) (c_o_numbers : (Nat → Int32)) : Option (Int32 × Int32 × Int32 × Int32 × Int32 × Int32 × Int32 × Int64 × Int32 × Int32 × Int64 × Int64 × Int64 × Int64 × Int32 × Int64 × Int64 × Int32 × Int64 × (Nat → Int64) × (Nat → Int64) × (Nat → Int32) × (Nat → Int32) × (Nat → Int32) × (Nat → Int32)) :=
  if v_o_drawn ≤ x1 then
    some (v_o_commands, v_o_fault, v_o_size, v_o_commands, v_o_drawn, v_o_depth, v_o_at, v_o_value, v_o_wrong, v_o_wantsMove, v_o_x, v_o_y, v_o_startX, v_o_startY, v_o_before, v_o_turnX, v_o_turnY, v_o_behind, v_o_whole, c_o_matrix, c_o_given, c_o_drawnNumbers, c_o_drawnKinds, c_o_kinds, c_o_numbers)
  else
    kg (ki x1 150) (
      kg (ki x1 150) (
      m_read_L197 N k175 N x1 (0 : Int32) v_o_fault v_o_size v_o_commands v_o_drawn v_o_depth v_o_at v_o_value v_o_wrong v_o_wantsMove v_o_x v_o_y v_o_startX v_o_startY v_o_before v_o_turnX v_o_turnY v_o_behind v_o_whole c_o_matrix c_o_given c_o_drawnNumbers c_o_drawnKinds (upd c_o_kinds (x1).toNatClampNeg (c_o_drawnKinds (x1).toNatClampNeg)) c_o_numbers))
def m_read_L175 (N : Nat) : Nat → Int32 → Int32 → Int32 → Int32 → Int32 → Int32 → Int32 → Int64 → Int32 → Int32 → Int64 → Int64 → Int64 → Int64 → Int32 → Int64 → Int64 → Int32 → Int64 → (Nat → Int64) → (Nat → Int64) → (Nat → Int32) → (Nat → Int32) → (Nat → Int32) → (Nat → Int32) → Option (Int32 × Int32 × Int32 × Int32 × Int32 × Int32 × Int32 × Int64 × Int32 × Int32 × Int64 × Int64 × Int64 × Int64 × Int32 × Int64 × Int64 × Int32 × Int64 × (Nat → Int64) × (Nat → Int64) × (Nat → Int32) × (Nat → Int32) × (Nat → Int32) × (Nat → Int32))
  | 0 => fun _ _ _ _ _ _ _ _ _ _ _ _ _ _ _ _ _ _ _ _ _ _ _ _ _ => none
  | n + 1 => fun x1 v_o_fault v_o_size v_o_commands v_o_drawn v_o_depth v_o_at v_o_value v_o_wrong v_o_wantsMove v_o_x v_o_y v_o_startX v_o_startY v_o_before v_o_turnX v_o_turnY v_o_behind v_o_whole c_o_matrix c_o_given c_o_drawnNumbers c_o_drawnKinds c_o_kinds c_o_numbers => m_read_B175 N (m_read_L175 N n) x1 v_o_fault v_o_size v_o_commands v_o_drawn v_o_depth v_o_at v_o_value v_o_wrong v_o_wantsMove v_o_x v_o_y v_o_startX v_o_startY v_o_before v_o_turnX v_o_turnY v_o_behind v_o_whole c_o_matrix c_o_given c_o_drawnNumbers c_o_drawnKinds c_o_kinds c_o_numbers
def m_read_b146 (N : Nat) (v_o_fault : Int32) (v_o_commands : Int32) (v_o_drawn : Int32) (v_o_depth : Int32) (v_o_at : Int32) (v_o_value : Int64) (v_o_wrong : Int32) (v_o_wantsMove : Int32) (v_o_x : Int64) (v_o_y : Int64) (v_o_startX : Int64) (v_o_startY : Int64) (v_o_before : Int32) (v_o_turnX : Int64) (v_o_turnY : Int64) (v_o_behind : Int32) (v_o_whole : Int64) (c_o_matrix : (Nat → Int64)) (c_o_given : (Nat → Int64)) (c_o_drawnNumbers : (Nat → Int32)) (c_o_drawnKinds : (Nat → Int32)) (c_o_kinds : (Nat → Int32)) (c_o_numbers : (Nat → Int32)) : Option (Int32 × Int32 × Int32 × Int32 × Int32 × Int32 × Int32 × Int64 × Int32 × Int32 × Int64 × Int64 × Int64 × Int64 × Int32 × Int64 × Int64 × Int32 × Int64 × (Nat → Int64) × (Nat → Int64) × (Nat → Int32) × (Nat → Int32) × (Nat → Int32) × (Nat → Int32)) :=
  if v_o_wrong < (0 : Int32) then
    m_read_L175 N N (0 : Int32) v_o_fault (0 : Int32) v_o_drawn v_o_drawn v_o_depth v_o_at v_o_value v_o_wrong v_o_wantsMove v_o_x v_o_y v_o_startX v_o_startY v_o_before v_o_turnX v_o_turnY v_o_behind v_o_whole c_o_matrix c_o_given c_o_drawnNumbers c_o_drawnKinds c_o_kinds c_o_numbers
  else
    some (((-1 : Int32) - v_o_wrong), v_o_fault, (0 : Int32), v_o_commands, v_o_drawn, v_o_depth, v_o_at, v_o_value, v_o_wrong, v_o_wantsMove, v_o_x, v_o_y, v_o_startX, v_o_startY, v_o_before, v_o_turnX, v_o_turnY, v_o_behind, v_o_whole, c_o_matrix, c_o_given, c_o_drawnNumbers, c_o_drawnKinds, c_o_kinds, c_o_numbers)
def m_read_b124 (N : Nat) (v_o_fault : Int32) (v_o_size : Int32) (v_o_commands : Int32) (v_o_drawn : Int32) (v_o_depth : Int32) (v_o_at : Int32) (v_o_value : Int64) (v_o_wrong : Int32) (v_o_wantsMove : Int32) (v_o_x : Int64) (v_o_y : Int64) (v_o_startX : Int64) (v_o_startY : Int64) (v_o_before : Int32) (v_o_turnX : Int64) (v_o_turnY : Int64) (v_o_behind : Int32) (v_o_whole : Int64) (c_o_matrix : (Nat → Int64)) (c_o_given : (Nat → Int64)) (c_o_drawnNumbers : (Nat → Int32)) (c_o_drawnKinds : (Nat → Int32)) (c_o_kinds : (Nat → Int32)) (c_o_numbers : (Nat → Int32)) : Option (Int32 × Int32 × Int32 × Int32 × Int32 × Int32 × Int32 × Int64 × Int32 × Int32 × Int64 × Int64 × Int64 × Int64 × Int32 × Int64 × Int64 × Int32 × Int64 × (Nat → Int64) × (Nat → Int64) × (Nat → Int32) × (Nat → Int32) × (Nat → Int32) × (Nat → Int32)) :=
  if (0 : Int32) ≤ v_o_wrong then
    m_read_b146 N v_o_fault v_o_commands v_o_drawn v_o_depth v_o_at v_o_value v_o_wrong v_o_wantsMove v_o_x v_o_y v_o_startX v_o_startY v_o_before v_o_turnX v_o_turnY v_o_behind v_o_whole c_o_matrix c_o_given c_o_drawnNumbers c_o_drawnKinds c_o_kinds c_o_numbers
  else
    if v_o_depth ≤ (0 : Int32) then
        m_read_b146 N v_o_fault v_o_commands v_o_drawn v_o_depth v_o_at v_o_value v_o_wrong v_o_wantsMove v_o_x v_o_y v_o_startX v_o_startY v_o_before v_o_turnX v_o_turnY v_o_behind v_o_whole c_o_matrix c_o_given c_o_drawnNumbers c_o_drawnKinds c_o_kinds c_o_numbers
      else
        m_read_b146 N v_o_fault v_o_commands v_o_drawn v_o_depth v_o_at v_o_value v_o_size v_o_wantsMove v_o_x v_o_y v_o_startX v_o_startY v_o_before v_o_turnX v_o_turnY v_o_behind v_o_whole c_o_matrix c_o_given c_o_drawnNumbers c_o_drawnKinds c_o_kinds c_o_numbers
def m_read_B95 (N : Nat) (k95 : Int32 → Int32 → Int32 → Int32 → Int32 → Int32 → Int64 → Int32 → Int32 → Int64 → Int64 → Int64 → Int64 → Int32 → Int64 → Int64 → Int32 → Int64 → (Nat → Int64) → (Nat → Int32) → (Nat → Int64) → (Nat → Int32) → (Nat → Int32) → (Nat → Int32) → (Nat → Int32) → Option (Int32 × Int32 × Int32 × Int32 × Int32 × Int32 × Int32 × Int64 × Int32 × Int32 × Int64 × Int64 × Int64 × Int64 × Int32 × Int64 × Int64 × Int32 × Int64 × (Nat → Int64) × (Nat → Int64) × (Nat → Int32) × (Nat → Int32) × (Nat → Int32) × (Nat → Int32))) (v_o_fault : Int32) (v_o_size : Int32) (v_o_commands : Int32) (v_o_drawn : Int32) (v_o_depth : Int32) (v_o_at : Int32) (v_o_value : Int64) (v_o_wrong : Int32) (v_o_wantsMove : Int32) (v_o_x : Int64) (v_o_y : Int64) (v_o_startX : Int64) (v_o_startY : Int64) (v_o_before : Int32) (v_o_turnX : Int64) (v_o_turnY : Int64) (v_o_behind : Int32) (v_o_whole : Int64) (c_o_matrix : (Nat → Int64)) (c_o_text : (Nat → Int32)) (c_o_given : (Nat → Int64)) (c_o_drawnNumbers : (Nat → Int32)) (c_o_drawnKinds : (Nat → Int32)) (c_o_kinds : (Nat → Int32)) (c_o_numbers : (Nat → Int32)) : Option (Int32 × Int32 × Int32 × Int32 × Int32 × Int32 × Int32 × Int64 × Int32 × Int32 × Int64 × Int64 × Int64 × Int64 × Int32 × Int64 × Int64 × Int32 × Int64 × (Nat → Int64) × (Nat → Int64) × (Nat → Int32) × (Nat → Int32) × (Nat → Int32) × (Nat → Int32)) :=
  if v_o_size ≤ v_o_at then
    m_read_b124 N v_o_fault v_o_size v_o_commands v_o_drawn v_o_depth v_o_at v_o_value v_o_wrong v_o_wantsMove v_o_x v_o_y v_o_startX v_o_startY v_o_before v_o_turnX v_o_turnY v_o_behind v_o_whole c_o_matrix c_o_given c_o_drawnNumbers c_o_drawnKinds c_o_kinds c_o_numbers
  else
    if (0 : Int32) ≤ v_o_wrong then
        m_read_b124 N v_o_fault v_o_size v_o_commands v_o_drawn v_o_depth v_o_at v_o_value v_o_wrong v_o_wantsMove v_o_x v_o_y v_o_startX v_o_startY v_o_before v_o_turnX v_o_turnY v_o_behind v_o_whole c_o_matrix c_o_given c_o_drawnNumbers c_o_drawnKinds c_o_kinds c_o_numbers
      else
        kb19 (m_readOne N v_o_size v_o_drawn v_o_depth v_o_at v_o_value v_o_wrong v_o_wantsMove v_o_x v_o_y v_o_startX v_o_startY v_o_before v_o_turnX v_o_turnY v_o_behind v_o_whole c_o_text c_o_given c_o_matrix c_o_drawnNumbers c_o_drawnKinds) fun v_o_drawn_114 v_o_depth_114 v_o_at_114 v_o_value_114 v_o_wrong_114 v_o_wantsMove_114 v_o_x_114 v_o_y_114 v_o_startX_114 v_o_startY_114 v_o_before_114 v_o_turnX_114 v_o_turnY_114 v_o_behind_114 v_o_whole_114 c_o_given_114 c_o_matrix_114 c_o_drawnNumbers_114 c_o_drawnKinds_114 =>
          kb1 (m_skip N v_o_size v_o_at_114 c_o_text) fun v_o_at_118 =>
          k95 v_o_fault v_o_size v_o_commands v_o_drawn_114 v_o_depth_114 v_o_at_118 v_o_value_114 v_o_wrong_114 v_o_wantsMove_114 v_o_x_114 v_o_y_114 v_o_startX_114 v_o_startY_114 v_o_before_114 v_o_turnX_114 v_o_turnY_114 v_o_behind_114 v_o_whole_114 c_o_matrix_114 c_o_text c_o_given_114 c_o_drawnNumbers_114 c_o_drawnKinds_114 c_o_kinds c_o_numbers
def m_read_L95 (N : Nat) : Nat → Int32 → Int32 → Int32 → Int32 → Int32 → Int32 → Int64 → Int32 → Int32 → Int64 → Int64 → Int64 → Int64 → Int32 → Int64 → Int64 → Int32 → Int64 → (Nat → Int64) → (Nat → Int32) → (Nat → Int64) → (Nat → Int32) → (Nat → Int32) → (Nat → Int32) → (Nat → Int32) → Option (Int32 × Int32 × Int32 × Int32 × Int32 × Int32 × Int32 × Int64 × Int32 × Int32 × Int64 × Int64 × Int64 × Int64 × Int32 × Int64 × Int64 × Int32 × Int64 × (Nat → Int64) × (Nat → Int64) × (Nat → Int32) × (Nat → Int32) × (Nat → Int32) × (Nat → Int32))
  | 0 => fun _ _ _ _ _ _ _ _ _ _ _ _ _ _ _ _ _ _ _ _ _ _ _ _ _ => none
  | n + 1 => fun v_o_fault v_o_size v_o_commands v_o_drawn v_o_depth v_o_at v_o_value v_o_wrong v_o_wantsMove v_o_x v_o_y v_o_startX v_o_startY v_o_before v_o_turnX v_o_turnY v_o_behind v_o_whole c_o_matrix c_o_text c_o_given c_o_drawnNumbers c_o_drawnKinds c_o_kinds c_o_numbers => m_read_B95 N (m_read_L95 N n) v_o_fault v_o_size v_o_commands v_o_drawn v_o_depth v_o_at v_o_value v_o_wrong v_o_wantsMove v_o_x v_o_y v_o_startX v_o_startY v_o_before v_o_turnX v_o_turnY v_o_behind v_o_whole c_o_matrix c_o_text c_o_given c_o_drawnNumbers c_o_drawnKinds c_o_kinds c_o_numbers
def m_read_b84 (N : Nat) (k57 : Int32 → Int32 → Int32 → Int32 → Int32 → Int32 → Int32 → Int64 → Int32 → Int32 → Int64 → Int64 → Int64 → Int64 → Int32 → Int64 → Int64 → Int32 → Int64 → (Nat → Int64) → (Nat → Int32) → (Nat → Int64) → (Nat → Int32) → (Nat → Int32) → (Nat → Int32) → (Nat → Int32) → Option (Int32 × Int32 × Int32 × Int32 × Int32 × Int32 × Int32 × Int64 × Int32 × Int32 × Int64 × Int64 × Int64 × Int64 × Int32 × Int64 × Int64 × Int32 × Int64 × (Nat → Int64) × (Nat → Int64) × (Nat → Int32) × (Nat → Int32) × (Nat → Int32) × (Nat → Int32))) (x1 : Int32) (s1 : Int32) (s2 : Int64) (v_o_fault : Int32) (v_o_size : Int32) (v_o_commands : Int32) (v_o_drawn : Int32) (v_o_depth : Int32) (v_o_at : Int32) (v_o_value : Int64) (v_o_wrong : Int32) (v_o_wantsMove : Int32) (v_o_x : Int64) (v_o_y : Int64) (v_o_startX : Int64) (v_o_startY : Int64) (v_o_before : Int32) (v_o_turnX : Int64) (v_o_turnY : Int64) (v_o_behind : Int32) (v_o_whole : Int64) (c_o_matrix : (Nat → Int64)) (c_o_text : (Nat → Int32)) (c_o_given : (Nat → Int64)) (c_o_drawnNumbers : (Nat → Int32)) (c_o_drawnKinds : (Nat → Int32)) (c_o_kinds : (Nat → Int32)) (c_o_numbers : (Nat → Int32)) : Option (Int32 × Int32 × Int32 × Int32 × Int32 × Int32 × Int32 × Int64 × Int32 × Int32 × Int64 × Int64 × Int64 × Int64 × Int32 × Int64 × Int64 × Int32 × Int64 × (Nat → Int64) × (Nat → Int64) × (Nat → Int32) × (Nat → Int32) × (Nat → Int32) × (Nat → Int32)) :=
  kg (ki s1 54) (
  k57 (x1 + (1 : Int32)) v_o_fault v_o_size v_o_commands v_o_drawn v_o_depth v_o_at v_o_value v_o_wrong v_o_wantsMove v_o_x v_o_y v_o_startX v_o_startY v_o_before v_o_turnX v_o_turnY v_o_behind v_o_whole (vp_updL c_o_matrix (s1).toNatClampNeg s2) c_o_text c_o_given c_o_drawnNumbers c_o_drawnKinds c_o_kinds c_o_numbers)
def m_read_b77 (N : Nat) (k57 : Int32 → Int32 → Int32 → Int32 → Int32 → Int32 → Int32 → Int64 → Int32 → Int32 → Int64 → Int64 → Int64 → Int64 → Int32 → Int64 → Int64 → Int32 → Int64 → (Nat → Int64) → (Nat → Int32) → (Nat → Int64) → (Nat → Int32) → (Nat → Int32) → (Nat → Int32) → (Nat → Int32) → Option (Int32 × Int32 × Int32 × Int32 × Int32 × Int32 × Int32 × Int64 × Int32 × Int32 × Int64 × Int64 × Int64 × Int64 × Int32 × Int64 × Int64 × Int32 × Int64 × (Nat → Int64) × (Nat → Int64) × (Nat → Int32) × (Nat → Int32) × (Nat → Int32) × (Nat → Int32))) (x1 : Int32) (s1 : Int32) (v_o_fault : Int32) (v_o_size : Int32) (v_o_commands : Int32) (v_o_drawn : Int32) (v_o_depth : Int32) (v_o_at : Int32) (v_o_value : Int64) (v_o_wrong : Int32) (v_o_wantsMove : Int32) (v_o_x : Int64) (v_o_y : Int64) (v_o_startX : Int64) (v_o_startY : Int64) (v_o_before : Int32) (v_o_turnX : Int64) (v_o_turnY : Int64) (v_o_behind : Int32) (v_o_whole : Int64) (c_o_matrix : (Nat → Int64)) (c_o_text : (Nat → Int32)) (c_o_given : (Nat → Int64)) (c_o_drawnNumbers : (Nat → Int32)) (c_o_drawnKinds : (Nat → Int32)) (c_o_kinds : (Nat → Int32)) (c_o_numbers : (Nat → Int32)) : Option (Int32 × Int32 × Int32 × Int32 × Int32 × Int32 × Int32 × Int64 × Int32 × Int32 × Int64 × Int64 × Int64 × Int64 × Int32 × Int64 × Int64 × Int32 × Int64 × (Nat → Int64) × (Nat → Int64) × (Nat → Int32) × (Nat → Int32) × (Nat → Int32) × (Nat → Int32)) :=
  m_read_b84 N k57 x1 s1 (256 : Int64) v_o_fault v_o_size v_o_commands v_o_drawn v_o_depth v_o_at v_o_value v_o_wrong v_o_wantsMove v_o_x v_o_y v_o_startX v_o_startY v_o_before v_o_turnX v_o_turnY v_o_behind v_o_whole c_o_matrix c_o_text c_o_given c_o_drawnNumbers c_o_drawnKinds c_o_kinds c_o_numbers
def m_read_B57 (N : Nat) (k57 : Int32 → Int32 → Int32 → Int32 → Int32 → Int32 → Int32 → Int64 → Int32 → Int32 → Int64 → Int64 → Int64 → Int64 → Int32 → Int64 → Int64 → Int32 → Int64 → (Nat → Int64) → (Nat → Int32) → (Nat → Int64) → (Nat → Int32) → (Nat → Int32) → (Nat → Int32) → (Nat → Int32) → Option (Int32 × Int32 × Int32 × Int32 × Int32 × Int32 × Int32 × Int64 × Int32 × Int32 × Int64 × Int64 × Int64 × Int64 × Int32 × Int64 × Int64 × Int32 × Int64 × (Nat → Int64) × (Nat → Int64) × (Nat → Int32) × (Nat → Int32) × (Nat → Int32) × (Nat → Int32))) (x1 : Int32) (v_o_fault : Int32) (v_o_size : Int32) (v_o_commands : Int32) (v_o_drawn : Int32) (v_o_depth : Int32) (v_o_at : Int32) (v_o_value : Int64) (v_o_wrong : Int32) (v_o_wantsMove : Int32) (v_o_x : Int64) (v_o_y : Int64) (v_o_startX : Int64) (v_o_startY : Int64) (v_o_before : Int32) (v_o_turnX : Int64) (v_o_turnY : Int64) (v_o_behind : Int32) (v_o_whole : Int64) (c_o_matrix : (Nat → Int64)) (c_o_text : (Nat → Int32)) (c_o_given : (Nat → Int64)) (c_o_drawnNumbers : (Nat → Int32)) (c_o_drawnKinds : (Nat → Int32)) (c_o_kinds : (Nat → Int32)) (c_o_numbers : (Nat → Int32)) : Option (Int32 × Int32 × Int32 × Int32 × Int32 × Int32 × Int32 × Int64 × Int32 × Int32 × Int64 × Int64 × Int64 × Int64 × Int32 × Int64 × Int64 × Int32 × Int64 × (Nat → Int64) × (Nat → Int64) × (Nat → Int32) × (Nat → Int32) × (Nat → Int32) × (Nat → Int32)) :=
  if (6 : Int32) ≤ x1 then
    kb1 (m_skip N v_o_size v_o_at c_o_text) fun v_o_at_92 =>
      m_read_L95 N N v_o_fault v_o_size v_o_commands v_o_drawn v_o_depth v_o_at_92 v_o_value v_o_wrong v_o_wantsMove v_o_x v_o_y v_o_startX v_o_startY v_o_before v_o_turnX v_o_turnY v_o_behind v_o_whole c_o_matrix c_o_text c_o_given c_o_drawnNumbers c_o_drawnKinds c_o_kinds c_o_numbers
  else
    if x1 = (0 : Int32) then
        m_read_b77 N k57 x1 x1 v_o_fault v_o_size v_o_commands v_o_drawn v_o_depth v_o_at v_o_value v_o_wrong v_o_wantsMove v_o_x v_o_y v_o_startX v_o_startY v_o_before v_o_turnX v_o_turnY v_o_behind v_o_whole c_o_matrix c_o_text c_o_given c_o_drawnNumbers c_o_drawnKinds c_o_kinds c_o_numbers
      else
        if x1 = (3 : Int32) then
            m_read_b77 N k57 x1 x1 v_o_fault v_o_size v_o_commands v_o_drawn v_o_depth v_o_at v_o_value v_o_wrong v_o_wantsMove v_o_x v_o_y v_o_startX v_o_startY v_o_before v_o_turnX v_o_turnY v_o_behind v_o_whole c_o_matrix c_o_text c_o_given c_o_drawnNumbers c_o_drawnKinds c_o_kinds c_o_numbers
          else
            m_read_b84 N k57 x1 x1 (0 : Int64) v_o_fault v_o_size v_o_commands v_o_drawn v_o_depth v_o_at v_o_value v_o_wrong v_o_wantsMove v_o_x v_o_y v_o_startX v_o_startY v_o_before v_o_turnX v_o_turnY v_o_behind v_o_whole c_o_matrix c_o_text c_o_given c_o_drawnNumbers c_o_drawnKinds c_o_kinds c_o_numbers
def m_read_L57 (N : Nat) : Nat → Int32 → Int32 → Int32 → Int32 → Int32 → Int32 → Int32 → Int64 → Int32 → Int32 → Int64 → Int64 → Int64 → Int64 → Int32 → Int64 → Int64 → Int32 → Int64 → (Nat → Int64) → (Nat → Int32) → (Nat → Int64) → (Nat → Int32) → (Nat → Int32) → (Nat → Int32) → (Nat → Int32) → Option (Int32 × Int32 × Int32 × Int32 × Int32 × Int32 × Int32 × Int64 × Int32 × Int32 × Int64 × Int64 × Int64 × Int64 × Int32 × Int64 × Int64 × Int32 × Int64 × (Nat → Int64) × (Nat → Int64) × (Nat → Int32) × (Nat → Int32) × (Nat → Int32) × (Nat → Int32))
  | 0 => fun _ _ _ _ _ _ _ _ _ _ _ _ _ _ _ _ _ _ _ _ _ _ _ _ _ _ => none
  | n + 1 => fun x1 v_o_fault v_o_size v_o_commands v_o_drawn v_o_depth v_o_at v_o_value v_o_wrong v_o_wantsMove v_o_x v_o_y v_o_startX v_o_startY v_o_before v_o_turnX v_o_turnY v_o_behind v_o_whole c_o_matrix c_o_text c_o_given c_o_drawnNumbers c_o_drawnKinds c_o_kinds c_o_numbers => m_read_B57 N (m_read_L57 N n) x1 v_o_fault v_o_size v_o_commands v_o_drawn v_o_depth v_o_at v_o_value v_o_wrong v_o_wantsMove v_o_x v_o_y v_o_startX v_o_startY v_o_before v_o_turnX v_o_turnY v_o_behind v_o_whole c_o_matrix c_o_text c_o_given c_o_drawnNumbers c_o_drawnKinds c_o_kinds c_o_numbers
def m_read (N : Nat) (v_o_size : Int32) (v_o_commands : Int32) (v_o_value : Int64) (v_o_turnX : Int64) (v_o_turnY : Int64) (v_o_behind : Int32) (v_o_whole : Int64) (c_o_matrix : (Nat → Int64)) (c_o_text : (Nat → Int32)) (c_o_given : (Nat → Int64)) (c_o_drawnNumbers : (Nat → Int32)) (c_o_drawnKinds : (Nat → Int32)) (c_o_kinds : (Nat → Int32)) (c_o_numbers : (Nat → Int32)) : Option (Int32 × Int32 × Int32 × Int32 × Int32 × Int32 × Int32 × Int64 × Int32 × Int32 × Int64 × Int64 × Int64 × Int64 × Int32 × Int64 × Int64 × Int32 × Int64 × (Nat → Int64) × (Nat → Int64) × (Nat → Int32) × (Nat → Int32) × (Nat → Int32) × (Nat → Int32)) :=
  m_read_L57 N N (0 : Int32) (0 : Int32) v_o_size v_o_commands (0 : Int32) (0 : Int32) (0 : Int32) v_o_value (-1 : Int32) (1 : Int32) (0 : Int64) (0 : Int64) (0 : Int64) (0 : Int64) (0 : Int32) v_o_turnX v_o_turnY v_o_behind v_o_whole c_o_matrix c_o_text c_o_given c_o_drawnNumbers c_o_drawnKinds c_o_kinds c_o_numbers
def m_hasMove_B4 (N : Nat) (k4 : Int32 → Int32 → Int32 → (Nat → Int32) → Option (Int32)) (x1 : Int32) (x2 : Int32) (v_o_commands : Int32) (c_o_kinds : (Nat → Int32)) : Option (Int32) :=
  if v_o_commands ≤ x2 then
    kg (kz x1) (
      some x1)
  else
    if x1 = (0 : Int32) then
        kg (ki x2 150) (
          if (c_o_kinds (x2).toNatClampNeg) = (0 : Int32) then
            k4 (1 : Int32) (x2 + (1 : Int32)) v_o_commands c_o_kinds
          else
            k4 (0 : Int32) (x2 + (1 : Int32)) v_o_commands c_o_kinds)
      else
        k4 (1 : Int32) (x2 + (1 : Int32)) v_o_commands c_o_kinds
def m_hasMove_L4 (N : Nat) : Nat → Int32 → Int32 → Int32 → (Nat → Int32) → Option (Int32)
  | 0 => fun _ _ _ _ => none
  | n + 1 => fun x1 x2 v_o_commands c_o_kinds => m_hasMove_B4 N (m_hasMove_L4 N n) x1 x2 v_o_commands c_o_kinds
def m_hasMove (N : Nat) (v_o_commands : Int32) (c_o_kinds : (Nat → Int32)) : Option (Int32) :=
  m_hasMove_L4 N N (0 : Int32) (0 : Int32) v_o_commands c_o_kinds
def m_isNumber (x0 : Int32) : Option (Int32) :=
  kb1 (m_in (Int32.toInt64 x0) (-1048576 : Int64) (1048576 : Int64)) fun r8 =>
  kg (kz r8) (
  some r8)
def m_put (x1 : Int32) (x2 : Int32) (v_o_commands : Int32) (c_o_numbers : (Nat → Int32)) : Option ((Nat → Int32)) :=
  kg (ki (((6 : Int32) * v_o_commands) + x1) 900) (
  some (upd c_o_numbers ((((6 : Int32) * v_o_commands) + x1)).toNatClampNeg x2))
def m_add (x1 : Int32) (v_o_commands : Int32) (c_o_kinds : (Nat → Int32)) : Option (Int32 × Int32 × (Nat → Int32)) :=
  kg (ki v_o_commands 150) (
  some ((v_o_commands + (1 : Int32)), (v_o_commands + (1 : Int32)), (upd c_o_kinds (v_o_commands).toNatClampNeg x1)))
def m_move_b34 (x1 : Int32) (x2 : Int32) (s1 : Int32) (v_o_commands : Int32) (c_o_numbers : (Nat → Int32)) (c_o_kinds : (Nat → Int32)) : Option (Int32 × Int32 × Int32 × (Nat → Int32) × (Nat → Int32)) :=
  if s1 ≤ (0 : Int32) then
    kb1 (m_put (0 : Int32) x1 v_o_commands c_o_numbers) fun c_o_numbers_49 =>
      kb1 (m_put (1 : Int32) x2 v_o_commands c_o_numbers_49) fun c_o_numbers_55 =>
      kb3 (m_add (0 : Int32) v_o_commands c_o_kinds) fun r60 v_o_commands_60 c_o_kinds_60 =>
      some (r60, s1, v_o_commands_60, c_o_numbers_55, c_o_kinds_60)
  else
    some ((0 : Int32), s1, v_o_commands, c_o_numbers, c_o_kinds)
def m_move (x1 : Int32) (x2 : Int32) (v_o_commands : Int32) (c_o_numbers : (Nat → Int32)) (c_o_kinds : (Nat → Int32)) : Option (Int32 × Int32 × Int32 × (Nat → Int32) × (Nat → Int32)) :=
  kb1 (m_isNumber x1) fun r2 =>
  if r2 = (0 : Int32) then
    m_move_b34 x1 x2 (1 : Int32) v_o_commands c_o_numbers c_o_kinds
  else
    kb1 (m_isNumber x2) fun r9 =>
      if r9 = (0 : Int32) then
        m_move_b34 x1 x2 (1 : Int32) v_o_commands c_o_numbers c_o_kinds
      else
        if v_o_commands = (150 : Int32) then
            m_move_b34 x1 x2 (2 : Int32) v_o_commands c_o_numbers c_o_kinds
          else
            m_move_b34 x1 x2 (0 : Int32) v_o_commands c_o_numbers c_o_kinds
def m_line_b45 (N : Nat) (x1 : Int32) (x2 : Int32) (s1 : Int32) (v_o_commands : Int32) (c_o_kinds : (Nat → Int32)) (c_o_numbers : (Nat → Int32)) : Option (Int32 × Int32 × Int32 × (Nat → Int32) × (Nat → Int32)) :=
  if s1 ≤ (0 : Int32) then
    kb1 (m_put (0 : Int32) x1 v_o_commands c_o_numbers) fun c_o_numbers_60 =>
      kb1 (m_put (1 : Int32) x2 v_o_commands c_o_numbers_60) fun c_o_numbers_66 =>
      kb3 (m_add (1 : Int32) v_o_commands c_o_kinds) fun r71 v_o_commands_71 c_o_kinds_71 =>
      some (r71, s1, v_o_commands_71, c_o_kinds_71, c_o_numbers_66)
  else
    some ((0 : Int32), s1, v_o_commands, c_o_kinds, c_o_numbers)
def m_line (N : Nat) (x1 : Int32) (x2 : Int32) (v_o_commands : Int32) (c_o_kinds : (Nat → Int32)) (c_o_numbers : (Nat → Int32)) : Option (Int32 × Int32 × Int32 × (Nat → Int32) × (Nat → Int32)) :=
  kb1 (m_isNumber x1) fun r2 =>
  if r2 = (0 : Int32) then
    m_line_b45 N x1 x2 (1 : Int32) v_o_commands c_o_kinds c_o_numbers
  else
    kb1 (m_isNumber x2) fun r9 =>
      if r9 = (0 : Int32) then
        m_line_b45 N x1 x2 (1 : Int32) v_o_commands c_o_kinds c_o_numbers
      else
        kb1 (m_hasMove N v_o_commands c_o_kinds) fun r20 =>
          if r20 = (0 : Int32) then
            m_line_b45 N x1 x2 (2 : Int32) v_o_commands c_o_kinds c_o_numbers
          else
            if v_o_commands = (150 : Int32) then
                m_line_b45 N x1 x2 (3 : Int32) v_o_commands c_o_kinds c_o_numbers
              else
                m_line_b45 N x1 x2 (0 : Int32) v_o_commands c_o_kinds c_o_numbers
def m_cubic_b88 (N : Nat) (x1 : Int32) (x2 : Int32) (x3 : Int32) (x4 : Int32) (x5 : Int32) (x6 : Int32) (s1 : Int32) (v_o_commands : Int32) (c_o_numbers : (Nat → Int32)) (c_o_kinds : (Nat → Int32)) : Option (Int32 × Int32 × Int32 × (Nat → Int32) × (Nat → Int32)) :=
  if s1 ≤ (0 : Int32) then
    kb1 (m_put (0 : Int32) x1 v_o_commands c_o_numbers) fun c_o_numbers_103 =>
      kb1 (m_put (1 : Int32) x2 v_o_commands c_o_numbers_103) fun c_o_numbers_109 =>
      kb1 (m_put (2 : Int32) x3 v_o_commands c_o_numbers_109) fun c_o_numbers_115 =>
      kb1 (m_put (3 : Int32) x4 v_o_commands c_o_numbers_115) fun c_o_numbers_122 =>
      kb1 (m_put (4 : Int32) x5 v_o_commands c_o_numbers_122) fun c_o_numbers_129 =>
      kb1 (m_put (5 : Int32) x6 v_o_commands c_o_numbers_129) fun c_o_numbers_136 =>
      kb3 (m_add (2 : Int32) v_o_commands c_o_kinds) fun r141 v_o_commands_141 c_o_kinds_141 =>
      some (r141, s1, v_o_commands_141, c_o_numbers_136, c_o_kinds_141)
  else
    some ((0 : Int32), s1, v_o_commands, c_o_numbers, c_o_kinds)
def m_cubic_b50 (N : Nat) (x1 : Int32) (x2 : Int32) (x3 : Int32) (x4 : Int32) (x5 : Int32) (x6 : Int32) (s0 : Int32) (v_o_commands : Int32) (c_o_numbers : (Nat → Int32)) (c_o_kinds : (Nat → Int32)) : Option (Int32 × Int32 × Int32 × (Nat → Int32) × (Nat → Int32)) :=
  if s0 = (0 : Int32) then
    m_cubic_b88 N x1 x2 x3 x4 x5 x6 (1 : Int32) v_o_commands c_o_numbers c_o_kinds
  else
    kb1 (m_hasMove N v_o_commands c_o_kinds) fun r63 =>
      if r63 = (0 : Int32) then
        m_cubic_b88 N x1 x2 x3 x4 x5 x6 (2 : Int32) v_o_commands c_o_numbers c_o_kinds
      else
        if v_o_commands = (150 : Int32) then
            m_cubic_b88 N x1 x2 x3 x4 x5 x6 (3 : Int32) v_o_commands c_o_numbers c_o_kinds
          else
            m_cubic_b88 N x1 x2 x3 x4 x5 x6 (0 : Int32) v_o_commands c_o_numbers c_o_kinds
def m_cubic_b49 (N : Nat) (x1 : Int32) (x2 : Int32) (x3 : Int32) (x4 : Int32) (x5 : Int32) (x6 : Int32) (v_o_commands : Int32) (c_o_numbers : (Nat → Int32)) (c_o_kinds : (Nat → Int32)) : Option (Int32 × Int32 × Int32 × (Nat → Int32) × (Nat → Int32)) :=
  m_cubic_b50 N x1 x2 x3 x4 x5 x6 (0 : Int32) v_o_commands c_o_numbers c_o_kinds
def m_cubic (N : Nat) (x1 : Int32) (x2 : Int32) (x3 : Int32) (x4 : Int32) (x5 : Int32) (x6 : Int32) (v_o_commands : Int32) (c_o_numbers : (Nat → Int32)) (c_o_kinds : (Nat → Int32)) : Option (Int32 × Int32 × Int32 × (Nat → Int32) × (Nat → Int32)) :=
  kb1 (m_isNumber x1) fun r1 =>
  if r1 = (0 : Int32) then
    m_cubic_b49 N x1 x2 x3 x4 x5 x6 v_o_commands c_o_numbers c_o_kinds
  else
    kb1 (m_isNumber x2) fun r8 =>
      if r8 = (0 : Int32) then
        m_cubic_b49 N x1 x2 x3 x4 x5 x6 v_o_commands c_o_numbers c_o_kinds
      else
        kb1 (m_isNumber x3) fun r15 =>
          if r15 = (0 : Int32) then
            m_cubic_b49 N x1 x2 x3 x4 x5 x6 v_o_commands c_o_numbers c_o_kinds
          else
            kb1 (m_isNumber x4) fun r23 =>
              if r23 = (0 : Int32) then
                m_cubic_b49 N x1 x2 x3 x4 x5 x6 v_o_commands c_o_numbers c_o_kinds
              else
                kb1 (m_isNumber x5) fun r31 =>
                  if r31 = (0 : Int32) then
                    m_cubic_b49 N x1 x2 x3 x4 x5 x6 v_o_commands c_o_numbers c_o_kinds
                  else
                    kb1 (m_isNumber x6) fun r39 =>
                      if r39 = (0 : Int32) then
                        m_cubic_b49 N x1 x2 x3 x4 x5 x6 v_o_commands c_o_numbers c_o_kinds
                      else
                        m_cubic_b50 N x1 x2 x3 x4 x5 x6 (1 : Int32) v_o_commands c_o_numbers c_o_kinds
def m_close_b27 (N : Nat) (s1 : Int32) (v_o_commands : Int32) (c_o_kinds : (Nat → Int32)) : Option (Int32 × Int32 × Int32 × (Nat → Int32)) :=
  if s1 ≤ (0 : Int32) then
    kb3 (m_add (3 : Int32) v_o_commands c_o_kinds) fun r43 v_o_commands_43 c_o_kinds_43 =>
      some (r43, s1, v_o_commands_43, c_o_kinds_43)
  else
    some ((0 : Int32), s1, v_o_commands, c_o_kinds)
def m_close (N : Nat) (v_o_commands : Int32) (c_o_kinds : (Nat → Int32)) : Option (Int32 × Int32 × Int32 × (Nat → Int32)) :=
  kb1 (m_hasMove N v_o_commands c_o_kinds) fun r2 =>
  if r2 = (0 : Int32) then
    m_close_b27 N (1 : Int32) v_o_commands c_o_kinds
  else
    if v_o_commands = (150 : Int32) then
        m_close_b27 N (2 : Int32) v_o_commands c_o_kinds
      else
        m_close_b27 N (0 : Int32) v_o_commands c_o_kinds
def m_command1_b22 (x1 : Int32) (s1 : Int32) (c_o_kinds : (Nat → Int32)) : Option (Int32 × Int32) :=
  if s1 ≤ (0 : Int32) then
    kg (ki x1 150) (
      some ((c_o_kinds (x1).toNatClampNeg), s1))
  else
    some ((0 : Int32), s1)
def m_command1 (x1 : Int32) (v_o_commands : Int32) (c_o_kinds : (Nat → Int32)) : Option (Int32 × Int32) :=
  kb1 (m_in (Int32.toInt64 x1) (0 : Int64) ((Int32.toInt64 v_o_commands) - (1 : Int64))) fun r11 =>
  if r11 = (0 : Int32) then
    m_command1_b22 x1 (1 : Int32) c_o_kinds
  else
    m_command1_b22 x1 (0 : Int32) c_o_kinds
def m_many (x0 : Int32) : Option (Int32) :=
  if x0 = (2 : Int32) then
    some (6 : Int32)
  else
    if x0 = (3 : Int32) then
        some (0 : Int32)
      else
        some (2 : Int32)
def m_number_b62 (x1 : Int32) (x2 : Int32) (v_o_fault : Int32) (c_o_numbers : (Nat → Int32)) : Option (Int32 × Int32) :=
  if v_o_fault ≤ (0 : Int32) then
    kg (ki (((6 : Int32) * x1) + x2) 900) (
      some ((c_o_numbers ((((6 : Int32) * x1) + x2)).toNatClampNeg), v_o_fault))
  else
    some ((0 : Int32), v_o_fault)
def m_number_b59 (x1 : Int32) (x2 : Int32) (s1 : Int32) (c_o_numbers : (Nat → Int32)) : Option (Int32 × Int32) :=
  m_number_b62 x1 x2 s1 c_o_numbers
def m_number_b22 (x1 : Int32) (x2 : Int32) (s1 : Int32) (c_o_kinds : (Nat → Int32)) (c_o_numbers : (Nat → Int32)) : Option (Int32 × Int32) :=
  if s1 = (0 : Int32) then
    kg (ki x1 150) (
      kb1 (m_many (c_o_kinds (x1).toNatClampNeg)) fun r42 =>
      kb1 (m_in (Int32.toInt64 x2) (0 : Int64) ((Int32.toInt64 r42) - (1 : Int64))) fun r48 =>
      if r48 = (0 : Int32) then
        m_number_b59 x1 x2 (1 : Int32) c_o_numbers
      else
        m_number_b59 x1 x2 (0 : Int32) c_o_numbers)
  else
    m_number_b62 x1 x2 s1 c_o_numbers
def m_number (x1 : Int32) (x2 : Int32) (v_o_commands : Int32) (c_o_kinds : (Nat → Int32)) (c_o_numbers : (Nat → Int32)) : Option (Int32 × Int32) :=
  kb1 (m_in (Int32.toInt64 x1) (0 : Int64) ((Int32.toInt64 v_o_commands) - (1 : Int64))) fun r11 =>
  if r11 = (0 : Int32) then
    m_number_b22 x1 x2 (1 : Int32) c_o_kinds c_o_numbers
  else
    m_number_b22 x1 x2 (0 : Int32) c_o_kinds c_o_numbers
def m_say (x1 : Int32) (v_o_written : Int32) (c_o_signs : (Nat → Int32)) : Option (Int32 × (Nat → Int32)) :=
  kg (ki v_o_written 12000) (
  some ((v_o_written + (1 : Int32)), (upd c_o_signs (v_o_written).toNatClampNeg x1)))
def m_off_b17 (x4 : Int64) (s0 : Int64) (s1 : Int64) : Option (Int64) :=
  if (0 : Int64) ≤ (s0 - (s1 * x4)) then
    some (s0 - (s1 * x4))
  else
    some (-(s0 - (s1 * x4)))
def m_off (x0 : Int64) (x2 : Int64) (x4 : Int64) : Option (Int64) :=
  if (0 : Int64) ≤ x2 then
    m_off_b17 x4 ((256 : Int64) * x0) x2
  else
    m_off_b17 x4 ((256 : Int64) * x0) (-x2)
def m_sayDigits_b23 (N : Nat) (k6 : Int64 → Int32 → Int64 → Int32 → Int32 → (Nat → Int32) → Option (Int32 × (Nat → Int32))) (x1 : Int64) (x3 : Int32) (x4 : Int64) (x6 : Int32) (v_o_written : Int32) (c_o_signs : (Nat → Int32)) : Option (Int32 × (Nat → Int32)) :=
  k6 x1 x3 (x4 * (10 : Int64)) (x6 + (1 : Int32)) v_o_written c_o_signs
def m_sayDigits_B37 (N : Nat) (k37 : Int64 → Int64 → Int32 → (Nat → Int32) → Option (Int32 × (Nat → Int32))) (x1 : Int64) (x4 : Int64) (v_o_written : Int32) (c_o_signs : (Nat → Int32)) : Option (Int32 × (Nat → Int32)) :=
  if x4 ≤ (0 : Int64) then
    some (v_o_written, c_o_signs)
  else
    kg (knl x4) (
      kb2 (m_say (Int64.toInt32 ((48 : Int64) + ((x1 / x4) - (x1 / x4) / (10 : Int64) * (10 : Int64)))) v_o_written c_o_signs) fun v_o_written_58 c_o_signs_58 =>
      k37 x1 (x4 / (10 : Int64)) v_o_written_58 c_o_signs_58)
def m_sayDigits_L37 (N : Nat) : Nat → Int64 → Int64 → Int32 → (Nat → Int32) → Option (Int32 × (Nat → Int32))
  | 0 => fun _ _ _ _ => none
  | n + 1 => fun x1 x4 v_o_written c_o_signs => m_sayDigits_B37 N (m_sayDigits_L37 N n) x1 x4 v_o_written c_o_signs
def m_sayDigits_B6 (N : Nat) (k6 : Int64 → Int32 → Int64 → Int32 → Int32 → (Nat → Int32) → Option (Int32 × (Nat → Int32))) (x1 : Int64) (x3 : Int32) (x4 : Int64) (x6 : Int32) (v_o_written : Int32) (c_o_signs : (Nat → Int32)) : Option (Int32 × (Nat → Int32)) :=
  kg (knl x4) (
  if (9 : Int64) < (x1 / x4) then
    m_sayDigits_b23 N k6 x1 x3 x4 x6 v_o_written c_o_signs
  else
    if x3 ≤ x6 then
        m_sayDigits_L37 N N x1 x4 v_o_written c_o_signs
      else
        m_sayDigits_b23 N k6 x1 x3 x4 x6 v_o_written c_o_signs)
def m_sayDigits_L6 (N : Nat) : Nat → Int64 → Int32 → Int64 → Int32 → Int32 → (Nat → Int32) → Option (Int32 × (Nat → Int32))
  | 0 => fun _ _ _ _ _ _ => none
  | n + 1 => fun x1 x3 x4 x6 v_o_written c_o_signs => m_sayDigits_B6 N (m_sayDigits_L6 N n) x1 x3 x4 x6 v_o_written c_o_signs
def m_sayDigits (N : Nat) (x1 : Int64) (x3 : Int32) (v_o_written : Int32) (c_o_signs : (Nat → Int32)) : Option (Int32 × (Nat → Int32)) :=
  m_sayDigits_L6 N N x1 x3 (1 : Int64) (1 : Int32) v_o_written c_o_signs
def m_charAt_b22 (x1 : Int32) (s1 : Int32) (c_o_signs : (Nat → Int32)) : Option (Int32 × Int32) :=
  if s1 ≤ (0 : Int32) then
    kg (ki x1 12000) (
      some ((c_o_signs (x1).toNatClampNeg), s1))
  else
    some ((0 : Int32), s1)
def m_charAt (x1 : Int32) (v_o_written : Int32) (c_o_signs : (Nat → Int32)) : Option (Int32 × Int32) :=
  kb1 (m_in (Int32.toInt64 x1) (0 : Int64) ((Int32.toInt64 v_o_written) - (1 : Int64))) fun r11 =>
  if r11 = (0 : Int32) then
    m_charAt_b22 x1 (1 : Int32) c_o_signs
  else
    m_charAt_b22 x1 (0 : Int32) c_o_signs
def m_edge (x1 : Int64) (x3 : Int64) (x5 : Int64) (x7 : Int64) (v_o_edges : Int32) (c_o_fromX : (Nat → Int32)) (c_o_fromY : (Nat → Int32)) (c_o_toX : (Nat → Int32)) (c_o_toY : (Nat → Int32)) : Option (Int32 × (Nat → Int32) × (Nat → Int32) × (Nat → Int32) × (Nat → Int32)) :=
  kg (ki v_o_edges 2700) (
  kg (ki v_o_edges 2700) (
  kg (ki v_o_edges 2700) (
  kg (ki v_o_edges 2700) (
  some ((v_o_edges + (1 : Int32)), (upd c_o_fromX (v_o_edges).toNatClampNeg (Int64.toInt32 x1)), (upd c_o_fromY (v_o_edges).toNatClampNeg (Int64.toInt32 x3)), (upd c_o_toX (v_o_edges).toNatClampNeg (Int64.toInt32 x5)), (upd c_o_toY (v_o_edges).toNatClampNeg (Int64.toInt32 x7)))))))
def m_between (x0 : Int64) (x2 : Int64) (x4 : Int64) (x6 : Int64) (x8 : Int32) : Option (Int64) :=
  kb1 (m_nearest ((((((x0 * ((16 : Int64) - (Int32.toInt64 x8))) * ((16 : Int64) - (Int32.toInt64 x8))) * ((16 : Int64) - (Int32.toInt64 x8))) + (((((3 : Int64) * x2) * ((16 : Int64) - (Int32.toInt64 x8))) * ((16 : Int64) - (Int32.toInt64 x8))) * (Int32.toInt64 x8))) + (((((3 : Int64) * x4) * ((16 : Int64) - (Int32.toInt64 x8))) * (Int32.toInt64 x8)) * (Int32.toInt64 x8))) + (((x6 * (Int32.toInt64 x8)) * (Int32.toInt64 x8)) * (Int32.toInt64 x8))) (4096 : Int64)) fun r71 =>
  some r71
def m_makeEdges_B207 (N : Nat) (k21 : Int64 → Int64 → Int64 → Int64 → Int32 → Int32 → Int32 → Int32 → (Nat → Int32) → (Nat → Int32) → (Nat → Int32) → (Nat → Int32) → (Nat → Int32) → (Nat → Int32) → Option (Int32 × (Nat → Int32) × (Nat → Int32) × (Nat → Int32) × (Nat → Int32))) (k207 : Int64 → Int64 → Int64 → Int64 → Int32 → Int32 → Int64 → Int64 → Int32 → Int32 → Int32 → (Nat → Int32) → (Nat → Int32) → (Nat → Int32) → (Nat → Int32) → (Nat → Int32) → (Nat → Int32) → Option (Int32 × (Nat → Int32) × (Nat → Int32) × (Nat → Int32) × (Nat → Int32))) (x1 : Int64) (x3 : Int64) (x5 : Int64) (x7 : Int64) (x10 : Int32) (x11 : Int32) (x12 : Int64) (x14 : Int64) (x16 : Int32) (v_o_commands : Int32) (v_o_edges : Int32) (c_o_kinds : (Nat → Int32)) (c_o_fromX : (Nat → Int32)) (c_o_fromY : (Nat → Int32)) (c_o_toX : (Nat → Int32)) (c_o_toY : (Nat → Int32)) (c_o_numbers : (Nat → Int32)) : Option (Int32 × (Nat → Int32) × (Nat → Int32) × (Nat → Int32) × (Nat → Int32)) :=
  if (16 : Int32) < x16 then
    k21 x1 x3 x5 x7 (1 : Int32) (x10 + (1 : Int32)) v_o_commands v_o_edges c_o_kinds c_o_fromX c_o_fromY c_o_toX c_o_toY c_o_numbers
  else
    kg (ki x11 900) (
      kg (ki (x11 + (2 : Int32)) 900) (
      kg (ki (x11 + (4 : Int32)) 900) (
      kb1 (m_between x12 (Int32.toInt64 (c_o_numbers (x11).toNatClampNeg)) (Int32.toInt64 (c_o_numbers ((x11 + (2 : Int32))).toNatClampNeg)) (Int32.toInt64 (c_o_numbers ((x11 + (4 : Int32))).toNatClampNeg)) x16) fun r246 =>
      kg (ki (x11 + (1 : Int32)) 900) (
      kg (ki (x11 + (3 : Int32)) 900) (
      kg (ki (x11 + (5 : Int32)) 900) (
      kb1 (m_between x14 (Int32.toInt64 (c_o_numbers ((x11 + (1 : Int32))).toNatClampNeg)) (Int32.toInt64 (c_o_numbers ((x11 + (3 : Int32))).toNatClampNeg)) (Int32.toInt64 (c_o_numbers ((x11 + (5 : Int32))).toNatClampNeg)) x16) fun r285 =>
      kb5 (m_edge x1 x3 r246 r285 v_o_edges c_o_fromX c_o_fromY c_o_toX c_o_toY) fun v_o_edges_297 c_o_fromX_297 c_o_fromY_297 c_o_toX_297 c_o_toY_297 =>
      k207 r246 r285 x5 x7 x10 x11 x12 x14 (x16 + (1 : Int32)) v_o_commands v_o_edges_297 c_o_kinds c_o_fromX_297 c_o_fromY_297 c_o_toX_297 c_o_toY_297 c_o_numbers))))))
def m_makeEdges_L207 (N : Nat) (k21 : Int64 → Int64 → Int64 → Int64 → Int32 → Int32 → Int32 → Int32 → (Nat → Int32) → (Nat → Int32) → (Nat → Int32) → (Nat → Int32) → (Nat → Int32) → (Nat → Int32) → Option (Int32 × (Nat → Int32) × (Nat → Int32) × (Nat → Int32) × (Nat → Int32))) : Nat → Int64 → Int64 → Int64 → Int64 → Int32 → Int32 → Int64 → Int64 → Int32 → Int32 → Int32 → (Nat → Int32) → (Nat → Int32) → (Nat → Int32) → (Nat → Int32) → (Nat → Int32) → (Nat → Int32) → Option (Int32 × (Nat → Int32) × (Nat → Int32) × (Nat → Int32) × (Nat → Int32))
  | 0 => fun _ _ _ _ _ _ _ _ _ _ _ _ _ _ _ _ _ => none
  | n + 1 => fun x1 x3 x5 x7 x10 x11 x12 x14 x16 v_o_commands v_o_edges c_o_kinds c_o_fromX c_o_fromY c_o_toX c_o_toY c_o_numbers => m_makeEdges_B207 N k21 (m_makeEdges_L207 N k21 n) x1 x3 x5 x7 x10 x11 x12 x14 x16 v_o_commands v_o_edges c_o_kinds c_o_fromX c_o_fromY c_o_toX c_o_toY c_o_numbers
def m_makeEdges_b76 (N : Nat) (k21 : Int64 → Int64 → Int64 → Int64 → Int32 → Int32 → Int32 → Int32 → (Nat → Int32) → (Nat → Int32) → (Nat → Int32) → (Nat → Int32) → (Nat → Int32) → (Nat → Int32) → Option (Int32 × (Nat → Int32) × (Nat → Int32) × (Nat → Int32) × (Nat → Int32))) (x1 : Int64) (x3 : Int64) (x5 : Int64) (x7 : Int64) (x9 : Int32) (x10 : Int32) (x11 : Int32) (v_o_commands : Int32) (v_o_edges : Int32) (c_o_kinds : (Nat → Int32)) (c_o_fromX : (Nat → Int32)) (c_o_fromY : (Nat → Int32)) (c_o_toX : (Nat → Int32)) (c_o_toY : (Nat → Int32)) (c_o_numbers : (Nat → Int32)) : Option (Int32 × (Nat → Int32) × (Nat → Int32) × (Nat → Int32) × (Nat → Int32)) :=
  kg (ki x10 150) (
  if (c_o_kinds (x10).toNatClampNeg) = (0 : Int32) then
    kg (ki x11 900) (
      kg (ki (x11 + (1 : Int32)) 900) (
      k21 (Int32.toInt64 (c_o_numbers (x11).toNatClampNeg)) (Int32.toInt64 (c_o_numbers ((x11 + (1 : Int32))).toNatClampNeg)) (Int32.toInt64 (c_o_numbers (x11).toNatClampNeg)) (Int32.toInt64 (c_o_numbers ((x11 + (1 : Int32))).toNatClampNeg)) x9 (x10 + (1 : Int32)) v_o_commands v_o_edges c_o_kinds c_o_fromX c_o_fromY c_o_toX c_o_toY c_o_numbers))
  else
    kg (ki x10 150) (
      if (c_o_kinds (x10).toNatClampNeg) = (3 : Int32) then
        k21 x5 x7 x5 x7 x9 (x10 + (1 : Int32)) v_o_commands v_o_edges c_o_kinds c_o_fromX c_o_fromY c_o_toX c_o_toY c_o_numbers
      else
        kg (ki x10 150) (
          if (c_o_kinds (x10).toNatClampNeg) = (1 : Int32) then
            kg (ki x11 900) (
              kg (ki (x11 + (1 : Int32)) 900) (
              kb5 (m_edge x1 x3 (Int32.toInt64 (c_o_numbers (x11).toNatClampNeg)) (Int32.toInt64 (c_o_numbers ((x11 + (1 : Int32))).toNatClampNeg)) v_o_edges c_o_fromX c_o_fromY c_o_toX c_o_toY) fun v_o_edges_169 c_o_fromX_169 c_o_fromY_169 c_o_toX_169 c_o_toY_169 =>
              kg (ki x11 900) (
              kg (ki (x11 + (1 : Int32)) 900) (
              k21 (Int32.toInt64 (c_o_numbers (x11).toNatClampNeg)) (Int32.toInt64 (c_o_numbers ((x11 + (1 : Int32))).toNatClampNeg)) x5 x7 (1 : Int32) (x10 + (1 : Int32)) v_o_commands v_o_edges_169 c_o_kinds c_o_fromX_169 c_o_fromY_169 c_o_toX_169 c_o_toY_169 c_o_numbers))))
          else
            m_makeEdges_L207 N k21 N x1 x3 x5 x7 x10 x11 x1 x3 (1 : Int32) v_o_commands v_o_edges c_o_kinds c_o_fromX c_o_fromY c_o_toX c_o_toY c_o_numbers)))
def m_makeEdges_b63 (N : Nat) (k21 : Int64 → Int64 → Int64 → Int64 → Int32 → Int32 → Int32 → Int32 → (Nat → Int32) → (Nat → Int32) → (Nat → Int32) → (Nat → Int32) → (Nat → Int32) → (Nat → Int32) → Option (Int32 × (Nat → Int32) × (Nat → Int32) × (Nat → Int32) × (Nat → Int32))) (x1 : Int64) (x3 : Int64) (x5 : Int64) (x7 : Int64) (x10 : Int32) (x11 : Int32) (v_o_commands : Int32) (v_o_edges : Int32) (c_o_kinds : (Nat → Int32)) (c_o_fromX : (Nat → Int32)) (c_o_fromY : (Nat → Int32)) (c_o_toX : (Nat → Int32)) (c_o_toY : (Nat → Int32)) (c_o_numbers : (Nat → Int32)) : Option (Int32 × (Nat → Int32) × (Nat → Int32) × (Nat → Int32) × (Nat → Int32)) :=
  kb5 (m_edge x1 x3 x5 x7 v_o_edges c_o_fromX c_o_fromY c_o_toX c_o_toY) fun v_o_edges_70 c_o_fromX_70 c_o_fromY_70 c_o_toX_70 c_o_toY_70 =>
  m_makeEdges_b76 N k21 x1 x3 x5 x7 (0 : Int32) x10 x11 v_o_commands v_o_edges_70 c_o_kinds c_o_fromX_70 c_o_fromY_70 c_o_toX_70 c_o_toY_70 c_o_numbers
def m_makeEdges_B21 (N : Nat) (k21 : Int64 → Int64 → Int64 → Int64 → Int32 → Int32 → Int32 → Int32 → (Nat → Int32) → (Nat → Int32) → (Nat → Int32) → (Nat → Int32) → (Nat → Int32) → (Nat → Int32) → Option (Int32 × (Nat → Int32) × (Nat → Int32) × (Nat → Int32) × (Nat → Int32))) (x1 : Int64) (x3 : Int64) (x5 : Int64) (x7 : Int64) (x9 : Int32) (x10 : Int32) (v_o_commands : Int32) (v_o_edges : Int32) (c_o_kinds : (Nat → Int32)) (c_o_fromX : (Nat → Int32)) (c_o_fromY : (Nat → Int32)) (c_o_toX : (Nat → Int32)) (c_o_toY : (Nat → Int32)) (c_o_numbers : (Nat → Int32)) : Option (Int32 × (Nat → Int32) × (Nat → Int32) × (Nat → Int32) × (Nat → Int32)) :=
  if v_o_commands ≤ x10 then
    if x9 = (0 : Int32) then
        some (v_o_edges, c_o_fromX, c_o_fromY, c_o_toX, c_o_toY)
      else
        kb5 (m_edge x1 x3 x5 x7 v_o_edges c_o_fromX c_o_fromY c_o_toX c_o_toY) fun v_o_edges_333 c_o_fromX_333 c_o_fromY_333 c_o_toX_333 c_o_toY_333 =>
          some (v_o_edges_333, c_o_fromX_333, c_o_fromY_333, c_o_toX_333, c_o_toY_333)
  else
    if x9 = (0 : Int32) then
        m_makeEdges_b76 N k21 x1 x3 x5 x7 x9 x10 ((6 : Int32) * x10) v_o_commands v_o_edges c_o_kinds c_o_fromX c_o_fromY c_o_toX c_o_toY c_o_numbers
      else
        kg (ki x10 150) (
          if (c_o_kinds (x10).toNatClampNeg) = (0 : Int32) then
            m_makeEdges_b63 N k21 x1 x3 x5 x7 x10 ((6 : Int32) * x10) v_o_commands v_o_edges c_o_kinds c_o_fromX c_o_fromY c_o_toX c_o_toY c_o_numbers
          else
            kg (ki x10 150) (
              if (c_o_kinds (x10).toNatClampNeg) = (3 : Int32) then
                m_makeEdges_b63 N k21 x1 x3 x5 x7 x10 ((6 : Int32) * x10) v_o_commands v_o_edges c_o_kinds c_o_fromX c_o_fromY c_o_toX c_o_toY c_o_numbers
              else
                m_makeEdges_b76 N k21 x1 x3 x5 x7 x9 x10 ((6 : Int32) * x10) v_o_commands v_o_edges c_o_kinds c_o_fromX c_o_fromY c_o_toX c_o_toY c_o_numbers))
def m_makeEdges_L21 (N : Nat) : Nat → Int64 → Int64 → Int64 → Int64 → Int32 → Int32 → Int32 → Int32 → (Nat → Int32) → (Nat → Int32) → (Nat → Int32) → (Nat → Int32) → (Nat → Int32) → (Nat → Int32) → Option (Int32 × (Nat → Int32) × (Nat → Int32) × (Nat → Int32) × (Nat → Int32))
  | 0 => fun _ _ _ _ _ _ _ _ _ _ _ _ _ _ => none
  | n + 1 => fun x1 x3 x5 x7 x9 x10 v_o_commands v_o_edges c_o_kinds c_o_fromX c_o_fromY c_o_toX c_o_toY c_o_numbers => m_makeEdges_B21 N (m_makeEdges_L21 N n) x1 x3 x5 x7 x9 x10 v_o_commands v_o_edges c_o_kinds c_o_fromX c_o_fromY c_o_toX c_o_toY c_o_numbers
def m_makeEdges (N : Nat) (v_o_commands : Int32) (c_o_kinds : (Nat → Int32)) (c_o_fromX : (Nat → Int32)) (c_o_fromY : (Nat → Int32)) (c_o_toX : (Nat → Int32)) (c_o_toY : (Nat → Int32)) (c_o_numbers : (Nat → Int32)) : Option (Int32 × (Nat → Int32) × (Nat → Int32) × (Nat → Int32) × (Nat → Int32)) :=
  m_makeEdges_L21 N N (0 : Int64) (0 : Int64) (0 : Int64) (0 : Int64) (0 : Int32) (0 : Int32) v_o_commands (0 : Int32) c_o_kinds c_o_fromX c_o_fromY c_o_toX c_o_toY c_o_numbers
def m_counts_b66 (x1 : Int32) (x2 : Int32) (x3 : Int32) (x4 : Int32) (c_o_fromY : (Nat → Int32)) (c_o_toY : (Nat → Int32)) (c_o_toX : (Nat → Int32)) (c_o_fromX : (Nat → Int32)) : Option (Int32) :=
  kg (ki x1 2700) (
  kg (ki x1 2700) (
  kg (ki x1 2700) (
  kg (ki x1 2700) (
  kg (ki x1 2700) (
  kg (ki x1 2700) (
  if x4 = (0 : Int32) then
    if ((Int32.toInt64 (x3 - (c_o_fromY (x1).toNatClampNeg))) * (Int32.toInt64 ((c_o_toX (x1).toNatClampNeg) - (c_o_fromX (x1).toNatClampNeg)))) < ((Int32.toInt64 (x2 - (c_o_fromX (x1).toNatClampNeg))) * (Int32.toInt64 ((c_o_toY (x1).toNatClampNeg) - (c_o_fromY (x1).toNatClampNeg)))) then
        some (0 : Int32)
      else
        some (-1 : Int32)
  else
    if ((Int32.toInt64 (x2 - (c_o_fromX (x1).toNatClampNeg))) * (Int32.toInt64 ((c_o_toY (x1).toNatClampNeg) - (c_o_fromY (x1).toNatClampNeg)))) < ((Int32.toInt64 (x3 - (c_o_fromY (x1).toNatClampNeg))) * (Int32.toInt64 ((c_o_toX (x1).toNatClampNeg) - (c_o_fromX (x1).toNatClampNeg)))) then
        some (0 : Int32)
      else
        some (1 : Int32)))))))
def m_counts_b52 (x1 : Int32) (x2 : Int32) (x3 : Int32) (x4 : Int32) (s0 : Int32) (c_o_fromY : (Nat → Int32)) (c_o_toY : (Nat → Int32)) (c_o_toX : (Nat → Int32)) (c_o_fromX : (Nat → Int32)) : Option (Int32) :=
  if x4 = (0 : Int32) then
    if s0 = (0 : Int32) then
        some (0 : Int32)
      else
        m_counts_b66 x1 x2 x3 x4 c_o_fromY c_o_toY c_o_toX c_o_fromX
  else
    m_counts_b66 x1 x2 x3 x4 c_o_fromY c_o_toY c_o_toX c_o_fromX
def m_counts_b51 (x1 : Int32) (x2 : Int32) (x3 : Int32) (x4 : Int32) (c_o_fromY : (Nat → Int32)) (c_o_toY : (Nat → Int32)) (c_o_toX : (Nat → Int32)) (c_o_fromX : (Nat → Int32)) : Option (Int32) :=
  m_counts_b52 x1 x2 x3 x4 (0 : Int32) c_o_fromY c_o_toY c_o_toX c_o_fromX
def m_counts_b25 (x1 : Int32) (x2 : Int32) (x3 : Int32) (s0 : Int32) (c_o_fromY : (Nat → Int32)) (c_o_toY : (Nat → Int32)) (c_o_toX : (Nat → Int32)) (c_o_fromX : (Nat → Int32)) : Option (Int32) :=
  kg (ki x1 2700) (
  if x3 < (c_o_toY (x1).toNatClampNeg) then
    m_counts_b51 x1 x2 x3 s0 c_o_fromY c_o_toY c_o_toX c_o_fromX
  else
    kg (ki x1 2700) (
      if (c_o_fromY (x1).toNatClampNeg) ≤ x3 then
        m_counts_b51 x1 x2 x3 s0 c_o_fromY c_o_toY c_o_toX c_o_fromX
      else
        m_counts_b52 x1 x2 x3 s0 (1 : Int32) c_o_fromY c_o_toY c_o_toX c_o_fromX))
def m_counts_b24 (x1 : Int32) (x2 : Int32) (x3 : Int32) (c_o_fromY : (Nat → Int32)) (c_o_toY : (Nat → Int32)) (c_o_toX : (Nat → Int32)) (c_o_fromX : (Nat → Int32)) : Option (Int32) :=
  m_counts_b25 x1 x2 x3 (0 : Int32) c_o_fromY c_o_toY c_o_toX c_o_fromX
def m_counts (x1 : Int32) (x2 : Int32) (x3 : Int32) (c_o_fromY : (Nat → Int32)) (c_o_toY : (Nat → Int32)) (c_o_toX : (Nat → Int32)) (c_o_fromX : (Nat → Int32)) : Option (Int32) :=
  kg (ki x1 2700) (
  if x3 < (c_o_fromY (x1).toNatClampNeg) then
    m_counts_b24 x1 x2 x3 c_o_fromY c_o_toY c_o_toX c_o_fromX
  else
    kg (ki x1 2700) (
      if (c_o_toY (x1).toNatClampNeg) ≤ x3 then
        m_counts_b24 x1 x2 x3 c_o_fromY c_o_toY c_o_toX c_o_fromX
      else
        m_counts_b25 x1 x2 x3 (1 : Int32) c_o_fromY c_o_toY c_o_toX c_o_fromX))
def m_render_b185 (N : Nat) (k96 : Int32 → Int32 → Int32 → Int32 → Int32 → Int32 → Int32 → Int32 → Int32 → (Nat → Int32) → (Nat → Int32) → (Nat → Int32) → (Nat → Int32) → (Nat → Int32) → Option (Int32 × Int32 × Int32 × Int32 × Int32 × (Nat → Int32) × (Nat → Int32) × (Nat → Int32) × (Nat → Int32) × (Nat → Int32))) (k108 : Int32 → Int32 → Int32 → Int32 → Int32 → Int32 → Int32 → Int32 → Int32 → Int32 → (Nat → Int32) → (Nat → Int32) → (Nat → Int32) → (Nat → Int32) → (Nat → Int32) → Option (Int32 × Int32 × Int32 × Int32 × Int32 × (Nat → Int32) × (Nat → Int32) × (Nat → Int32) × (Nat → Int32) × (Nat → Int32))) (x1 : Int32) (x2 : Int32) (x3 : Int32) (x4 : Int32) (x5 : Int32) (x6 : Int32) (v_o_fault : Int32) (v_o_edges : Int32) (v_o_wide : Int32) (v_o_high : Int32) (c_o_fromX : (Nat → Int32)) (c_o_fromY : (Nat → Int32)) (c_o_toX : (Nat → Int32)) (c_o_toY : (Nat → Int32)) (c_o_points : (Nat → Int32)) : Option (Int32 × Int32 × Int32 × Int32 × Int32 × (Nat → Int32) × (Nat → Int32) × (Nat → Int32) × (Nat → Int32) × (Nat → Int32)) :=
  kg (ki (((8 : Int32) * (x5 / (16 : Int32))) + (x6 / (16 : Int32))) 64) (
  kg (ki (((8 : Int32) * (x5 / (16 : Int32))) + (x6 / (16 : Int32))) 64) (
  k108 x1 x2 x3 (x4 + (1 : Int32)) x5 (x6 + (1 : Int32)) v_o_fault v_o_edges v_o_wide v_o_high c_o_fromX c_o_fromY c_o_toX c_o_toY (upd c_o_points ((((8 : Int32) * (x5 / (16 : Int32))) + (x6 / (16 : Int32)))).toNatClampNeg ((c_o_points ((((8 : Int32) * (x5 / (16 : Int32))) + (x6 / (16 : Int32)))).toNatClampNeg) + (1 : Int32)))))
def m_render_B123 (N : Nat) (k96 : Int32 → Int32 → Int32 → Int32 → Int32 → Int32 → Int32 → Int32 → Int32 → (Nat → Int32) → (Nat → Int32) → (Nat → Int32) → (Nat → Int32) → (Nat → Int32) → Option (Int32 × Int32 × Int32 × Int32 × Int32 × (Nat → Int32) × (Nat → Int32) × (Nat → Int32) × (Nat → Int32) × (Nat → Int32))) (k108 : Int32 → Int32 → Int32 → Int32 → Int32 → Int32 → Int32 → Int32 → Int32 → Int32 → (Nat → Int32) → (Nat → Int32) → (Nat → Int32) → (Nat → Int32) → (Nat → Int32) → Option (Int32 × Int32 × Int32 × Int32 × Int32 × (Nat → Int32) × (Nat → Int32) × (Nat → Int32) × (Nat → Int32) × (Nat → Int32))) (k123 : Int32 → Int32 → Int32 → Int32 → Int32 → Int32 → Int32 → Int32 → Int32 → Int32 → Int32 → Int32 → (Nat → Int32) → (Nat → Int32) → (Nat → Int32) → (Nat → Int32) → (Nat → Int32) → Option (Int32 × Int32 × Int32 × Int32 × Int32 × (Nat → Int32) × (Nat → Int32) × (Nat → Int32) × (Nat → Int32) × (Nat → Int32))) (x1 : Int32) (x2 : Int32) (x3 : Int32) (x4 : Int32) (x5 : Int32) (x6 : Int32) (x7 : Int32) (x8 : Int32) (v_o_fault : Int32) (v_o_edges : Int32) (v_o_wide : Int32) (v_o_high : Int32) (c_o_fromX : (Nat → Int32)) (c_o_fromY : (Nat → Int32)) (c_o_toX : (Nat → Int32)) (c_o_toY : (Nat → Int32)) (c_o_points : (Nat → Int32)) : Option (Int32 × Int32 × Int32 × Int32 × Int32 × (Nat → Int32) × (Nat → Int32) × (Nat → Int32) × (Nat → Int32) × (Nat → Int32)) :=
  if v_o_edges ≤ x8 then
    if x3 = (0 : Int32) then
        if x7 = (0 : Int32) then
            k108 x1 x2 x3 x4 x5 (x6 + (1 : Int32)) v_o_fault v_o_edges v_o_wide v_o_high c_o_fromX c_o_fromY c_o_toX c_o_toY c_o_points
          else
            m_render_b185 N k96 k108 x1 x2 x3 x4 x5 x6 v_o_fault v_o_edges v_o_wide v_o_high c_o_fromX c_o_fromY c_o_toX c_o_toY c_o_points
      else
        if (x7 &&& (1 : Int32)) = (1 : Int32) then
            m_render_b185 N k96 k108 x1 x2 x3 x4 x5 x6 v_o_fault v_o_edges v_o_wide v_o_high c_o_fromX c_o_fromY c_o_toX c_o_toY c_o_points
          else
            k108 x1 x2 x3 x4 x5 (x6 + (1 : Int32)) v_o_fault v_o_edges v_o_wide v_o_high c_o_fromX c_o_fromY c_o_toX c_o_toY c_o_points
  else
    kb1 (m_counts x8 ((8 : Int32) + ((16 : Int32) * x6)) ((8 : Int32) + ((16 : Int32) * x5)) c_o_fromY c_o_toY c_o_toX c_o_fromX) fun r153 =>
      k123 x1 x2 x3 x4 x5 x6 (x7 + r153) (x8 + (1 : Int32)) v_o_fault v_o_edges v_o_wide v_o_high c_o_fromX c_o_fromY c_o_toX c_o_toY c_o_points
def m_render_L123 (N : Nat) (k96 : Int32 → Int32 → Int32 → Int32 → Int32 → Int32 → Int32 → Int32 → Int32 → (Nat → Int32) → (Nat → Int32) → (Nat → Int32) → (Nat → Int32) → (Nat → Int32) → Option (Int32 × Int32 × Int32 × Int32 × Int32 × (Nat → Int32) × (Nat → Int32) × (Nat → Int32) × (Nat → Int32) × (Nat → Int32))) (k108 : Int32 → Int32 → Int32 → Int32 → Int32 → Int32 → Int32 → Int32 → Int32 → Int32 → (Nat → Int32) → (Nat → Int32) → (Nat → Int32) → (Nat → Int32) → (Nat → Int32) → Option (Int32 × Int32 × Int32 × Int32 × Int32 × (Nat → Int32) × (Nat → Int32) × (Nat → Int32) × (Nat → Int32) × (Nat → Int32))) : Nat → Int32 → Int32 → Int32 → Int32 → Int32 → Int32 → Int32 → Int32 → Int32 → Int32 → Int32 → Int32 → (Nat → Int32) → (Nat → Int32) → (Nat → Int32) → (Nat → Int32) → (Nat → Int32) → Option (Int32 × Int32 × Int32 × Int32 × Int32 × (Nat → Int32) × (Nat → Int32) × (Nat → Int32) × (Nat → Int32) × (Nat → Int32))
  | 0 => fun _ _ _ _ _ _ _ _ _ _ _ _ _ _ _ _ _ => none
  | n + 1 => fun x1 x2 x3 x4 x5 x6 x7 x8 v_o_fault v_o_edges v_o_wide v_o_high c_o_fromX c_o_fromY c_o_toX c_o_toY c_o_points => m_render_B123 N k96 k108 (m_render_L123 N k96 k108 n) x1 x2 x3 x4 x5 x6 x7 x8 v_o_fault v_o_edges v_o_wide v_o_high c_o_fromX c_o_fromY c_o_toX c_o_toY c_o_points
def m_render_B108 (N : Nat) (k96 : Int32 → Int32 → Int32 → Int32 → Int32 → Int32 → Int32 → Int32 → Int32 → (Nat → Int32) → (Nat → Int32) → (Nat → Int32) → (Nat → Int32) → (Nat → Int32) → Option (Int32 × Int32 × Int32 × Int32 × Int32 × (Nat → Int32) × (Nat → Int32) × (Nat → Int32) × (Nat → Int32) × (Nat → Int32))) (k108 : Int32 → Int32 → Int32 → Int32 → Int32 → Int32 → Int32 → Int32 → Int32 → Int32 → (Nat → Int32) → (Nat → Int32) → (Nat → Int32) → (Nat → Int32) → (Nat → Int32) → Option (Int32 × Int32 × Int32 × Int32 × Int32 × (Nat → Int32) × (Nat → Int32) × (Nat → Int32) × (Nat → Int32) × (Nat → Int32))) (x1 : Int32) (x2 : Int32) (x3 : Int32) (x4 : Int32) (x5 : Int32) (x6 : Int32) (v_o_fault : Int32) (v_o_edges : Int32) (v_o_wide : Int32) (v_o_high : Int32) (c_o_fromX : (Nat → Int32)) (c_o_fromY : (Nat → Int32)) (c_o_toX : (Nat → Int32)) (c_o_toY : (Nat → Int32)) (c_o_points : (Nat → Int32)) : Option (Int32 × Int32 × Int32 × Int32 × Int32 × (Nat → Int32) × (Nat → Int32) × (Nat → Int32) × (Nat → Int32) × (Nat → Int32)) :=
  if ((16 : Int32) * x1) ≤ x6 then
    k96 x1 x2 x3 x4 (x5 + (1 : Int32)) v_o_fault v_o_edges v_o_wide v_o_high c_o_fromX c_o_fromY c_o_toX c_o_toY c_o_points
  else
    m_render_L123 N k96 k108 N x1 x2 x3 x4 x5 x6 (0 : Int32) (0 : Int32) v_o_fault v_o_edges v_o_wide v_o_high c_o_fromX c_o_fromY c_o_toX c_o_toY c_o_points
def m_render_L108 (N : Nat) (k96 : Int32 → Int32 → Int32 → Int32 → Int32 → Int32 → Int32 → Int32 → Int32 → (Nat → Int32) → (Nat → Int32) → (Nat → Int32) → (Nat → Int32) → (Nat → Int32) → Option (Int32 × Int32 × Int32 × Int32 × Int32 × (Nat → Int32) × (Nat → Int32) × (Nat → Int32) × (Nat → Int32) × (Nat → Int32))) : Nat → Int32 → Int32 → Int32 → Int32 → Int32 → Int32 → Int32 → Int32 → Int32 → Int32 → (Nat → Int32) → (Nat → Int32) → (Nat → Int32) → (Nat → Int32) → (Nat → Int32) → Option (Int32 × Int32 × Int32 × Int32 × Int32 × (Nat → Int32) × (Nat → Int32) × (Nat → Int32) × (Nat → Int32) × (Nat → Int32))
  | 0 => fun _ _ _ _ _ _ _ _ _ _ _ _ _ _ _ => none
  | n + 1 => fun x1 x2 x3 x4 x5 x6 v_o_fault v_o_edges v_o_wide v_o_high c_o_fromX c_o_fromY c_o_toX c_o_toY c_o_points => m_render_B108 N k96 (m_render_L108 N k96 n) x1 x2 x3 x4 x5 x6 v_o_fault v_o_edges v_o_wide v_o_high c_o_fromX c_o_fromY c_o_toX c_o_toY c_o_points
def m_render_B96 (N : Nat) (k96 : Int32 → Int32 → Int32 → Int32 → Int32 → Int32 → Int32 → Int32 → Int32 → (Nat → Int32) → (Nat → Int32) → (Nat → Int32) → (Nat → Int32) → (Nat → Int32) → Option (Int32 × Int32 × Int32 × Int32 × Int32 × (Nat → Int32) × (Nat → Int32) × (Nat → Int32) × (Nat → Int32) × (Nat → Int32))) (x1 : Int32) (x2 : Int32) (x3 : Int32) (x4 : Int32) (x5 : Int32) (v_o_fault : Int32) (v_o_edges : Int32) (v_o_wide : Int32) (v_o_high : Int32) (c_o_fromX : (Nat → Int32)) (c_o_fromY : (Nat → Int32)) (c_o_toX : (Nat → Int32)) (c_o_toY : (Nat → Int32)) (c_o_points : (Nat → Int32)) : Option (Int32 × Int32 × Int32 × Int32 × Int32 × (Nat → Int32) × (Nat → Int32) × (Nat → Int32) × (Nat → Int32) × (Nat → Int32)) :=
  if ((16 : Int32) * x2) ≤ x5 then
    some (x4, v_o_fault, v_o_edges, v_o_wide, v_o_high, c_o_fromX, c_o_fromY, c_o_toX, c_o_toY, c_o_points)
  else
    m_render_L108 N k96 N x1 x2 x3 x4 x5 (0 : Int32) v_o_fault v_o_edges v_o_wide v_o_high c_o_fromX c_o_fromY c_o_toX c_o_toY c_o_points
def m_render_L96 (N : Nat) : Nat → Int32 → Int32 → Int32 → Int32 → Int32 → Int32 → Int32 → Int32 → Int32 → (Nat → Int32) → (Nat → Int32) → (Nat → Int32) → (Nat → Int32) → (Nat → Int32) → Option (Int32 × Int32 × Int32 × Int32 × Int32 × (Nat → Int32) × (Nat → Int32) × (Nat → Int32) × (Nat → Int32) × (Nat → Int32))
  | 0 => fun _ _ _ _ _ _ _ _ _ _ _ _ _ _ => none
  | n + 1 => fun x1 x2 x3 x4 x5 v_o_fault v_o_edges v_o_wide v_o_high c_o_fromX c_o_fromY c_o_toX c_o_toY c_o_points => m_render_B96 N (m_render_L96 N n) x1 x2 x3 x4 x5 v_o_fault v_o_edges v_o_wide v_o_high c_o_fromX c_o_fromY c_o_toX c_o_toY c_o_points
def m_render_B69 (N : Nat) (k69 : Int32 → Int32 → Int32 → Int32 → Int32 → Int32 → Int32 → Int32 → (Nat → Int32) → (Nat → Int32) → (Nat → Int32) → (Nat → Int32) → (Nat → Int32) → Option (Int32 × Int32 × Int32 × Int32 × Int32 × (Nat → Int32) × (Nat → Int32) × (Nat → Int32) × (Nat → Int32) × (Nat → Int32))) (x1 : Int32) (x2 : Int32) (x3 : Int32) (x4 : Int32) (v_o_fault : Int32) (v_o_edges : Int32) (v_o_wide : Int32) (v_o_high : Int32) (c_o_fromX : (Nat → Int32)) (c_o_fromY : (Nat → Int32)) (c_o_toX : (Nat → Int32)) (c_o_toY : (Nat → Int32)) (c_o_points : (Nat → Int32)) : Option (Int32 × Int32 × Int32 × Int32 × Int32 × (Nat → Int32) × (Nat → Int32) × (Nat → Int32) × (Nat → Int32) × (Nat → Int32)) :=
  if (64 : Int32) ≤ x4 then
    m_render_L96 N N x1 x2 x3 (0 : Int32) (0 : Int32) v_o_fault v_o_edges v_o_wide v_o_high c_o_fromX c_o_fromY c_o_toX c_o_toY c_o_points
  else
    kg (ki x4 64) (
      k69 x1 x2 x3 (x4 + (1 : Int32)) v_o_fault v_o_edges v_o_wide v_o_high c_o_fromX c_o_fromY c_o_toX c_o_toY (upd c_o_points (x4).toNatClampNeg (0 : Int32)))
def m_render_L69 (N : Nat) : Nat → Int32 → Int32 → Int32 → Int32 → Int32 → Int32 → Int32 → Int32 → (Nat → Int32) → (Nat → Int32) → (Nat → Int32) → (Nat → Int32) → (Nat → Int32) → Option (Int32 × Int32 × Int32 × Int32 × Int32 × (Nat → Int32) × (Nat → Int32) × (Nat → Int32) × (Nat → Int32) × (Nat → Int32))
  | 0 => fun _ _ _ _ _ _ _ _ _ _ _ _ _ => none
  | n + 1 => fun x1 x2 x3 x4 v_o_fault v_o_edges v_o_wide v_o_high c_o_fromX c_o_fromY c_o_toX c_o_toY c_o_points => m_render_B69 N (m_render_L69 N n) x1 x2 x3 x4 v_o_fault v_o_edges v_o_wide v_o_high c_o_fromX c_o_fromY c_o_toX c_o_toY c_o_points
def m_render_b40 (N : Nat) (x1 : Int32) (x2 : Int32) (x3 : Int32) (s1 : Int32) (v_o_commands : Int32) (v_o_edges : Int32) (v_o_wide : Int32) (v_o_high : Int32) (c_o_kinds : (Nat → Int32)) (c_o_fromX : (Nat → Int32)) (c_o_fromY : (Nat → Int32)) (c_o_toX : (Nat → Int32)) (c_o_toY : (Nat → Int32)) (c_o_numbers : (Nat → Int32)) (c_o_points : (Nat → Int32)) : Option (Int32 × Int32 × Int32 × Int32 × Int32 × (Nat → Int32) × (Nat → Int32) × (Nat → Int32) × (Nat → Int32) × (Nat → Int32)) :=
  if s1 ≤ (0 : Int32) then
    kb5 (m_makeEdges N v_o_commands c_o_kinds c_o_fromX c_o_fromY c_o_toX c_o_toY c_o_numbers) fun v_o_edges_53 c_o_fromX_53 c_o_fromY_53 c_o_toX_53 c_o_toY_53 =>
      m_render_L69 N N x1 x2 x3 (0 : Int32) s1 v_o_edges_53 x1 x2 c_o_fromX_53 c_o_fromY_53 c_o_toX_53 c_o_toY_53 c_o_points
  else
    some ((0 : Int32), s1, v_o_edges, v_o_wide, v_o_high, c_o_fromX, c_o_fromY, c_o_toX, c_o_toY, c_o_points)
def m_render_b39 (N : Nat) (x1 : Int32) (x2 : Int32) (x3 : Int32) (v_o_commands : Int32) (v_o_edges : Int32) (v_o_wide : Int32) (v_o_high : Int32) (c_o_kinds : (Nat → Int32)) (c_o_fromX : (Nat → Int32)) (c_o_fromY : (Nat → Int32)) (c_o_toX : (Nat → Int32)) (c_o_toY : (Nat → Int32)) (c_o_numbers : (Nat → Int32)) (c_o_points : (Nat → Int32)) : Option (Int32 × Int32 × Int32 × Int32 × Int32 × (Nat → Int32) × (Nat → Int32) × (Nat → Int32) × (Nat → Int32) × (Nat → Int32)) :=
  m_render_b40 N x1 x2 x3 (1 : Int32) v_o_commands v_o_edges v_o_wide v_o_high c_o_kinds c_o_fromX c_o_fromY c_o_toX c_o_toY c_o_numbers c_o_points
def m_render (N : Nat) (x1 : Int32) (x2 : Int32) (x3 : Int32) (v_o_commands : Int32) (v_o_edges : Int32) (v_o_wide : Int32) (v_o_high : Int32) (c_o_kinds : (Nat → Int32)) (c_o_fromX : (Nat → Int32)) (c_o_fromY : (Nat → Int32)) (c_o_toX : (Nat → Int32)) (c_o_toY : (Nat → Int32)) (c_o_numbers : (Nat → Int32)) (c_o_points : (Nat → Int32)) : Option (Int32 × Int32 × Int32 × Int32 × Int32 × (Nat → Int32) × (Nat → Int32) × (Nat → Int32) × (Nat → Int32) × (Nat → Int32)) :=
  kb1 (m_in (Int32.toInt64 x1) (1 : Int64) (8 : Int64)) fun r7 =>
  if r7 = (0 : Int32) then
    m_render_b39 N x1 x2 x3 v_o_commands v_o_edges v_o_wide v_o_high c_o_kinds c_o_fromX c_o_fromY c_o_toX c_o_toY c_o_numbers c_o_points
  else
    kb1 (m_in (Int32.toInt64 x2) (1 : Int64) (8 : Int64)) fun r19 =>
      if r19 = (0 : Int32) then
        m_render_b39 N x1 x2 x3 v_o_commands v_o_edges v_o_wide v_o_high c_o_kinds c_o_fromX c_o_fromY c_o_toX c_o_toY c_o_numbers c_o_points
      else
        kb1 (m_in (Int32.toInt64 x3) (0 : Int64) (1 : Int64)) fun r29 =>
          if r29 = (0 : Int32) then
            m_render_b39 N x1 x2 x3 v_o_commands v_o_edges v_o_wide v_o_high c_o_kinds c_o_fromX c_o_fromY c_o_toX c_o_toY c_o_numbers c_o_points
          else
            m_render_b40 N x1 x2 x3 (0 : Int32) v_o_commands v_o_edges v_o_wide v_o_high c_o_kinds c_o_fromX c_o_fromY c_o_toX c_o_toY c_o_numbers c_o_points
def m_covered_b38 (x1 : Int32) (x2 : Int32) (s1 : Int32) (c_o_points : (Nat → Int32)) : Option (Int32 × Int32) :=
  if s1 ≤ (0 : Int32) then
    kg (ki (((8 : Int32) * x2) + x1) 64) (
      some ((c_o_points ((((8 : Int32) * x2) + x1)).toNatClampNeg), s1))
  else
    some ((0 : Int32), s1)
def m_covered_b37 (x1 : Int32) (x2 : Int32) (c_o_points : (Nat → Int32)) : Option (Int32 × Int32) :=
  m_covered_b38 x1 x2 (1 : Int32) c_o_points
def m_covered (x1 : Int32) (x2 : Int32) (v_o_wide : Int32) (v_o_high : Int32) (c_o_points : (Nat → Int32)) : Option (Int32 × Int32) :=
  kb1 (m_in (Int32.toInt64 x1) (0 : Int64) ((Int32.toInt64 v_o_wide) - (1 : Int64))) fun r11 =>
  if r11 = (0 : Int32) then
    m_covered_b37 x1 x2 c_o_points
  else
    kb1 (m_in (Int32.toInt64 x2) (0 : Int64) ((Int32.toInt64 v_o_high) - (1 : Int64))) fun r27 =>
      if r27 = (0 : Int32) then
        m_covered_b37 x1 x2 c_o_points
      else
        m_covered_b38 x1 x2 (0 : Int32) c_o_points
def m_bound_b100 (N : Nat) (k26 : Int32 → Int32 → Int32 → Int32 → Int32 → Int32 → (Nat → Int32) → (Nat → Int32) → Option (Int32 × Int32)) (k40 : Int32 → Int32 → Int32 → Int32 → Int32 → Int32 → Int32 → (Nat → Int32) → (Nat → Int32) → Option (Int32 × Int32)) (x1 : Int32) (x4 : Int32) (x5 : Int32) (s0 : Int32) (v_o_fault : Int32) (v_o_commands : Int32) (c_o_kinds : (Nat → Int32)) (c_o_numbers : (Nat → Int32)) : Option (Int32 × Int32) :=
  k40 x1 (1 : Int32) s0 x4 (x5 + (2 : Int32)) v_o_fault v_o_commands c_o_kinds c_o_numbers
def m_bound_b99 (N : Nat) (k26 : Int32 → Int32 → Int32 → Int32 → Int32 → Int32 → (Nat → Int32) → (Nat → Int32) → Option (Int32 × Int32)) (k40 : Int32 → Int32 → Int32 → Int32 → Int32 → Int32 → Int32 → (Nat → Int32) → (Nat → Int32) → Option (Int32 × Int32)) (x1 : Int32) (x3 : Int32) (x4 : Int32) (x5 : Int32) (v_o_fault : Int32) (v_o_commands : Int32) (c_o_kinds : (Nat → Int32)) (c_o_numbers : (Nat → Int32)) : Option (Int32 × Int32) :=
  m_bound_b100 N k26 k40 x1 x4 x5 x3 v_o_fault v_o_commands c_o_kinds c_o_numbers
def m_bound_B40 (N : Nat) (k26 : Int32 → Int32 → Int32 → Int32 → Int32 → Int32 → (Nat → Int32) → (Nat → Int32) → Option (Int32 × Int32)) (k40 : Int32 → Int32 → Int32 → Int32 → Int32 → Int32 → Int32 → (Nat → Int32) → (Nat → Int32) → Option (Int32 × Int32)) (x1 : Int32) (x2 : Int32) (x3 : Int32) (x4 : Int32) (x5 : Int32) (v_o_fault : Int32) (v_o_commands : Int32) (c_o_kinds : (Nat → Int32)) (c_o_numbers : (Nat → Int32)) : Option (Int32 × Int32) :=
  kg (ki x4 150) (
  kb1 (m_many (c_o_kinds (x4).toNatClampNeg)) fun r49 =>
  if r49 ≤ x5 then
    k26 x1 x2 x3 (x4 + (1 : Int32)) v_o_fault v_o_commands c_o_kinds c_o_numbers
  else
    kg (ki (((6 : Int32) * x4) + x5) 900) (
      if x2 = (0 : Int32) then
        m_bound_b100 N k26 k40 x1 x4 x5 (c_o_numbers ((((6 : Int32) * x4) + x5)).toNatClampNeg) v_o_fault v_o_commands c_o_kinds c_o_numbers
      else
        if (2 : Int32) ≤ x1 then
            if (c_o_numbers ((((6 : Int32) * x4) + x5)).toNatClampNeg) ≤ x3 then
                m_bound_b99 N k26 k40 x1 x3 x4 x5 v_o_fault v_o_commands c_o_kinds c_o_numbers
              else
                m_bound_b100 N k26 k40 x1 x4 x5 (c_o_numbers ((((6 : Int32) * x4) + x5)).toNatClampNeg) v_o_fault v_o_commands c_o_kinds c_o_numbers
          else
            if x3 ≤ (c_o_numbers ((((6 : Int32) * x4) + x5)).toNatClampNeg) then
                m_bound_b99 N k26 k40 x1 x3 x4 x5 v_o_fault v_o_commands c_o_kinds c_o_numbers
              else
                m_bound_b100 N k26 k40 x1 x4 x5 (c_o_numbers ((((6 : Int32) * x4) + x5)).toNatClampNeg) v_o_fault v_o_commands c_o_kinds c_o_numbers))
def m_bound_L40 (N : Nat) (k26 : Int32 → Int32 → Int32 → Int32 → Int32 → Int32 → (Nat → Int32) → (Nat → Int32) → Option (Int32 × Int32)) : Nat → Int32 → Int32 → Int32 → Int32 → Int32 → Int32 → Int32 → (Nat → Int32) → (Nat → Int32) → Option (Int32 × Int32)
  | 0 => fun _ _ _ _ _ _ _ _ _ => none
  | n + 1 => fun x1 x2 x3 x4 x5 v_o_fault v_o_commands c_o_kinds c_o_numbers => m_bound_B40 N k26 (m_bound_L40 N k26 n) x1 x2 x3 x4 x5 v_o_fault v_o_commands c_o_kinds c_o_numbers
def m_bound_B26 (N : Nat) (k26 : Int32 → Int32 → Int32 → Int32 → Int32 → Int32 → (Nat → Int32) → (Nat → Int32) → Option (Int32 × Int32)) (x1 : Int32) (x2 : Int32) (x3 : Int32) (x4 : Int32) (v_o_fault : Int32) (v_o_commands : Int32) (c_o_kinds : (Nat → Int32)) (c_o_numbers : (Nat → Int32)) : Option (Int32 × Int32) :=
  if v_o_commands ≤ x4 then
    some (x3, v_o_fault)
  else
    m_bound_L40 N k26 N x1 x2 x3 x4 (x1 - x1 / (2 : Int32) * (2 : Int32)) v_o_fault v_o_commands c_o_kinds c_o_numbers
def m_bound_L26 (N : Nat) : Nat → Int32 → Int32 → Int32 → Int32 → Int32 → Int32 → (Nat → Int32) → (Nat → Int32) → Option (Int32 × Int32)
  | 0 => fun _ _ _ _ _ _ _ _ => none
  | n + 1 => fun x1 x2 x3 x4 v_o_fault v_o_commands c_o_kinds c_o_numbers => m_bound_B26 N (m_bound_L26 N n) x1 x2 x3 x4 v_o_fault v_o_commands c_o_kinds c_o_numbers
def m_bound (N : Nat) (x1 : Int32) (v_o_commands : Int32) (c_o_kinds : (Nat → Int32)) (c_o_numbers : (Nat → Int32)) : Option (Int32 × Int32) :=
  kb1 (m_in (Int32.toInt64 x1) (0 : Int64) (3 : Int64)) fun r11 =>
  if r11 = (0 : Int32) then
    some ((-1 : Int32), (0 : Int32))
  else
    m_bound_L26 N N x1 (0 : Int32) (0 : Int32) (0 : Int32) (0 : Int32) v_o_commands c_o_kinds c_o_numbers
def m_told_b14 (N : Nat) (x1 : Int32) (v_o_fault : Int32) (v_o_size : Int32) (v_o_commands : Int32) (v_o_written : Int32) (v_o_edges : Int32) (c_o_fromX : (Nat → Int32)) (c_o_fromY : (Nat → Int32)) (c_o_toX : (Nat → Int32)) (c_o_toY : (Nat → Int32)) : Option (Int32 × Int32 × Int32 × (Nat → Int32) × (Nat → Int32) × (Nat → Int32) × (Nat → Int32)) :=
  if x1 = (0 : Int32) then
    some (v_o_commands, v_o_fault, v_o_edges, c_o_fromX, c_o_fromY, c_o_toX, c_o_toY)
  else
    if x1 = (1 : Int32) then
        some (v_o_size, v_o_fault, v_o_edges, c_o_fromX, c_o_fromY, c_o_toX, c_o_toY)
      else
        if x1 = (2 : Int32) then
            some (v_o_written, v_o_fault, v_o_edges, c_o_fromX, c_o_fromY, c_o_toX, c_o_toY)
          else
            if x1 = (3 : Int32) then
                some (v_o_edges, v_o_fault, v_o_edges, c_o_fromX, c_o_fromY, c_o_toX, c_o_toY)
              else
                some ((-1 : Int32), v_o_fault, v_o_edges, c_o_fromX, c_o_fromY, c_o_toX, c_o_toY)
def m_told (N : Nat) (x1 : Int32) (v_o_size : Int32) (v_o_commands : Int32) (v_o_written : Int32) (v_o_edges : Int32) (c_o_kinds : (Nat → Int32)) (c_o_fromX : (Nat → Int32)) (c_o_fromY : (Nat → Int32)) (c_o_toX : (Nat → Int32)) (c_o_toY : (Nat → Int32)) (c_o_numbers : (Nat → Int32)) : Option (Int32 × Int32 × Int32 × (Nat → Int32) × (Nat → Int32) × (Nat → Int32) × (Nat → Int32)) :=
  if x1 = (3 : Int32) then
    kb5 (m_makeEdges N v_o_commands c_o_kinds c_o_fromX c_o_fromY c_o_toX c_o_toY c_o_numbers) fun v_o_edges_11 c_o_fromX_11 c_o_fromY_11 c_o_toX_11 c_o_toY_11 =>
      m_told_b14 N x1 (0 : Int32) v_o_size v_o_commands v_o_written v_o_edges_11 c_o_fromX_11 c_o_fromY_11 c_o_toX_11 c_o_toY_11
  else
    m_told_b14 N x1 (0 : Int32) v_o_size v_o_commands v_o_written v_o_edges c_o_fromX c_o_fromY c_o_toX c_o_toY
def m_clear : Option (Int32 × Int32 × Int32 × Int32 × Int32 × Int32) :=
  some ((0 : Int32), (0 : Int32), (0 : Int32), (0 : Int32), (0 : Int32), (0 : Int32))
def lPLaw_covered (x1 : Int32) (x2 : Int32) (v_p1_cover_width : Int32) (v_p1_cover_height : Int32) (c_p1_cover_squares : (Nat → Int32)) (c_p4 : (Nat → Int64)) : Option (Int32 × (Nat → Int64)) :=
  kb2 (xP_covered x1 x2 v_p1_cover_width v_p1_cover_height c_p1_cover_squares) fun t5 r5 =>
  if t5 = 0 then
    some ((0 : Int32), (vp_updL c_p4 ((0 : Int32)).toNatClampNeg (Int32.toInt64 r5)))
  else if t5 = 4 then
    some ((1 : Int32), c_p4)
  else none
def m_find_b214 (N : Nat) (k27 : Int64 → Int32 → Int64 → Int32 → Int32 → Int64 → Option (Int32 × Int64)) (x2 : Int64) (x4 : Int32) (x5 : Int64) (x12 : Int64) (s0 : Int32) (v_o_behind : Int32) : Option (Int32 × Int64) :=
  k27 x2 x4 (x5 * (10 : Int64)) s0 v_o_behind x12
def m_find_b193 (N : Nat) (k27 : Int64 → Int32 → Int64 → Int32 → Int32 → Int64 → Option (Int32 × Int64)) (k124 : Int64 → Int32 → Int64 → Int64 → Int64 → Int64 → Int32 → Option (Int32 × Int64)) (x2 : Int64) (x4 : Int32) (x5 : Int64) (x8 : Int64) (x10 : Int64) (x12 : Int64) (v_o_behind : Int32) : Option (Int32 × Int64) :=
  k124 x2 x4 x5 (x8 + (1 : Int64)) x10 x12 v_o_behind
def m_find_b189 (N : Nat) (k27 : Int64 → Int32 → Int64 → Int32 → Int32 → Int64 → Option (Int32 × Int64)) (k124 : Int64 → Int32 → Int64 → Int64 → Int64 → Int64 → Int32 → Option (Int32 × Int64)) (x2 : Int64) (x4 : Int32) (x5 : Int64) (x8 : Int64) (x10 : Int64) (v_o_behind : Int32) : Option (Int32 × Int64) :=
  m_find_b193 N k27 k124 x2 x4 x5 x8 x10 x8 v_o_behind
def m_find_b152 (N : Nat) (k27 : Int64 → Int32 → Int64 → Int32 → Int32 → Int64 → Option (Int32 × Int64)) (k124 : Int64 → Int32 → Int64 → Int64 → Int64 → Int64 → Int32 → Option (Int32 × Int64)) (x2 : Int64) (x4 : Int32) (x5 : Int64) (x8 : Int64) (x10 : Int64) (x12 : Int64) (s0 : Int64) (v_o_behind : Int32) : Option (Int32 × Int64) :=
  kb1 (m_nearest s0 x5) fun r154 =>
  if r154 = x2 then
    if x12 < (0 : Int64) then
        m_find_b189 N k27 k124 x2 x4 x5 x8 x10 v_o_behind
      else
        kb1 (m_off x8 x2 x5) fun r174 =>
          kb1 (m_off x12 x2 x5) fun r182 =>
          if r182 ≤ r174 then
            m_find_b193 N k27 k124 x2 x4 x5 x8 x10 x12 v_o_behind
          else
            m_find_b189 N k27 k124 x2 x4 x5 x8 x10 v_o_behind
  else
    m_find_b193 N k27 k124 x2 x4 x5 x8 x10 x12 v_o_behind
def m_find_B124 (N : Nat) (k27 : Int64 → Int32 → Int64 → Int32 → Int32 → Int64 → Option (Int32 × Int64)) (k124 : Int64 → Int32 → Int64 → Int64 → Int64 → Int64 → Int32 → Option (Int32 × Int64)) (x2 : Int64) (x4 : Int32) (x5 : Int64) (x8 : Int64) (x10 : Int64) (x12 : Int64) (v_o_behind : Int32) : Option (Int32 × Int64) :=
  if x10 < x8 then
    if x12 < (0 : Int64) then
        m_find_b214 N k27 x2 x4 x5 x12 (0 : Int32) v_o_behind
      else
        m_find_b214 N k27 x2 x4 x5 x12 (1 : Int32) v_o_behind
  else
    if x4 = (0 : Int32) then
        m_find_b152 N k27 k124 x2 x4 x5 x8 x10 x12 ((256 : Int64) * x8) v_o_behind
      else
        m_find_b152 N k27 k124 x2 x4 x5 x8 x10 x12 ((-256 : Int64) * x8) v_o_behind
def m_find_L124 (N : Nat) (k27 : Int64 → Int32 → Int64 → Int32 → Int32 → Int64 → Option (Int32 × Int64)) : Nat → Int64 → Int32 → Int64 → Int64 → Int64 → Int64 → Int32 → Option (Int32 × Int64)
  | 0 => fun _ _ _ _ _ _ _ => none
  | n + 1 => fun x2 x4 x5 x8 x10 x12 v_o_behind => m_find_B124 N k27 (m_find_L124 N k27 n) x2 x4 x5 x8 x10 x12 v_o_behind
def m_find_b99 (N : Nat) (k27 : Int64 → Int32 → Int64 → Int32 → Int32 → Int64 → Option (Int32 × Int64)) (x2 : Int64) (x4 : Int32) (x5 : Int64) (x8 : Int64) (s0 : Int64) (v_o_behind : Int32) : Option (Int32 × Int64) :=
  m_find_L124 N k27 N x2 x4 x5 x8 ((((s0 * x5) / (256 : Int64)) + (x5 / (256 : Int64))) + (2 : Int64)) (-1 : Int64) v_o_behind
def m_find_b86 (N : Nat) (k27 : Int64 → Int32 → Int64 → Int32 → Int32 → Int64 → Option (Int32 × Int64)) (x2 : Int64) (x4 : Int32) (x5 : Int64) (s0 : Int64) (v_o_behind : Int32) : Option (Int32 × Int64) :=
  if x4 = (0 : Int32) then
    m_find_b99 N k27 x2 x4 x5 s0 x2 v_o_behind
  else
    m_find_b99 N k27 x2 x4 x5 s0 (-x2) v_o_behind
def m_find_b53 (N : Nat) (k27 : Int64 → Int32 → Int64 → Int32 → Int32 → Int64 → Option (Int32 × Int64)) (x2 : Int64) (x4 : Int32) (x5 : Int64) (s0 : Int64) (v_o_behind : Int32) : Option (Int32 × Int64) :=
  if (0 : Int64) ≤ ((((s0 * x5) / (256 : Int64)) - (x5 / (256 : Int64))) - (2 : Int64)) then
    m_find_b86 N k27 x2 x4 x5 ((((s0 * x5) / (256 : Int64)) - (x5 / (256 : Int64))) - (2 : Int64)) v_o_behind
  else
    m_find_b86 N k27 x2 x4 x5 (0 : Int64) v_o_behind
def m_find_B27 (N : Nat) (k27 : Int64 → Int32 → Int64 → Int32 → Int32 → Int64 → Option (Int32 × Int64)) (x2 : Int64) (x4 : Int32) (x5 : Int64) (x7 : Int32) (v_o_behind : Int32) (v_o_whole : Int64) : Option (Int32 × Int64) :=
  if x7 = (0 : Int32) then
    if x4 = (0 : Int32) then
        m_find_b53 N k27 x2 x4 x5 x2 (v_o_behind + (1 : Int32))
      else
        m_find_b53 N k27 x2 x4 x5 (-x2) (v_o_behind + (1 : Int32))
  else
    some (v_o_behind, v_o_whole)
def m_find_L27 (N : Nat) : Nat → Int64 → Int32 → Int64 → Int32 → Int32 → Int64 → Option (Int32 × Int64)
  | 0 => fun _ _ _ _ _ _ => none
  | n + 1 => fun x2 x4 x5 x7 v_o_behind v_o_whole => m_find_B27 N (m_find_L27 N n) x2 x4 x5 x7 v_o_behind v_o_whole
def m_find_b14 (N : Nat) (x2 : Int64) (s0 : Int32) (v_o_whole : Int64) : Option (Int32 × Int64) :=
  m_find_L27 N N x2 s0 (1 : Int64) (0 : Int32) (-1 : Int32) v_o_whole
def m_find (N : Nat) (x1 : Int32) (v_o_whole : Int64) : Option (Int32 × Int64) :=
  if (0 : Int64) ≤ (Int32.toInt64 x1) then
    m_find_b14 N (Int32.toInt64 x1) (0 : Int32) v_o_whole
  else
    m_find_b14 N (Int32.toInt64 x1) (1 : Int32) v_o_whole
def m_sayNumeral_b137 (N : Nat) (v_o_written : Int32) (v_o_behind : Int32) (v_o_whole : Int64) (c_o_signs : (Nat → Int32)) : Option (Int32 × Int32 × Int32 × Int64 × (Nat → Int32)) :=
  if v_o_behind ≤ (0 : Int32) then
    some ((0 : Int32), v_o_written, v_o_behind, v_o_whole, c_o_signs)
  else
    some ((1 : Int32), v_o_written, v_o_behind, v_o_whole, c_o_signs)
def m_sayNumeral_b109 (N : Nat) (x4 : Int64) (v_o_written : Int32) (v_o_behind : Int32) (v_o_whole : Int64) (c_o_signs : (Nat → Int32)) : Option (Int32 × Int32 × Int32 × Int64 × (Nat → Int32)) :=
  if v_o_behind ≤ (0 : Int32) then
    m_sayNumeral_b137 N v_o_written v_o_behind v_o_whole c_o_signs
  else
    kb2 (m_say (46 : Int32) v_o_written c_o_signs) fun v_o_written_119 c_o_signs_119 =>
      kg (knl x4) (
      kb2 (m_sayDigits N (v_o_whole - v_o_whole / x4 * x4) v_o_behind v_o_written_119 c_o_signs_119) fun v_o_written_134 c_o_signs_134 =>
      m_sayNumeral_b137 N v_o_written_134 v_o_behind v_o_whole c_o_signs_134)
def m_sayNumeral_b97 (N : Nat) (x4 : Int64) (x6 : Int64) (x8 : Int32) (v_o_written : Int32) (v_o_behind : Int32) (v_o_whole : Int64) (c_o_signs : (Nat → Int32)) : Option (Int32 × Int32 × Int32 × Int64 × (Nat → Int32)) :=
  if x8 = (0 : Int32) then
    kb2 (m_sayDigits N x6 (0 : Int32) v_o_written c_o_signs) fun v_o_written_106 c_o_signs_106 =>
      m_sayNumeral_b109 N x4 v_o_written_106 v_o_behind v_o_whole c_o_signs_106
  else
    m_sayNumeral_b109 N x4 v_o_written v_o_behind v_o_whole c_o_signs
def m_sayNumeral_b87 (N : Nat) (x1 : Int32) (x4 : Int64) (x6 : Int64) (x8 : Int32) (v_o_written : Int32) (v_o_behind : Int32) (v_o_whole : Int64) (c_o_signs : (Nat → Int32)) : Option (Int32 × Int32 × Int32 × Int64 × (Nat → Int32)) :=
  if (0 : Int32) ≤ x1 then
    m_sayNumeral_b97 N x4 x6 x8 v_o_written v_o_behind v_o_whole c_o_signs
  else
    kb2 (m_say (45 : Int32) v_o_written c_o_signs) fun v_o_written_94 c_o_signs_94 =>
      m_sayNumeral_b97 N x4 x6 x8 v_o_written_94 v_o_behind v_o_whole c_o_signs_94
def m_sayNumeral_b81 (N : Nat) (x1 : Int32) (x4 : Int64) (x6 : Int64) (x8 : Int32) (v_o_written : Int32) (v_o_behind : Int32) (v_o_whole : Int64) (c_o_signs : (Nat → Int32)) : Option (Int32 × Int32 × Int32 × Int64 × (Nat → Int32)) :=
  kb2 (m_say (32 : Int32) v_o_written c_o_signs) fun v_o_written_84 c_o_signs_84 =>
  m_sayNumeral_b87 N x1 x4 x6 x8 v_o_written_84 v_o_behind v_o_whole c_o_signs_84
def m_sayNumeral_b62 (N : Nat) (x1 : Int32) (x2 : Int32) (x3 : Int32) (x4 : Int64) (x6 : Int64) (s0 : Int32) (v_o_written : Int32) (v_o_behind : Int32) (v_o_whole : Int64) (c_o_signs : (Nat → Int32)) : Option (Int32 × Int32 × Int32 × Int64 × (Nat → Int32)) :=
  if x2 = (0 : Int32) then
    if x1 < (0 : Int32) then
        m_sayNumeral_b87 N x1 x4 x6 s0 v_o_written v_o_behind v_o_whole c_o_signs
      else
        if s0 = (0 : Int32) then
            m_sayNumeral_b81 N x1 x4 x6 s0 v_o_written v_o_behind v_o_whole c_o_signs
          else
            if x3 = (0 : Int32) then
                m_sayNumeral_b81 N x1 x4 x6 s0 v_o_written v_o_behind v_o_whole c_o_signs
              else
                m_sayNumeral_b87 N x1 x4 x6 s0 v_o_written v_o_behind v_o_whole c_o_signs
  else
    m_sayNumeral_b87 N x1 x4 x6 s0 v_o_written v_o_behind v_o_whole c_o_signs
def m_sayNumeral_b61 (N : Nat) (x1 : Int32) (x2 : Int32) (x3 : Int32) (x4 : Int64) (x6 : Int64) (v_o_written : Int32) (v_o_behind : Int32) (v_o_whole : Int64) (c_o_signs : (Nat → Int32)) : Option (Int32 × Int32 × Int32 × Int64 × (Nat → Int32)) :=
  m_sayNumeral_b62 N x1 x2 x3 x4 x6 (0 : Int32) v_o_written v_o_behind v_o_whole c_o_signs
def m_sayNumeral_B11 (N : Nat) (k11 : Int32 → Int32 → Int32 → Int64 → Int32 → Int32 → Int32 → Int64 → (Nat → Int32) → Option (Int32 × Int32 × Int32 × Int64 × (Nat → Int32))) (x1 : Int32) (x2 : Int32) (x3 : Int32) (x4 : Int64) (x6 : Int32) (v_o_written : Int32) (v_o_behind : Int32) (v_o_whole : Int64) (c_o_signs : (Nat → Int32)) : Option (Int32 × Int32 × Int32 × Int64 × (Nat → Int32)) :=
  if v_o_behind ≤ x6 then
    kg (knl x4) (
      if (v_o_whole / x4) = (0 : Int64) then
        if v_o_behind ≤ (0 : Int32) then
            m_sayNumeral_b61 N x1 x2 x3 x4 (v_o_whole / x4) v_o_written v_o_behind v_o_whole c_o_signs
          else
            m_sayNumeral_b62 N x1 x2 x3 x4 (v_o_whole / x4) (1 : Int32) v_o_written v_o_behind v_o_whole c_o_signs
      else
        m_sayNumeral_b61 N x1 x2 x3 x4 (v_o_whole / x4) v_o_written v_o_behind v_o_whole c_o_signs)
  else
    k11 x1 x2 x3 (x4 * (10 : Int64)) (x6 + (1 : Int32)) v_o_written v_o_behind v_o_whole c_o_signs
def m_sayNumeral_L11 (N : Nat) : Nat → Int32 → Int32 → Int32 → Int64 → Int32 → Int32 → Int32 → Int64 → (Nat → Int32) → Option (Int32 × Int32 × Int32 × Int64 × (Nat → Int32))
  | 0 => fun _ _ _ _ _ _ _ _ _ => none
  | n + 1 => fun x1 x2 x3 x4 x6 v_o_written v_o_behind v_o_whole c_o_signs => m_sayNumeral_B11 N (m_sayNumeral_L11 N n) x1 x2 x3 x4 x6 v_o_written v_o_behind v_o_whole c_o_signs
def m_sayNumeral (N : Nat) (x1 : Int32) (x2 : Int32) (x3 : Int32) (v_o_written : Int32) (v_o_whole : Int64) (c_o_signs : (Nat → Int32)) : Option (Int32 × Int32 × Int32 × Int64 × (Nat → Int32)) :=
  kb2 (m_find N x1 v_o_whole) fun v_o_behind_2 v_o_whole_2 =>
  m_sayNumeral_L11 N N x1 x2 x3 (1 : Int64) (0 : Int32) v_o_written v_o_behind_2 v_o_whole_2 c_o_signs
def m_write_b108 (N : Nat) (k12 : Int32 → Int32 → Int32 → Int32 → Int32 → Int64 → (Nat → Int32) → (Nat → Int32) → (Nat → Int32) → Option (Int32 × Int32 × Int32 × Int32 × Int64 × (Nat → Int32))) (k74 : Int32 → Int32 → Int32 → Int32 → Int32 → Int32 → Int32 → Int64 → (Nat → Int32) → (Nat → Int32) → (Nat → Int32) → Option (Int32 × Int32 × Int32 × Int32 × Int64 × (Nat → Int32))) (x1 : Int32) (x2 : Int32) (x3 : Int32) (s1 : Int32) (s2 : Int32) (v_o_fault : Int32) (v_o_commands : Int32) (v_o_written : Int32) (v_o_whole : Int64) (c_o_kinds : (Nat → Int32)) (c_o_signs : (Nat → Int32)) (c_o_numbers : (Nat → Int32)) : Option (Int32 × Int32 × Int32 × Int32 × Int64 × (Nat → Int32)) :=
  kb5 (m_sayNumeral N s1 s2 x2 v_o_written v_o_whole c_o_signs) fun r109 v_o_written_109 v_o_behind_109 v_o_whole_109 c_o_signs_109 =>
  k74 x1 r109 (x3 + (1 : Int32)) v_o_fault v_o_commands v_o_written_109 v_o_behind_109 v_o_whole_109 c_o_kinds c_o_signs_109 c_o_numbers
def m_write_B74 (N : Nat) (k12 : Int32 → Int32 → Int32 → Int32 → Int32 → Int64 → (Nat → Int32) → (Nat → Int32) → (Nat → Int32) → Option (Int32 × Int32 × Int32 × Int32 × Int64 × (Nat → Int32))) (k74 : Int32 → Int32 → Int32 → Int32 → Int32 → Int32 → Int32 → Int64 → (Nat → Int32) → (Nat → Int32) → (Nat → Int32) → Option (Int32 × Int32 × Int32 × Int32 × Int64 × (Nat → Int32))) (x1 : Int32) (x2 : Int32) (x3 : Int32) (v_o_fault : Int32) (v_o_commands : Int32) (v_o_written : Int32) (v_o_behind : Int32) (v_o_whole : Int64) (c_o_kinds : (Nat → Int32)) (c_o_signs : (Nat → Int32)) (c_o_numbers : (Nat → Int32)) : Option (Int32 × Int32 × Int32 × Int32 × Int64 × (Nat → Int32)) :=
  kg (ki x1 150) (
  kb1 (m_many (c_o_kinds (x1).toNatClampNeg)) fun r81 =>
  if r81 ≤ x3 then
    k12 (x1 + (1 : Int32)) v_o_fault v_o_commands v_o_written v_o_behind v_o_whole c_o_kinds c_o_signs c_o_numbers
  else
    kg (ki (((6 : Int32) * x1) + x3) 900) (
      if x3 = (0 : Int32) then
        m_write_b108 N k12 k74 x1 x2 x3 (c_o_numbers ((((6 : Int32) * x1) + x3)).toNatClampNeg) (1 : Int32) v_o_fault v_o_commands v_o_written v_o_whole c_o_kinds c_o_signs c_o_numbers
      else
        m_write_b108 N k12 k74 x1 x2 x3 (c_o_numbers ((((6 : Int32) * x1) + x3)).toNatClampNeg) (0 : Int32) v_o_fault v_o_commands v_o_written v_o_whole c_o_kinds c_o_signs c_o_numbers))
def m_write_L74 (N : Nat) (k12 : Int32 → Int32 → Int32 → Int32 → Int32 → Int64 → (Nat → Int32) → (Nat → Int32) → (Nat → Int32) → Option (Int32 × Int32 × Int32 × Int32 × Int64 × (Nat → Int32))) : Nat → Int32 → Int32 → Int32 → Int32 → Int32 → Int32 → Int32 → Int64 → (Nat → Int32) → (Nat → Int32) → (Nat → Int32) → Option (Int32 × Int32 × Int32 × Int32 × Int64 × (Nat → Int32))
  | 0 => fun _ _ _ _ _ _ _ _ _ _ _ => none
  | n + 1 => fun x1 x2 x3 v_o_fault v_o_commands v_o_written v_o_behind v_o_whole c_o_kinds c_o_signs c_o_numbers => m_write_B74 N k12 (m_write_L74 N k12 n) x1 x2 x3 v_o_fault v_o_commands v_o_written v_o_behind v_o_whole c_o_kinds c_o_signs c_o_numbers
def m_write_b67 (N : Nat) (k12 : Int32 → Int32 → Int32 → Int32 → Int32 → Int64 → (Nat → Int32) → (Nat → Int32) → (Nat → Int32) → Option (Int32 × Int32 × Int32 × Int32 × Int64 × (Nat → Int32))) (x1 : Int32) (s1 : Int32) (v_o_fault : Int32) (v_o_commands : Int32) (v_o_written : Int32) (v_o_behind : Int32) (v_o_whole : Int64) (c_o_kinds : (Nat → Int32)) (c_o_signs : (Nat → Int32)) (c_o_numbers : (Nat → Int32)) : Option (Int32 × Int32 × Int32 × Int32 × Int64 × (Nat → Int32)) :=
  kb2 (m_say s1 v_o_written c_o_signs) fun v_o_written_67 c_o_signs_67 =>
  m_write_L74 N k12 N x1 (0 : Int32) (0 : Int32) v_o_fault v_o_commands v_o_written_67 v_o_behind v_o_whole c_o_kinds c_o_signs_67 c_o_numbers
def m_write_B12 (N : Nat) (k12 : Int32 → Int32 → Int32 → Int32 → Int32 → Int64 → (Nat → Int32) → (Nat → Int32) → (Nat → Int32) → Option (Int32 × Int32 × Int32 × Int32 × Int64 × (Nat → Int32))) (x1 : Int32) (v_o_fault : Int32) (v_o_commands : Int32) (v_o_written : Int32) (v_o_behind : Int32) (v_o_whole : Int64) (c_o_kinds : (Nat → Int32)) (c_o_signs : (Nat → Int32)) (c_o_numbers : (Nat → Int32)) : Option (Int32 × Int32 × Int32 × Int32 × Int64 × (Nat → Int32)) :=
  if v_o_commands ≤ x1 then
    some (v_o_written, v_o_fault, v_o_written, v_o_behind, v_o_whole, c_o_signs)
  else
    kg (ki x1 150) (
      if (c_o_kinds (x1).toNatClampNeg) = (0 : Int32) then
        m_write_b67 N k12 x1 (77 : Int32) v_o_fault v_o_commands v_o_written v_o_behind v_o_whole c_o_kinds c_o_signs c_o_numbers
      else
        kg (ki x1 150) (
          if (c_o_kinds (x1).toNatClampNeg) = (1 : Int32) then
            m_write_b67 N k12 x1 (76 : Int32) v_o_fault v_o_commands v_o_written v_o_behind v_o_whole c_o_kinds c_o_signs c_o_numbers
          else
            kg (ki x1 150) (
              if (c_o_kinds (x1).toNatClampNeg) = (2 : Int32) then
                m_write_b67 N k12 x1 (67 : Int32) v_o_fault v_o_commands v_o_written v_o_behind v_o_whole c_o_kinds c_o_signs c_o_numbers
              else
                m_write_b67 N k12 x1 (90 : Int32) v_o_fault v_o_commands v_o_written v_o_behind v_o_whole c_o_kinds c_o_signs c_o_numbers)))
def m_write_L12 (N : Nat) : Nat → Int32 → Int32 → Int32 → Int32 → Int32 → Int64 → (Nat → Int32) → (Nat → Int32) → (Nat → Int32) → Option (Int32 × Int32 × Int32 × Int32 × Int64 × (Nat → Int32))
  | 0 => fun _ _ _ _ _ _ _ _ _ => none
  | n + 1 => fun x1 v_o_fault v_o_commands v_o_written v_o_behind v_o_whole c_o_kinds c_o_signs c_o_numbers => m_write_B12 N (m_write_L12 N n) x1 v_o_fault v_o_commands v_o_written v_o_behind v_o_whole c_o_kinds c_o_signs c_o_numbers
def m_write (N : Nat) (v_o_commands : Int32) (v_o_behind : Int32) (v_o_whole : Int64) (c_o_kinds : (Nat → Int32)) (c_o_signs : (Nat → Int32)) (c_o_numbers : (Nat → Int32)) : Option (Int32 × Int32 × Int32 × Int32 × Int64 × (Nat → Int32)) :=
  m_write_L12 N N (0 : Int32) (0 : Int32) v_o_commands (0 : Int32) v_o_behind v_o_whole c_o_kinds c_o_signs c_o_numbers
def lPLaw_text (N : Nat) (x1 : Int64) (v_p1_text_length : Int32) (c_p1_text_characters : (Nat → Int32)) (c_p3 : (Nat → Int64)) : Option (Int32 × Int32 × (Nat → Int32) × (Nat → Int64)) :=
  kb4 (xP_text N x1 v_p1_text_length c_p1_text_characters) fun t4 r4 v_p1_text_length_4 c_p1_text_characters_4 =>
  if t4 = 0 then
    some ((0 : Int32), v_p1_text_length_4, c_p1_text_characters_4, (vp_updL c_p3 ((0 : Int32)).toNatClampNeg (Int32.toInt64 r4)))
  else if t4 = 1 then
    some ((1 : Int32), v_p1_text_length_4, c_p1_text_characters_4, c_p3)
  else if t4 = 3 then
    some ((2 : Int32), v_p1_text_length_4, c_p1_text_characters_4, c_p3)
  else none
def lPLaw_command (x1 : Int32) (v_p1_drawing_count : Int32) (c_p1_drawing_kinds : (Nat → Int32)) (c_p3 : (Nat → Int64)) : Option (Int32 × (Nat → Int64)) :=
  kb2 (xP_command x1 v_p1_drawing_count c_p1_drawing_kinds) fun t4 r4 =>
  if t4 = 0 then
    some ((0 : Int32), (vp_updL c_p3 ((0 : Int32)).toNatClampNeg (Int32.toInt64 r4)))
  else if t4 = 4 then
    some ((1 : Int32), c_p3)
  else none
def lPLaw_number (x1 : Int32) (x2 : Int32) (v_p1_drawing_count : Int32) (c_p1_drawing_kinds : (Nat → Int32)) (c_p1_drawing_numbers : (Nat → Int32)) (c_p4 : (Nat → Int64)) : Option (Int32 × (Nat → Int64)) :=
  kb2 (xP_number x1 x2 v_p1_drawing_count c_p1_drawing_kinds c_p1_drawing_numbers) fun t5 r5 =>
  if t5 = 0 then
    some ((0 : Int32), (vp_updL c_p4 ((0 : Int32)).toNatClampNeg (Int32.toInt64 r5)))
  else if t5 = 4 then
    some ((1 : Int32), c_p4)
  else none
def lPLaw_charAt (x1 : Int32) (v_p1_written_length : Int32) (c_p1_written_characters : (Nat → Int32)) (c_p3 : (Nat → Int64)) : Option (Int32 × (Nat → Int64)) :=
  kb2 (xP_charAt x1 v_p1_written_length c_p1_written_characters) fun t4 r4 =>
  if t4 = 0 then
    some ((0 : Int32), (vp_updL c_p3 ((0 : Int32)).toNatClampNeg (Int32.toInt64 r4)))
  else if t4 = 4 then
    some ((1 : Int32), c_p3)
  else none
def lPLaw_move (N : Nat) (x1 : Int32) (x2 : Int32) (c_p1_given : (Nat → Int64)) (v_p1_drawing_count : Int32) (c_p1_drawing_numbers : (Nat → Int32)) (c_p1_drawing_kinds : (Nat → Int32)) (c_p4 : (Nat → Int64)) : Option (Int32 × (Nat → Int64) × Int32 × (Nat → Int32) × (Nat → Int32) × (Nat → Int64)) :=
  kb6 (xP_move N x1 x2 c_p1_given v_p1_drawing_count c_p1_drawing_numbers c_p1_drawing_kinds) fun t5 r5 c_p1_given_5 v_p1_drawing_count_5 c_p1_drawing_numbers_5 c_p1_drawing_kinds_5 =>
  if t5 = 0 then
    some ((0 : Int32), c_p1_given_5, v_p1_drawing_count_5, c_p1_drawing_numbers_5, c_p1_drawing_kinds_5, (vp_updL c_p4 ((0 : Int32)).toNatClampNeg (Int32.toInt64 r5)))
  else if t5 = 1 then
    some ((1 : Int32), c_p1_given_5, v_p1_drawing_count_5, c_p1_drawing_numbers_5, c_p1_drawing_kinds_5, c_p4)
  else if t5 = 3 then
    some ((2 : Int32), c_p1_given_5, v_p1_drawing_count_5, c_p1_drawing_numbers_5, c_p1_drawing_kinds_5, c_p4)
  else none
def lPLaw_line (N : Nat) (x1 : Int32) (x2 : Int32) (c_p1_given : (Nat → Int64)) (v_p1_drawing_count : Int32) (c_p1_drawing_numbers : (Nat → Int32)) (c_p1_drawing_kinds : (Nat → Int32)) (c_p4 : (Nat → Int64)) : Option (Int32 × (Nat → Int64) × Int32 × (Nat → Int32) × (Nat → Int32) × (Nat → Int64)) :=
  kb6 (xP_line N x1 x2 c_p1_given v_p1_drawing_count c_p1_drawing_numbers c_p1_drawing_kinds) fun t5 r5 c_p1_given_5 v_p1_drawing_count_5 c_p1_drawing_numbers_5 c_p1_drawing_kinds_5 =>
  if t5 = 0 then
    some ((0 : Int32), c_p1_given_5, v_p1_drawing_count_5, c_p1_drawing_numbers_5, c_p1_drawing_kinds_5, (vp_updL c_p4 ((0 : Int32)).toNatClampNeg (Int32.toInt64 r5)))
  else if t5 = 1 then
    some ((1 : Int32), c_p1_given_5, v_p1_drawing_count_5, c_p1_drawing_numbers_5, c_p1_drawing_kinds_5, c_p4)
  else if t5 = 2 then
    some ((2 : Int32), c_p1_given_5, v_p1_drawing_count_5, c_p1_drawing_numbers_5, c_p1_drawing_kinds_5, c_p4)
  else if t5 = 3 then
    some ((3 : Int32), c_p1_given_5, v_p1_drawing_count_5, c_p1_drawing_numbers_5, c_p1_drawing_kinds_5, c_p4)
  else none
def lPLaw_cubic (N : Nat) (x1 : Int32) (x2 : Int32) (x3 : Int32) (x4 : Int32) (x5 : Int32) (x6 : Int32) (c_p1_given : (Nat → Int64)) (v_p1_drawing_count : Int32) (c_p1_drawing_numbers : (Nat → Int32)) (c_p1_drawing_kinds : (Nat → Int32)) (c_p8 : (Nat → Int64)) : Option (Int32 × (Nat → Int64) × Int32 × (Nat → Int32) × (Nat → Int32) × (Nat → Int64)) :=
  kb6 (xP_cubic N x1 x2 x3 x4 x5 x6 c_p1_given v_p1_drawing_count c_p1_drawing_numbers c_p1_drawing_kinds) fun t13 r13 c_p1_given_13 v_p1_drawing_count_13 c_p1_drawing_numbers_13 c_p1_drawing_kinds_13 =>
  if t13 = 0 then
    some ((0 : Int32), c_p1_given_13, v_p1_drawing_count_13, c_p1_drawing_numbers_13, c_p1_drawing_kinds_13, (vp_updL c_p8 ((0 : Int32)).toNatClampNeg (Int32.toInt64 r13)))
  else if t13 = 1 then
    some ((1 : Int32), c_p1_given_13, v_p1_drawing_count_13, c_p1_drawing_numbers_13, c_p1_drawing_kinds_13, c_p8)
  else if t13 = 2 then
    some ((2 : Int32), c_p1_given_13, v_p1_drawing_count_13, c_p1_drawing_numbers_13, c_p1_drawing_kinds_13, c_p8)
  else if t13 = 3 then
    some ((3 : Int32), c_p1_given_13, v_p1_drawing_count_13, c_p1_drawing_numbers_13, c_p1_drawing_kinds_13, c_p8)
  else none
def lPLaw_close (N : Nat) (c_p1_given : (Nat → Int64)) (v_p1_drawing_count : Int32) (c_p1_drawing_numbers : (Nat → Int32)) (c_p1_drawing_kinds : (Nat → Int32)) (c_p2 : (Nat → Int64)) : Option (Int32 × Int32 × (Nat → Int32) × (Nat → Int32) × (Nat → Int64)) :=
  kb5 (xP_close N c_p1_given v_p1_drawing_count c_p1_drawing_numbers c_p1_drawing_kinds) fun t3 r3 v_p1_drawing_count_3 c_p1_drawing_numbers_3 c_p1_drawing_kinds_3 =>
  if t3 = 0 then
    some ((0 : Int32), v_p1_drawing_count_3, c_p1_drawing_numbers_3, c_p1_drawing_kinds_3, (vp_updL c_p2 ((0 : Int32)).toNatClampNeg (Int32.toInt64 r3)))
  else if t3 = 2 then
    some ((1 : Int32), v_p1_drawing_count_3, c_p1_drawing_numbers_3, c_p1_drawing_kinds_3, c_p2)
  else if t3 = 3 then
    some ((2 : Int32), v_p1_drawing_count_3, c_p1_drawing_numbers_3, c_p1_drawing_kinds_3, c_p2)
  else none
def lPLaw_render (N : Nat) (x1 : Int32) (x2 : Int32) (x3 : Int32) (v_p1_cover_width : Int32) (v_p1_cover_height : Int32) (v_p1_cover_top : Int64) (v_p1_cover_x : Int64) (v_p1_cover_y : Int64) (v_p1_cover_startX : Int64) (v_p1_cover_startY : Int64) (c_p1_cover_squares : (Nat → Int32)) (c_p1_cover_changes : (Nat → Int32)) (v_p1_drawing_count : Int32) (c_p1_drawing_kinds : (Nat → Int32)) (c_p1_drawing_numbers : (Nat → Int32)) (c_p5 : (Nat → Int64)) : Option (Int32 × Int32 × Int32 × Int64 × Int64 × Int64 × Int64 × Int64 × (Nat → Int32) × (Nat → Int32) × (Nat → Int64)) :=
  kb11 (xP_render N x1 x2 x3 v_p1_cover_width v_p1_cover_height v_p1_cover_top v_p1_cover_x v_p1_cover_y v_p1_cover_startX v_p1_cover_startY c_p1_cover_squares c_p1_cover_changes v_p1_drawing_count c_p1_drawing_kinds c_p1_drawing_numbers) fun t7 r7 v_p1_cover_width_7 v_p1_cover_height_7 v_p1_cover_top_7 v_p1_cover_x_7 v_p1_cover_y_7 v_p1_cover_startX_7 v_p1_cover_startY_7 c_p1_cover_squares_7 c_p1_cover_changes_7 =>
  if t7 = 0 then
    some ((0 : Int32), v_p1_cover_width_7, v_p1_cover_height_7, v_p1_cover_top_7, v_p1_cover_x_7, v_p1_cover_y_7, v_p1_cover_startX_7, v_p1_cover_startY_7, c_p1_cover_squares_7, c_p1_cover_changes_7, (vp_updL c_p5 ((0 : Int32)).toNatClampNeg (Int32.toInt64 r7)))
  else if t7 = 1 then
    some ((1 : Int32), v_p1_cover_width_7, v_p1_cover_height_7, v_p1_cover_top_7, v_p1_cover_x_7, v_p1_cover_y_7, v_p1_cover_startX_7, v_p1_cover_startY_7, c_p1_cover_squares_7, c_p1_cover_changes_7, c_p5)
  else none
def law_B23 (N : Nat) (sL : Nat) (sX : Nat → Int32) (k23 : Int32 → Int32 → Int32 → Int32 → Int32 → Int32 → Int64 → Int64 → Int64 → Int64 → Int64 → (Nat → Int32) → (Nat → Int32) → (Nat → Int32) → (Nat → Int32) → (Nat → Int32) → (Nat → Int64) → Int32 → Int32 → Int32 → Int64 → Int64 → Int64 → Int64 → Int64 → Int64 → Int32 → Int32 → (Nat → Int64) → (Nat → Int32) → (Nat → Int64) → (Nat → Int64) → (Nat → Int64) → Int32 → (Nat → Int32) → (Nat → Int32) → Int32 → Int32 → Int32 → Int32 → Int32 → Int32 → Int64 → Int32 → Int32 → Int64 → Int64 → Int64 → Int64 → Int32 → Int64 → Int64 → Int32 → Int32 → Int32 → Int32 → Int32 → Int64 → (Nat → Int32) → (Nat → Int32) → (Nat → Int32) → (Nat → Int32) → (Nat → Int32) → (Nat → Int32) → (Nat → Int32) → (Nat → Int32) → (Nat → Int64) → (Nat → Int32) → (Nat → Int64) → (Nat → Int32) → (Nat → Int32) → (Nat → Int64) → Option (Int32 × Int32 × Int32 × Int32 × Int32 × Int32 × Int64 × Int64 × Int64 × Int64 × Int64 × (Nat → Int32) × (Nat → Int32) × (Nat → Int32) × (Nat → Int32) × (Nat → Int32) × (Nat → Int64) × Int32 × Int32 × Int32 × Int64 × Int64 × Int64 × Int64 × Int64 × Int64 × Int32 × Int32 × (Nat → Int64) × (Nat → Int32) × (Nat → Int64) × (Nat → Int64) × (Nat → Int64) × Int32 × (Nat → Int32) × (Nat → Int32) × Int32 × Int32 × Int32 × Int32 × Int32 × Int32 × Int64 × Int32 × Int32 × Int64 × Int64 × Int64 × Int64 × Int32 × Int64 × Int64 × Int32 × Int32 × Int32 × Int32 × Int32 × Int64 × (Nat → Int32) × (Nat → Int32) × (Nat → Int32) × (Nat → Int32) × (Nat → Int32) × (Nat → Int32) × (Nat → Int32) × (Nat → Int32) × (Nat → Int64) × (Nat → Int32) × (Nat → Int64) × (Nat → Int32) × (Nat → Int32) × (Nat → Int64))) (x4 : Int32) (v_X_text_length : Int32) (v_X_written_length : Int32) (v_X_drawing_count : Int32) (v_X_cover_width : Int32) (v_X_cover_height : Int32) (v_X_cover_top : Int64) (v_X_cover_x : Int64) (v_X_cover_y : Int64) (v_X_cover_startX : Int64) (v_X_cover_startY : Int64) (c_X_drawing_kinds : (Nat → Int32)) (c_X_drawing_numbers : (Nat → Int32)) (c_X_cover_squares : (Nat → Int32)) (c_X_cover_changes : (Nat → Int32)) (c_X_written_characters : (Nat → Int32)) (c_X_given : (Nat → Int64)) (v_X_reader_at : Int32) (v_X_reader_wrong : Int32) (v_X_reader_moveIsDue : Int32) (v_X_reader_pen_x : Int64) (v_X_reader_pen_y : Int64) (v_X_reader_pen_startX : Int64) (v_X_reader_pen_startY : Int64) (v_X_reader_pen_controlX : Int64) (v_X_reader_pen_controlY : Int64) (v_X_reader_pen_controlFor : Int32) (v_X_reader_pen_matrices_depth : Int32) (c_X_reader_pen_matrices_rows : (Nat → Int64)) (c_X_text_characters : (Nat → Int32)) (c_X_reader_numbers : (Nat → Int64)) (c_X_reader_pen_points : (Nat → Int64)) (c_X_reader_pen_drawn : (Nat → Int64)) (v_X_spare_count : Int32) (c_X_spare_numbers : (Nat → Int32)) (c_X_spare_kinds : (Nat → Int32)) (v_Y_fault : Int32) (v_Y_size : Int32) (v_Y_commands : Int32) (v_Y_drawn : Int32) (v_Y_depth : Int32) (v_Y_at : Int32) (v_Y_value : Int64) (v_Y_wrong : Int32) (v_Y_wantsMove : Int32) (v_Y_x : Int64) (v_Y_y : Int64) (v_Y_startX : Int64) (v_Y_startY : Int64) (v_Y_before : Int32) (v_Y_turnX : Int64) (v_Y_turnY : Int64) (v_Y_written : Int32) (v_Y_edges : Int32) (v_Y_wide : Int32) (v_Y_high : Int32) (v_Y_behind : Int32) (v_Y_whole : Int64) (c_Y_kinds : (Nat → Int32)) (c_Y_fromX : (Nat → Int32)) (c_Y_fromY : (Nat → Int32)) (c_Y_toX : (Nat → Int32)) (c_Y_toY : (Nat → Int32)) (c_Y_numbers : (Nat → Int32)) (c_Y_points : (Nat → Int32)) (c_Y_signs : (Nat → Int32)) (c_Y_matrix : (Nat → Int64)) (c_Y_text : (Nat → Int32)) (c_Y_given : (Nat → Int64)) (c_Y_drawnNumbers : (Nat → Int32)) (c_Y_drawnKinds : (Nat → Int32)) (c_out : (Nat → Int64)) : Option (Int32 × Int32 × Int32 × Int32 × Int32 × Int32 × Int64 × Int64 × Int64 × Int64 × Int64 × (Nat → Int32) × (Nat → Int32) × (Nat → Int32) × (Nat → Int32) × (Nat → Int32) × (Nat → Int64) × Int32 × Int32 × Int32 × Int64 × Int64 × Int64 × Int64 × Int64 × Int64 × Int32 × Int32 × (Nat → Int64) × (Nat → Int32) × (Nat → Int64) × (Nat → Int64) × (Nat → Int64) × Int32 × (Nat → Int32) × (Nat → Int32) × Int32 × Int32 × Int32 × Int32 × Int32 × Int32 × Int64 × Int32 × Int32 × Int64 × Int64 × Int64 × Int64 × Int32 × Int64 × Int64 × Int32 × Int32 × Int32 × Int32 × Int32 × Int64 × (Nat → Int32) × (Nat → Int32) × (Nat → Int32) × (Nat → Int32) × (Nat → Int32) × (Nat → Int32) × (Nat → Int32) × (Nat → Int32) × (Nat → Int64) × (Nat → Int32) × (Nat → Int64) × (Nat → Int32) × (Nat → Int32) × (Nat → Int64)) :=
  if ((Int32.ofNat sL) - (7 : Int32)) < x4 then
    some ((1 : Int32), v_X_text_length, v_X_written_length, v_X_drawing_count, v_X_cover_width, v_X_cover_height, v_X_cover_top, v_X_cover_x, v_X_cover_y, v_X_cover_startX, v_X_cover_startY, c_X_drawing_kinds, c_X_drawing_numbers, c_X_cover_squares, c_X_cover_changes, c_X_written_characters, c_X_given, v_X_reader_at, v_X_reader_wrong, v_X_reader_moveIsDue, v_X_reader_pen_x, v_X_reader_pen_y, v_X_reader_pen_startX, v_X_reader_pen_startY, v_X_reader_pen_controlX, v_X_reader_pen_controlY, v_X_reader_pen_controlFor, v_X_reader_pen_matrices_depth, c_X_reader_pen_matrices_rows, c_X_text_characters, c_X_reader_numbers, c_X_reader_pen_points, c_X_reader_pen_drawn, v_X_spare_count, c_X_spare_numbers, c_X_spare_kinds, v_Y_fault, v_Y_size, v_Y_commands, v_Y_drawn, v_Y_depth, v_Y_at, v_Y_value, v_Y_wrong, v_Y_wantsMove, v_Y_x, v_Y_y, v_Y_startX, v_Y_startY, v_Y_before, v_Y_turnX, v_Y_turnY, v_Y_written, v_Y_edges, v_Y_wide, v_Y_high, v_Y_behind, v_Y_whole, c_Y_kinds, c_Y_fromX, c_Y_fromY, c_Y_toX, c_Y_toY, c_Y_numbers, c_Y_points, c_Y_signs, c_Y_matrix, c_Y_text, c_Y_given, c_Y_drawnNumbers, c_Y_drawnKinds, c_out)
  else
    kg (ki x4 sL) (
      if ((sX (x4).toNatClampNeg) &&& (15 : Int32)) = (0 : Int32) then
        kg (ki (x4 + (1 : Int32)) sL) (
          kg (ki (x4 + (2 : Int32)) sL) (
          kb4 (lPLaw_text N (((Int32.toInt64 (sX ((x4 + (1 : Int32))).toNatClampNeg)) <<< (Int32.toInt64 (32 : Int32) &&& 63)) ||| ((Int32.toInt64 (sX ((x4 + (2 : Int32))).toNatClampNeg)) &&& (4294967295 : Int64))) v_X_text_length c_X_text_characters c_out) fun r140 v_X_text_length_140 c_X_text_characters_140 c_out_140 =>
          kg (ki (x4 + (1 : Int32)) sL) (
          kg (ki (x4 + (2 : Int32)) sL) (
          kb4 (m_text N (((Int32.toInt64 (sX ((x4 + (1 : Int32))).toNatClampNeg)) <<< (Int32.toInt64 (32 : Int32) &&& 63)) ||| ((Int32.toInt64 (sX ((x4 + (2 : Int32))).toNatClampNeg)) &&& (4294967295 : Int64))) v_Y_size c_Y_text) fun r168 v_Y_fault_168 v_Y_size_168 c_Y_text_168 =>
          kb1 (m_thrown v_Y_fault_168) fun r174 =>
          if r174 = r140 then
            if r140 = (0 : Int32) then
                if (c_out_140 ((0 : Int32)).toNatClampNeg) = (Int32.toInt64 r168) then
                    k23 (x4 + (7 : Int32)) v_X_text_length_140 v_X_written_length v_X_drawing_count v_X_cover_width v_X_cover_height v_X_cover_top v_X_cover_x v_X_cover_y v_X_cover_startX v_X_cover_startY c_X_drawing_kinds c_X_drawing_numbers c_X_cover_squares c_X_cover_changes c_X_written_characters c_X_given v_X_reader_at v_X_reader_wrong v_X_reader_moveIsDue v_X_reader_pen_x v_X_reader_pen_y v_X_reader_pen_startX v_X_reader_pen_startY v_X_reader_pen_controlX v_X_reader_pen_controlY v_X_reader_pen_controlFor v_X_reader_pen_matrices_depth c_X_reader_pen_matrices_rows c_X_text_characters_140 c_X_reader_numbers c_X_reader_pen_points c_X_reader_pen_drawn v_X_spare_count c_X_spare_numbers c_X_spare_kinds v_Y_fault_168 v_Y_size_168 v_Y_commands v_Y_drawn v_Y_depth v_Y_at v_Y_value v_Y_wrong v_Y_wantsMove v_Y_x v_Y_y v_Y_startX v_Y_startY v_Y_before v_Y_turnX v_Y_turnY v_Y_written v_Y_edges v_Y_wide v_Y_high v_Y_behind v_Y_whole c_Y_kinds c_Y_fromX c_Y_fromY c_Y_toX c_Y_toY c_Y_numbers c_Y_points c_Y_signs c_Y_matrix c_Y_text_168 c_Y_given c_Y_drawnNumbers c_Y_drawnKinds c_out_140
                  else
                    some ((0 : Int32), v_X_text_length_140, v_X_written_length, v_X_drawing_count, v_X_cover_width, v_X_cover_height, v_X_cover_top, v_X_cover_x, v_X_cover_y, v_X_cover_startX, v_X_cover_startY, c_X_drawing_kinds, c_X_drawing_numbers, c_X_cover_squares, c_X_cover_changes, c_X_written_characters, c_X_given, v_X_reader_at, v_X_reader_wrong, v_X_reader_moveIsDue, v_X_reader_pen_x, v_X_reader_pen_y, v_X_reader_pen_startX, v_X_reader_pen_startY, v_X_reader_pen_controlX, v_X_reader_pen_controlY, v_X_reader_pen_controlFor, v_X_reader_pen_matrices_depth, c_X_reader_pen_matrices_rows, c_X_text_characters_140, c_X_reader_numbers, c_X_reader_pen_points, c_X_reader_pen_drawn, v_X_spare_count, c_X_spare_numbers, c_X_spare_kinds, v_Y_fault_168, v_Y_size_168, v_Y_commands, v_Y_drawn, v_Y_depth, v_Y_at, v_Y_value, v_Y_wrong, v_Y_wantsMove, v_Y_x, v_Y_y, v_Y_startX, v_Y_startY, v_Y_before, v_Y_turnX, v_Y_turnY, v_Y_written, v_Y_edges, v_Y_wide, v_Y_high, v_Y_behind, v_Y_whole, c_Y_kinds, c_Y_fromX, c_Y_fromY, c_Y_toX, c_Y_toY, c_Y_numbers, c_Y_points, c_Y_signs, c_Y_matrix, c_Y_text_168, c_Y_given, c_Y_drawnNumbers, c_Y_drawnKinds, c_out_140)
              else
                k23 (x4 + (7 : Int32)) v_X_text_length_140 v_X_written_length v_X_drawing_count v_X_cover_width v_X_cover_height v_X_cover_top v_X_cover_x v_X_cover_y v_X_cover_startX v_X_cover_startY c_X_drawing_kinds c_X_drawing_numbers c_X_cover_squares c_X_cover_changes c_X_written_characters c_X_given v_X_reader_at v_X_reader_wrong v_X_reader_moveIsDue v_X_reader_pen_x v_X_reader_pen_y v_X_reader_pen_startX v_X_reader_pen_startY v_X_reader_pen_controlX v_X_reader_pen_controlY v_X_reader_pen_controlFor v_X_reader_pen_matrices_depth c_X_reader_pen_matrices_rows c_X_text_characters_140 c_X_reader_numbers c_X_reader_pen_points c_X_reader_pen_drawn v_X_spare_count c_X_spare_numbers c_X_spare_kinds v_Y_fault_168 v_Y_size_168 v_Y_commands v_Y_drawn v_Y_depth v_Y_at v_Y_value v_Y_wrong v_Y_wantsMove v_Y_x v_Y_y v_Y_startX v_Y_startY v_Y_before v_Y_turnX v_Y_turnY v_Y_written v_Y_edges v_Y_wide v_Y_high v_Y_behind v_Y_whole c_Y_kinds c_Y_fromX c_Y_fromY c_Y_toX c_Y_toY c_Y_numbers c_Y_points c_Y_signs c_Y_matrix c_Y_text_168 c_Y_given c_Y_drawnNumbers c_Y_drawnKinds c_out_140
          else
            some ((0 : Int32), v_X_text_length_140, v_X_written_length, v_X_drawing_count, v_X_cover_width, v_X_cover_height, v_X_cover_top, v_X_cover_x, v_X_cover_y, v_X_cover_startX, v_X_cover_startY, c_X_drawing_kinds, c_X_drawing_numbers, c_X_cover_squares, c_X_cover_changes, c_X_written_characters, c_X_given, v_X_reader_at, v_X_reader_wrong, v_X_reader_moveIsDue, v_X_reader_pen_x, v_X_reader_pen_y, v_X_reader_pen_startX, v_X_reader_pen_startY, v_X_reader_pen_controlX, v_X_reader_pen_controlY, v_X_reader_pen_controlFor, v_X_reader_pen_matrices_depth, c_X_reader_pen_matrices_rows, c_X_text_characters_140, c_X_reader_numbers, c_X_reader_pen_points, c_X_reader_pen_drawn, v_X_spare_count, c_X_spare_numbers, c_X_spare_kinds, v_Y_fault_168, v_Y_size_168, v_Y_commands, v_Y_drawn, v_Y_depth, v_Y_at, v_Y_value, v_Y_wrong, v_Y_wantsMove, v_Y_x, v_Y_y, v_Y_startX, v_Y_startY, v_Y_before, v_Y_turnX, v_Y_turnY, v_Y_written, v_Y_edges, v_Y_wide, v_Y_high, v_Y_behind, v_Y_whole, c_Y_kinds, c_Y_fromX, c_Y_fromY, c_Y_toX, c_Y_toY, c_Y_numbers, c_Y_points, c_Y_signs, c_Y_matrix, c_Y_text_168, c_Y_given, c_Y_drawnNumbers, c_Y_drawnKinds, c_out_140)))))
      else if ((sX (x4).toNatClampNeg) &&& (15 : Int32)) = (1 : Int32) then
        kb23 (xP_read N v_X_reader_wrong v_X_reader_pen_startX v_X_reader_pen_startY v_X_reader_pen_controlX v_X_reader_pen_controlY c_X_reader_pen_matrices_rows v_X_text_length c_X_text_characters c_X_reader_numbers c_X_reader_pen_points c_X_reader_pen_drawn c_X_spare_numbers c_X_spare_kinds v_X_drawing_count c_X_drawing_kinds c_X_drawing_numbers) fun r205 v_X_reader_at_205 v_X_reader_wrong_205 v_X_reader_moveIsDue_205 v_X_reader_pen_x_205 v_X_reader_pen_y_205 v_X_reader_pen_startX_205 v_X_reader_pen_startY_205 v_X_reader_pen_controlX_205 v_X_reader_pen_controlY_205 v_X_reader_pen_controlFor_205 v_X_reader_pen_matrices_depth_205 c_X_reader_pen_matrices_rows_205 v_X_text_length_205 c_X_reader_numbers_205 c_X_reader_pen_points_205 c_X_reader_pen_drawn_205 v_X_spare_count_205 c_X_spare_numbers_205 c_X_spare_kinds_205 v_X_drawing_count_205 c_X_drawing_kinds_205 c_X_drawing_numbers_205 =>
          kb25 (m_read N v_Y_size v_Y_commands v_Y_value v_Y_turnX v_Y_turnY v_Y_behind v_Y_whole c_Y_matrix c_Y_text c_Y_given c_Y_drawnNumbers c_Y_drawnKinds c_Y_kinds c_Y_numbers) fun r209 v_Y_fault_209 v_Y_size_209 v_Y_commands_209 v_Y_drawn_209 v_Y_depth_209 v_Y_at_209 v_Y_value_209 v_Y_wrong_209 v_Y_wantsMove_209 v_Y_x_209 v_Y_y_209 v_Y_startX_209 v_Y_startY_209 v_Y_before_209 v_Y_turnX_209 v_Y_turnY_209 v_Y_behind_209 v_Y_whole_209 c_Y_matrix_209 c_Y_given_209 c_Y_drawnNumbers_209 c_Y_drawnKinds_209 c_Y_kinds_209 c_Y_numbers_209 =>
          if r205 = r209 then
            k23 (x4 + (7 : Int32)) v_X_text_length_205 v_X_written_length v_X_drawing_count_205 v_X_cover_width v_X_cover_height v_X_cover_top v_X_cover_x v_X_cover_y v_X_cover_startX v_X_cover_startY c_X_drawing_kinds_205 c_X_drawing_numbers_205 c_X_cover_squares c_X_cover_changes c_X_written_characters c_X_given v_X_reader_at_205 v_X_reader_wrong_205 v_X_reader_moveIsDue_205 v_X_reader_pen_x_205 v_X_reader_pen_y_205 v_X_reader_pen_startX_205 v_X_reader_pen_startY_205 v_X_reader_pen_controlX_205 v_X_reader_pen_controlY_205 v_X_reader_pen_controlFor_205 v_X_reader_pen_matrices_depth_205 c_X_reader_pen_matrices_rows_205 c_X_text_characters c_X_reader_numbers_205 c_X_reader_pen_points_205 c_X_reader_pen_drawn_205 v_X_spare_count_205 c_X_spare_numbers_205 c_X_spare_kinds_205 v_Y_fault_209 v_Y_size_209 v_Y_commands_209 v_Y_drawn_209 v_Y_depth_209 v_Y_at_209 v_Y_value_209 v_Y_wrong_209 v_Y_wantsMove_209 v_Y_x_209 v_Y_y_209 v_Y_startX_209 v_Y_startY_209 v_Y_before_209 v_Y_turnX_209 v_Y_turnY_209 v_Y_written v_Y_edges v_Y_wide v_Y_high v_Y_behind_209 v_Y_whole_209 c_Y_kinds_209 c_Y_fromX c_Y_fromY c_Y_toX c_Y_toY c_Y_numbers_209 c_Y_points c_Y_signs c_Y_matrix_209 c_Y_text c_Y_given_209 c_Y_drawnNumbers_209 c_Y_drawnKinds_209 c_out
          else
            some ((0 : Int32), v_X_text_length_205, v_X_written_length, v_X_drawing_count_205, v_X_cover_width, v_X_cover_height, v_X_cover_top, v_X_cover_x, v_X_cover_y, v_X_cover_startX, v_X_cover_startY, c_X_drawing_kinds_205, c_X_drawing_numbers_205, c_X_cover_squares, c_X_cover_changes, c_X_written_characters, c_X_given, v_X_reader_at_205, v_X_reader_wrong_205, v_X_reader_moveIsDue_205, v_X_reader_pen_x_205, v_X_reader_pen_y_205, v_X_reader_pen_startX_205, v_X_reader_pen_startY_205, v_X_reader_pen_controlX_205, v_X_reader_pen_controlY_205, v_X_reader_pen_controlFor_205, v_X_reader_pen_matrices_depth_205, c_X_reader_pen_matrices_rows_205, c_X_text_characters, c_X_reader_numbers_205, c_X_reader_pen_points_205, c_X_reader_pen_drawn_205, v_X_spare_count_205, c_X_spare_numbers_205, c_X_spare_kinds_205, v_Y_fault_209, v_Y_size_209, v_Y_commands_209, v_Y_drawn_209, v_Y_depth_209, v_Y_at_209, v_Y_value_209, v_Y_wrong_209, v_Y_wantsMove_209, v_Y_x_209, v_Y_y_209, v_Y_startX_209, v_Y_startY_209, v_Y_before_209, v_Y_turnX_209, v_Y_turnY_209, v_Y_written, v_Y_edges, v_Y_wide, v_Y_high, v_Y_behind_209, v_Y_whole_209, c_Y_kinds_209, c_Y_fromX, c_Y_fromY, c_Y_toX, c_Y_toY, c_Y_numbers_209, c_Y_points, c_Y_signs, c_Y_matrix_209, c_Y_text, c_Y_given_209, c_Y_drawnNumbers_209, c_Y_drawnKinds_209, c_out)
      else if ((sX (x4).toNatClampNeg) &&& (15 : Int32)) = (2 : Int32) then
        kg (ki (x4 + (1 : Int32)) sL) (
          kg (ki (x4 + (2 : Int32)) sL) (
          kb6 (lPLaw_move N (sX ((x4 + (1 : Int32))).toNatClampNeg) (sX ((x4 + (2 : Int32))).toNatClampNeg) c_X_given v_X_drawing_count c_X_drawing_numbers c_X_drawing_kinds c_out) fun r231 c_X_given_231 v_X_drawing_count_231 c_X_drawing_numbers_231 c_X_drawing_kinds_231 c_out_231 =>
          kg (ki (x4 + (1 : Int32)) sL) (
          kg (ki (x4 + (2 : Int32)) sL) (
          kb5 (m_move (sX ((x4 + (1 : Int32))).toNatClampNeg) (sX ((x4 + (2 : Int32))).toNatClampNeg) v_Y_commands c_Y_numbers c_Y_kinds) fun r249 v_Y_fault_249 v_Y_commands_249 c_Y_numbers_249 c_Y_kinds_249 =>
          kb1 (m_thrown v_Y_fault_249) fun r255 =>
          if r255 = r231 then
            if r231 = (0 : Int32) then
                if (c_out_231 ((0 : Int32)).toNatClampNeg) = (Int32.toInt64 r249) then
                    k23 (x4 + (7 : Int32)) v_X_text_length v_X_written_length v_X_drawing_count_231 v_X_cover_width v_X_cover_height v_X_cover_top v_X_cover_x v_X_cover_y v_X_cover_startX v_X_cover_startY c_X_drawing_kinds_231 c_X_drawing_numbers_231 c_X_cover_squares c_X_cover_changes c_X_written_characters c_X_given_231 v_X_reader_at v_X_reader_wrong v_X_reader_moveIsDue v_X_reader_pen_x v_X_reader_pen_y v_X_reader_pen_startX v_X_reader_pen_startY v_X_reader_pen_controlX v_X_reader_pen_controlY v_X_reader_pen_controlFor v_X_reader_pen_matrices_depth c_X_reader_pen_matrices_rows c_X_text_characters c_X_reader_numbers c_X_reader_pen_points c_X_reader_pen_drawn v_X_spare_count c_X_spare_numbers c_X_spare_kinds v_Y_fault_249 v_Y_size v_Y_commands_249 v_Y_drawn v_Y_depth v_Y_at v_Y_value v_Y_wrong v_Y_wantsMove v_Y_x v_Y_y v_Y_startX v_Y_startY v_Y_before v_Y_turnX v_Y_turnY v_Y_written v_Y_edges v_Y_wide v_Y_high v_Y_behind v_Y_whole c_Y_kinds_249 c_Y_fromX c_Y_fromY c_Y_toX c_Y_toY c_Y_numbers_249 c_Y_points c_Y_signs c_Y_matrix c_Y_text c_Y_given c_Y_drawnNumbers c_Y_drawnKinds c_out_231
                  else
                    some ((0 : Int32), v_X_text_length, v_X_written_length, v_X_drawing_count_231, v_X_cover_width, v_X_cover_height, v_X_cover_top, v_X_cover_x, v_X_cover_y, v_X_cover_startX, v_X_cover_startY, c_X_drawing_kinds_231, c_X_drawing_numbers_231, c_X_cover_squares, c_X_cover_changes, c_X_written_characters, c_X_given_231, v_X_reader_at, v_X_reader_wrong, v_X_reader_moveIsDue, v_X_reader_pen_x, v_X_reader_pen_y, v_X_reader_pen_startX, v_X_reader_pen_startY, v_X_reader_pen_controlX, v_X_reader_pen_controlY, v_X_reader_pen_controlFor, v_X_reader_pen_matrices_depth, c_X_reader_pen_matrices_rows, c_X_text_characters, c_X_reader_numbers, c_X_reader_pen_points, c_X_reader_pen_drawn, v_X_spare_count, c_X_spare_numbers, c_X_spare_kinds, v_Y_fault_249, v_Y_size, v_Y_commands_249, v_Y_drawn, v_Y_depth, v_Y_at, v_Y_value, v_Y_wrong, v_Y_wantsMove, v_Y_x, v_Y_y, v_Y_startX, v_Y_startY, v_Y_before, v_Y_turnX, v_Y_turnY, v_Y_written, v_Y_edges, v_Y_wide, v_Y_high, v_Y_behind, v_Y_whole, c_Y_kinds_249, c_Y_fromX, c_Y_fromY, c_Y_toX, c_Y_toY, c_Y_numbers_249, c_Y_points, c_Y_signs, c_Y_matrix, c_Y_text, c_Y_given, c_Y_drawnNumbers, c_Y_drawnKinds, c_out_231)
              else
                k23 (x4 + (7 : Int32)) v_X_text_length v_X_written_length v_X_drawing_count_231 v_X_cover_width v_X_cover_height v_X_cover_top v_X_cover_x v_X_cover_y v_X_cover_startX v_X_cover_startY c_X_drawing_kinds_231 c_X_drawing_numbers_231 c_X_cover_squares c_X_cover_changes c_X_written_characters c_X_given_231 v_X_reader_at v_X_reader_wrong v_X_reader_moveIsDue v_X_reader_pen_x v_X_reader_pen_y v_X_reader_pen_startX v_X_reader_pen_startY v_X_reader_pen_controlX v_X_reader_pen_controlY v_X_reader_pen_controlFor v_X_reader_pen_matrices_depth c_X_reader_pen_matrices_rows c_X_text_characters c_X_reader_numbers c_X_reader_pen_points c_X_reader_pen_drawn v_X_spare_count c_X_spare_numbers c_X_spare_kinds v_Y_fault_249 v_Y_size v_Y_commands_249 v_Y_drawn v_Y_depth v_Y_at v_Y_value v_Y_wrong v_Y_wantsMove v_Y_x v_Y_y v_Y_startX v_Y_startY v_Y_before v_Y_turnX v_Y_turnY v_Y_written v_Y_edges v_Y_wide v_Y_high v_Y_behind v_Y_whole c_Y_kinds_249 c_Y_fromX c_Y_fromY c_Y_toX c_Y_toY c_Y_numbers_249 c_Y_points c_Y_signs c_Y_matrix c_Y_text c_Y_given c_Y_drawnNumbers c_Y_drawnKinds c_out_231
          else
            some ((0 : Int32), v_X_text_length, v_X_written_length, v_X_drawing_count_231, v_X_cover_width, v_X_cover_height, v_X_cover_top, v_X_cover_x, v_X_cover_y, v_X_cover_startX, v_X_cover_startY, c_X_drawing_kinds_231, c_X_drawing_numbers_231, c_X_cover_squares, c_X_cover_changes, c_X_written_characters, c_X_given_231, v_X_reader_at, v_X_reader_wrong, v_X_reader_moveIsDue, v_X_reader_pen_x, v_X_reader_pen_y, v_X_reader_pen_startX, v_X_reader_pen_startY, v_X_reader_pen_controlX, v_X_reader_pen_controlY, v_X_reader_pen_controlFor, v_X_reader_pen_matrices_depth, c_X_reader_pen_matrices_rows, c_X_text_characters, c_X_reader_numbers, c_X_reader_pen_points, c_X_reader_pen_drawn, v_X_spare_count, c_X_spare_numbers, c_X_spare_kinds, v_Y_fault_249, v_Y_size, v_Y_commands_249, v_Y_drawn, v_Y_depth, v_Y_at, v_Y_value, v_Y_wrong, v_Y_wantsMove, v_Y_x, v_Y_y, v_Y_startX, v_Y_startY, v_Y_before, v_Y_turnX, v_Y_turnY, v_Y_written, v_Y_edges, v_Y_wide, v_Y_high, v_Y_behind, v_Y_whole, c_Y_kinds_249, c_Y_fromX, c_Y_fromY, c_Y_toX, c_Y_toY, c_Y_numbers_249, c_Y_points, c_Y_signs, c_Y_matrix, c_Y_text, c_Y_given, c_Y_drawnNumbers, c_Y_drawnKinds, c_out_231)))))
      else if ((sX (x4).toNatClampNeg) &&& (15 : Int32)) = (3 : Int32) then
        kg (ki (x4 + (1 : Int32)) sL) (
          kg (ki (x4 + (2 : Int32)) sL) (
          kb6 (lPLaw_line N (sX ((x4 + (1 : Int32))).toNatClampNeg) (sX ((x4 + (2 : Int32))).toNatClampNeg) c_X_given v_X_drawing_count c_X_drawing_numbers c_X_drawing_kinds c_out) fun r299 c_X_given_299 v_X_drawing_count_299 c_X_drawing_numbers_299 c_X_drawing_kinds_299 c_out_299 =>
          kg (ki (x4 + (1 : Int32)) sL) (
          kg (ki (x4 + (2 : Int32)) sL) (
          kb5 (m_line N (sX ((x4 + (1 : Int32))).toNatClampNeg) (sX ((x4 + (2 : Int32))).toNatClampNeg) v_Y_commands c_Y_kinds c_Y_numbers) fun r317 v_Y_fault_317 v_Y_commands_317 c_Y_kinds_317 c_Y_numbers_317 =>
          kb1 (m_thrown v_Y_fault_317) fun r323 =>
          if r323 = r299 then
            if r299 = (0 : Int32) then
                if (c_out_299 ((0 : Int32)).toNatClampNeg) = (Int32.toInt64 r317) then
                    k23 (x4 + (7 : Int32)) v_X_text_length v_X_written_length v_X_drawing_count_299 v_X_cover_width v_X_cover_height v_X_cover_top v_X_cover_x v_X_cover_y v_X_cover_startX v_X_cover_startY c_X_drawing_kinds_299 c_X_drawing_numbers_299 c_X_cover_squares c_X_cover_changes c_X_written_characters c_X_given_299 v_X_reader_at v_X_reader_wrong v_X_reader_moveIsDue v_X_reader_pen_x v_X_reader_pen_y v_X_reader_pen_startX v_X_reader_pen_startY v_X_reader_pen_controlX v_X_reader_pen_controlY v_X_reader_pen_controlFor v_X_reader_pen_matrices_depth c_X_reader_pen_matrices_rows c_X_text_characters c_X_reader_numbers c_X_reader_pen_points c_X_reader_pen_drawn v_X_spare_count c_X_spare_numbers c_X_spare_kinds v_Y_fault_317 v_Y_size v_Y_commands_317 v_Y_drawn v_Y_depth v_Y_at v_Y_value v_Y_wrong v_Y_wantsMove v_Y_x v_Y_y v_Y_startX v_Y_startY v_Y_before v_Y_turnX v_Y_turnY v_Y_written v_Y_edges v_Y_wide v_Y_high v_Y_behind v_Y_whole c_Y_kinds_317 c_Y_fromX c_Y_fromY c_Y_toX c_Y_toY c_Y_numbers_317 c_Y_points c_Y_signs c_Y_matrix c_Y_text c_Y_given c_Y_drawnNumbers c_Y_drawnKinds c_out_299
                  else
                    some ((0 : Int32), v_X_text_length, v_X_written_length, v_X_drawing_count_299, v_X_cover_width, v_X_cover_height, v_X_cover_top, v_X_cover_x, v_X_cover_y, v_X_cover_startX, v_X_cover_startY, c_X_drawing_kinds_299, c_X_drawing_numbers_299, c_X_cover_squares, c_X_cover_changes, c_X_written_characters, c_X_given_299, v_X_reader_at, v_X_reader_wrong, v_X_reader_moveIsDue, v_X_reader_pen_x, v_X_reader_pen_y, v_X_reader_pen_startX, v_X_reader_pen_startY, v_X_reader_pen_controlX, v_X_reader_pen_controlY, v_X_reader_pen_controlFor, v_X_reader_pen_matrices_depth, c_X_reader_pen_matrices_rows, c_X_text_characters, c_X_reader_numbers, c_X_reader_pen_points, c_X_reader_pen_drawn, v_X_spare_count, c_X_spare_numbers, c_X_spare_kinds, v_Y_fault_317, v_Y_size, v_Y_commands_317, v_Y_drawn, v_Y_depth, v_Y_at, v_Y_value, v_Y_wrong, v_Y_wantsMove, v_Y_x, v_Y_y, v_Y_startX, v_Y_startY, v_Y_before, v_Y_turnX, v_Y_turnY, v_Y_written, v_Y_edges, v_Y_wide, v_Y_high, v_Y_behind, v_Y_whole, c_Y_kinds_317, c_Y_fromX, c_Y_fromY, c_Y_toX, c_Y_toY, c_Y_numbers_317, c_Y_points, c_Y_signs, c_Y_matrix, c_Y_text, c_Y_given, c_Y_drawnNumbers, c_Y_drawnKinds, c_out_299)
              else
                k23 (x4 + (7 : Int32)) v_X_text_length v_X_written_length v_X_drawing_count_299 v_X_cover_width v_X_cover_height v_X_cover_top v_X_cover_x v_X_cover_y v_X_cover_startX v_X_cover_startY c_X_drawing_kinds_299 c_X_drawing_numbers_299 c_X_cover_squares c_X_cover_changes c_X_written_characters c_X_given_299 v_X_reader_at v_X_reader_wrong v_X_reader_moveIsDue v_X_reader_pen_x v_X_reader_pen_y v_X_reader_pen_startX v_X_reader_pen_startY v_X_reader_pen_controlX v_X_reader_pen_controlY v_X_reader_pen_controlFor v_X_reader_pen_matrices_depth c_X_reader_pen_matrices_rows c_X_text_characters c_X_reader_numbers c_X_reader_pen_points c_X_reader_pen_drawn v_X_spare_count c_X_spare_numbers c_X_spare_kinds v_Y_fault_317 v_Y_size v_Y_commands_317 v_Y_drawn v_Y_depth v_Y_at v_Y_value v_Y_wrong v_Y_wantsMove v_Y_x v_Y_y v_Y_startX v_Y_startY v_Y_before v_Y_turnX v_Y_turnY v_Y_written v_Y_edges v_Y_wide v_Y_high v_Y_behind v_Y_whole c_Y_kinds_317 c_Y_fromX c_Y_fromY c_Y_toX c_Y_toY c_Y_numbers_317 c_Y_points c_Y_signs c_Y_matrix c_Y_text c_Y_given c_Y_drawnNumbers c_Y_drawnKinds c_out_299
          else
            some ((0 : Int32), v_X_text_length, v_X_written_length, v_X_drawing_count_299, v_X_cover_width, v_X_cover_height, v_X_cover_top, v_X_cover_x, v_X_cover_y, v_X_cover_startX, v_X_cover_startY, c_X_drawing_kinds_299, c_X_drawing_numbers_299, c_X_cover_squares, c_X_cover_changes, c_X_written_characters, c_X_given_299, v_X_reader_at, v_X_reader_wrong, v_X_reader_moveIsDue, v_X_reader_pen_x, v_X_reader_pen_y, v_X_reader_pen_startX, v_X_reader_pen_startY, v_X_reader_pen_controlX, v_X_reader_pen_controlY, v_X_reader_pen_controlFor, v_X_reader_pen_matrices_depth, c_X_reader_pen_matrices_rows, c_X_text_characters, c_X_reader_numbers, c_X_reader_pen_points, c_X_reader_pen_drawn, v_X_spare_count, c_X_spare_numbers, c_X_spare_kinds, v_Y_fault_317, v_Y_size, v_Y_commands_317, v_Y_drawn, v_Y_depth, v_Y_at, v_Y_value, v_Y_wrong, v_Y_wantsMove, v_Y_x, v_Y_y, v_Y_startX, v_Y_startY, v_Y_before, v_Y_turnX, v_Y_turnY, v_Y_written, v_Y_edges, v_Y_wide, v_Y_high, v_Y_behind, v_Y_whole, c_Y_kinds_317, c_Y_fromX, c_Y_fromY, c_Y_toX, c_Y_toY, c_Y_numbers_317, c_Y_points, c_Y_signs, c_Y_matrix, c_Y_text, c_Y_given, c_Y_drawnNumbers, c_Y_drawnKinds, c_out_299)))))
      else if ((sX (x4).toNatClampNeg) &&& (15 : Int32)) = (4 : Int32) then
        kg (ki (x4 + (1 : Int32)) sL) (
          kg (ki (x4 + (2 : Int32)) sL) (
          kg (ki (x4 + (3 : Int32)) sL) (
          kg (ki (x4 + (4 : Int32)) sL) (
          kg (ki (x4 + (5 : Int32)) sL) (
          kg (ki (x4 + (6 : Int32)) sL) (
          kb6 (lPLaw_cubic N (sX ((x4 + (1 : Int32))).toNatClampNeg) (sX ((x4 + (2 : Int32))).toNatClampNeg) (sX ((x4 + (3 : Int32))).toNatClampNeg) (sX ((x4 + (4 : Int32))).toNatClampNeg) (sX ((x4 + (5 : Int32))).toNatClampNeg) (sX ((x4 + (6 : Int32))).toNatClampNeg) c_X_given v_X_drawing_count c_X_drawing_numbers c_X_drawing_kinds c_out) fun r392 c_X_given_392 v_X_drawing_count_392 c_X_drawing_numbers_392 c_X_drawing_kinds_392 c_out_392 =>
          kg (ki (x4 + (1 : Int32)) sL) (
          kg (ki (x4 + (2 : Int32)) sL) (
          kg (ki (x4 + (3 : Int32)) sL) (
          kg (ki (x4 + (4 : Int32)) sL) (
          kg (ki (x4 + (5 : Int32)) sL) (
          kg (ki (x4 + (6 : Int32)) sL) (
          kb5 (m_cubic N (sX ((x4 + (1 : Int32))).toNatClampNeg) (sX ((x4 + (2 : Int32))).toNatClampNeg) (sX ((x4 + (3 : Int32))).toNatClampNeg) (sX ((x4 + (4 : Int32))).toNatClampNeg) (sX ((x4 + (5 : Int32))).toNatClampNeg) (sX ((x4 + (6 : Int32))).toNatClampNeg) v_Y_commands c_Y_numbers c_Y_kinds) fun r435 v_Y_fault_435 v_Y_commands_435 c_Y_numbers_435 c_Y_kinds_435 =>
          kb1 (m_thrown v_Y_fault_435) fun r441 =>
          if r441 = r392 then
            if r392 = (0 : Int32) then
                if (c_out_392 ((0 : Int32)).toNatClampNeg) = (Int32.toInt64 r435) then
                    k23 (x4 + (7 : Int32)) v_X_text_length v_X_written_length v_X_drawing_count_392 v_X_cover_width v_X_cover_height v_X_cover_top v_X_cover_x v_X_cover_y v_X_cover_startX v_X_cover_startY c_X_drawing_kinds_392 c_X_drawing_numbers_392 c_X_cover_squares c_X_cover_changes c_X_written_characters c_X_given_392 v_X_reader_at v_X_reader_wrong v_X_reader_moveIsDue v_X_reader_pen_x v_X_reader_pen_y v_X_reader_pen_startX v_X_reader_pen_startY v_X_reader_pen_controlX v_X_reader_pen_controlY v_X_reader_pen_controlFor v_X_reader_pen_matrices_depth c_X_reader_pen_matrices_rows c_X_text_characters c_X_reader_numbers c_X_reader_pen_points c_X_reader_pen_drawn v_X_spare_count c_X_spare_numbers c_X_spare_kinds v_Y_fault_435 v_Y_size v_Y_commands_435 v_Y_drawn v_Y_depth v_Y_at v_Y_value v_Y_wrong v_Y_wantsMove v_Y_x v_Y_y v_Y_startX v_Y_startY v_Y_before v_Y_turnX v_Y_turnY v_Y_written v_Y_edges v_Y_wide v_Y_high v_Y_behind v_Y_whole c_Y_kinds_435 c_Y_fromX c_Y_fromY c_Y_toX c_Y_toY c_Y_numbers_435 c_Y_points c_Y_signs c_Y_matrix c_Y_text c_Y_given c_Y_drawnNumbers c_Y_drawnKinds c_out_392
                  else
                    some ((0 : Int32), v_X_text_length, v_X_written_length, v_X_drawing_count_392, v_X_cover_width, v_X_cover_height, v_X_cover_top, v_X_cover_x, v_X_cover_y, v_X_cover_startX, v_X_cover_startY, c_X_drawing_kinds_392, c_X_drawing_numbers_392, c_X_cover_squares, c_X_cover_changes, c_X_written_characters, c_X_given_392, v_X_reader_at, v_X_reader_wrong, v_X_reader_moveIsDue, v_X_reader_pen_x, v_X_reader_pen_y, v_X_reader_pen_startX, v_X_reader_pen_startY, v_X_reader_pen_controlX, v_X_reader_pen_controlY, v_X_reader_pen_controlFor, v_X_reader_pen_matrices_depth, c_X_reader_pen_matrices_rows, c_X_text_characters, c_X_reader_numbers, c_X_reader_pen_points, c_X_reader_pen_drawn, v_X_spare_count, c_X_spare_numbers, c_X_spare_kinds, v_Y_fault_435, v_Y_size, v_Y_commands_435, v_Y_drawn, v_Y_depth, v_Y_at, v_Y_value, v_Y_wrong, v_Y_wantsMove, v_Y_x, v_Y_y, v_Y_startX, v_Y_startY, v_Y_before, v_Y_turnX, v_Y_turnY, v_Y_written, v_Y_edges, v_Y_wide, v_Y_high, v_Y_behind, v_Y_whole, c_Y_kinds_435, c_Y_fromX, c_Y_fromY, c_Y_toX, c_Y_toY, c_Y_numbers_435, c_Y_points, c_Y_signs, c_Y_matrix, c_Y_text, c_Y_given, c_Y_drawnNumbers, c_Y_drawnKinds, c_out_392)
              else
                k23 (x4 + (7 : Int32)) v_X_text_length v_X_written_length v_X_drawing_count_392 v_X_cover_width v_X_cover_height v_X_cover_top v_X_cover_x v_X_cover_y v_X_cover_startX v_X_cover_startY c_X_drawing_kinds_392 c_X_drawing_numbers_392 c_X_cover_squares c_X_cover_changes c_X_written_characters c_X_given_392 v_X_reader_at v_X_reader_wrong v_X_reader_moveIsDue v_X_reader_pen_x v_X_reader_pen_y v_X_reader_pen_startX v_X_reader_pen_startY v_X_reader_pen_controlX v_X_reader_pen_controlY v_X_reader_pen_controlFor v_X_reader_pen_matrices_depth c_X_reader_pen_matrices_rows c_X_text_characters c_X_reader_numbers c_X_reader_pen_points c_X_reader_pen_drawn v_X_spare_count c_X_spare_numbers c_X_spare_kinds v_Y_fault_435 v_Y_size v_Y_commands_435 v_Y_drawn v_Y_depth v_Y_at v_Y_value v_Y_wrong v_Y_wantsMove v_Y_x v_Y_y v_Y_startX v_Y_startY v_Y_before v_Y_turnX v_Y_turnY v_Y_written v_Y_edges v_Y_wide v_Y_high v_Y_behind v_Y_whole c_Y_kinds_435 c_Y_fromX c_Y_fromY c_Y_toX c_Y_toY c_Y_numbers_435 c_Y_points c_Y_signs c_Y_matrix c_Y_text c_Y_given c_Y_drawnNumbers c_Y_drawnKinds c_out_392
          else
            some ((0 : Int32), v_X_text_length, v_X_written_length, v_X_drawing_count_392, v_X_cover_width, v_X_cover_height, v_X_cover_top, v_X_cover_x, v_X_cover_y, v_X_cover_startX, v_X_cover_startY, c_X_drawing_kinds_392, c_X_drawing_numbers_392, c_X_cover_squares, c_X_cover_changes, c_X_written_characters, c_X_given_392, v_X_reader_at, v_X_reader_wrong, v_X_reader_moveIsDue, v_X_reader_pen_x, v_X_reader_pen_y, v_X_reader_pen_startX, v_X_reader_pen_startY, v_X_reader_pen_controlX, v_X_reader_pen_controlY, v_X_reader_pen_controlFor, v_X_reader_pen_matrices_depth, c_X_reader_pen_matrices_rows, c_X_text_characters, c_X_reader_numbers, c_X_reader_pen_points, c_X_reader_pen_drawn, v_X_spare_count, c_X_spare_numbers, c_X_spare_kinds, v_Y_fault_435, v_Y_size, v_Y_commands_435, v_Y_drawn, v_Y_depth, v_Y_at, v_Y_value, v_Y_wrong, v_Y_wantsMove, v_Y_x, v_Y_y, v_Y_startX, v_Y_startY, v_Y_before, v_Y_turnX, v_Y_turnY, v_Y_written, v_Y_edges, v_Y_wide, v_Y_high, v_Y_behind, v_Y_whole, c_Y_kinds_435, c_Y_fromX, c_Y_fromY, c_Y_toX, c_Y_toY, c_Y_numbers_435, c_Y_points, c_Y_signs, c_Y_matrix, c_Y_text, c_Y_given, c_Y_drawnNumbers, c_Y_drawnKinds, c_out_392)))))))))))))
      else if ((sX (x4).toNatClampNeg) &&& (15 : Int32)) = (5 : Int32) then
        kb5 (lPLaw_close N c_X_given v_X_drawing_count c_X_drawing_numbers c_X_drawing_kinds c_out) fun r473 v_X_drawing_count_473 c_X_drawing_numbers_473 c_X_drawing_kinds_473 c_out_473 =>
          kb4 (m_close N v_Y_commands c_Y_kinds) fun r479 v_Y_fault_479 v_Y_commands_479 c_Y_kinds_479 =>
          kb1 (m_thrown v_Y_fault_479) fun r485 =>
          if r485 = r473 then
            if r473 = (0 : Int32) then
                if (c_out_473 ((0 : Int32)).toNatClampNeg) = (Int32.toInt64 r479) then
                    k23 (x4 + (7 : Int32)) v_X_text_length v_X_written_length v_X_drawing_count_473 v_X_cover_width v_X_cover_height v_X_cover_top v_X_cover_x v_X_cover_y v_X_cover_startX v_X_cover_startY c_X_drawing_kinds_473 c_X_drawing_numbers_473 c_X_cover_squares c_X_cover_changes c_X_written_characters c_X_given v_X_reader_at v_X_reader_wrong v_X_reader_moveIsDue v_X_reader_pen_x v_X_reader_pen_y v_X_reader_pen_startX v_X_reader_pen_startY v_X_reader_pen_controlX v_X_reader_pen_controlY v_X_reader_pen_controlFor v_X_reader_pen_matrices_depth c_X_reader_pen_matrices_rows c_X_text_characters c_X_reader_numbers c_X_reader_pen_points c_X_reader_pen_drawn v_X_spare_count c_X_spare_numbers c_X_spare_kinds v_Y_fault_479 v_Y_size v_Y_commands_479 v_Y_drawn v_Y_depth v_Y_at v_Y_value v_Y_wrong v_Y_wantsMove v_Y_x v_Y_y v_Y_startX v_Y_startY v_Y_before v_Y_turnX v_Y_turnY v_Y_written v_Y_edges v_Y_wide v_Y_high v_Y_behind v_Y_whole c_Y_kinds_479 c_Y_fromX c_Y_fromY c_Y_toX c_Y_toY c_Y_numbers c_Y_points c_Y_signs c_Y_matrix c_Y_text c_Y_given c_Y_drawnNumbers c_Y_drawnKinds c_out_473
                  else
                    some ((0 : Int32), v_X_text_length, v_X_written_length, v_X_drawing_count_473, v_X_cover_width, v_X_cover_height, v_X_cover_top, v_X_cover_x, v_X_cover_y, v_X_cover_startX, v_X_cover_startY, c_X_drawing_kinds_473, c_X_drawing_numbers_473, c_X_cover_squares, c_X_cover_changes, c_X_written_characters, c_X_given, v_X_reader_at, v_X_reader_wrong, v_X_reader_moveIsDue, v_X_reader_pen_x, v_X_reader_pen_y, v_X_reader_pen_startX, v_X_reader_pen_startY, v_X_reader_pen_controlX, v_X_reader_pen_controlY, v_X_reader_pen_controlFor, v_X_reader_pen_matrices_depth, c_X_reader_pen_matrices_rows, c_X_text_characters, c_X_reader_numbers, c_X_reader_pen_points, c_X_reader_pen_drawn, v_X_spare_count, c_X_spare_numbers, c_X_spare_kinds, v_Y_fault_479, v_Y_size, v_Y_commands_479, v_Y_drawn, v_Y_depth, v_Y_at, v_Y_value, v_Y_wrong, v_Y_wantsMove, v_Y_x, v_Y_y, v_Y_startX, v_Y_startY, v_Y_before, v_Y_turnX, v_Y_turnY, v_Y_written, v_Y_edges, v_Y_wide, v_Y_high, v_Y_behind, v_Y_whole, c_Y_kinds_479, c_Y_fromX, c_Y_fromY, c_Y_toX, c_Y_toY, c_Y_numbers, c_Y_points, c_Y_signs, c_Y_matrix, c_Y_text, c_Y_given, c_Y_drawnNumbers, c_Y_drawnKinds, c_out_473)
              else
                k23 (x4 + (7 : Int32)) v_X_text_length v_X_written_length v_X_drawing_count_473 v_X_cover_width v_X_cover_height v_X_cover_top v_X_cover_x v_X_cover_y v_X_cover_startX v_X_cover_startY c_X_drawing_kinds_473 c_X_drawing_numbers_473 c_X_cover_squares c_X_cover_changes c_X_written_characters c_X_given v_X_reader_at v_X_reader_wrong v_X_reader_moveIsDue v_X_reader_pen_x v_X_reader_pen_y v_X_reader_pen_startX v_X_reader_pen_startY v_X_reader_pen_controlX v_X_reader_pen_controlY v_X_reader_pen_controlFor v_X_reader_pen_matrices_depth c_X_reader_pen_matrices_rows c_X_text_characters c_X_reader_numbers c_X_reader_pen_points c_X_reader_pen_drawn v_X_spare_count c_X_spare_numbers c_X_spare_kinds v_Y_fault_479 v_Y_size v_Y_commands_479 v_Y_drawn v_Y_depth v_Y_at v_Y_value v_Y_wrong v_Y_wantsMove v_Y_x v_Y_y v_Y_startX v_Y_startY v_Y_before v_Y_turnX v_Y_turnY v_Y_written v_Y_edges v_Y_wide v_Y_high v_Y_behind v_Y_whole c_Y_kinds_479 c_Y_fromX c_Y_fromY c_Y_toX c_Y_toY c_Y_numbers c_Y_points c_Y_signs c_Y_matrix c_Y_text c_Y_given c_Y_drawnNumbers c_Y_drawnKinds c_out_473
          else
            some ((0 : Int32), v_X_text_length, v_X_written_length, v_X_drawing_count_473, v_X_cover_width, v_X_cover_height, v_X_cover_top, v_X_cover_x, v_X_cover_y, v_X_cover_startX, v_X_cover_startY, c_X_drawing_kinds_473, c_X_drawing_numbers_473, c_X_cover_squares, c_X_cover_changes, c_X_written_characters, c_X_given, v_X_reader_at, v_X_reader_wrong, v_X_reader_moveIsDue, v_X_reader_pen_x, v_X_reader_pen_y, v_X_reader_pen_startX, v_X_reader_pen_startY, v_X_reader_pen_controlX, v_X_reader_pen_controlY, v_X_reader_pen_controlFor, v_X_reader_pen_matrices_depth, c_X_reader_pen_matrices_rows, c_X_text_characters, c_X_reader_numbers, c_X_reader_pen_points, c_X_reader_pen_drawn, v_X_spare_count, c_X_spare_numbers, c_X_spare_kinds, v_Y_fault_479, v_Y_size, v_Y_commands_479, v_Y_drawn, v_Y_depth, v_Y_at, v_Y_value, v_Y_wrong, v_Y_wantsMove, v_Y_x, v_Y_y, v_Y_startX, v_Y_startY, v_Y_before, v_Y_turnX, v_Y_turnY, v_Y_written, v_Y_edges, v_Y_wide, v_Y_high, v_Y_behind, v_Y_whole, c_Y_kinds_479, c_Y_fromX, c_Y_fromY, c_Y_toX, c_Y_toY, c_Y_numbers, c_Y_points, c_Y_signs, c_Y_matrix, c_Y_text, c_Y_given, c_Y_drawnNumbers, c_Y_drawnKinds, c_out_473)
      else if ((sX (x4).toNatClampNeg) &&& (15 : Int32)) = (6 : Int32) then
        kg (ki (x4 + (1 : Int32)) sL) (
          kb2 (lPLaw_command (sX ((x4 + (1 : Int32))).toNatClampNeg) v_X_drawing_count c_X_drawing_kinds c_out) fun r523 c_out_523 =>
          kg (ki (x4 + (1 : Int32)) sL) (
          kb2 (m_command1 (sX ((x4 + (1 : Int32))).toNatClampNeg) v_Y_commands c_Y_kinds) fun r535 v_Y_fault_535 =>
          kb1 (m_thrown v_Y_fault_535) fun r541 =>
          if r541 = r523 then
            if r523 = (0 : Int32) then
                if (c_out_523 ((0 : Int32)).toNatClampNeg) = (Int32.toInt64 r535) then
                    k23 (x4 + (7 : Int32)) v_X_text_length v_X_written_length v_X_drawing_count v_X_cover_width v_X_cover_height v_X_cover_top v_X_cover_x v_X_cover_y v_X_cover_startX v_X_cover_startY c_X_drawing_kinds c_X_drawing_numbers c_X_cover_squares c_X_cover_changes c_X_written_characters c_X_given v_X_reader_at v_X_reader_wrong v_X_reader_moveIsDue v_X_reader_pen_x v_X_reader_pen_y v_X_reader_pen_startX v_X_reader_pen_startY v_X_reader_pen_controlX v_X_reader_pen_controlY v_X_reader_pen_controlFor v_X_reader_pen_matrices_depth c_X_reader_pen_matrices_rows c_X_text_characters c_X_reader_numbers c_X_reader_pen_points c_X_reader_pen_drawn v_X_spare_count c_X_spare_numbers c_X_spare_kinds v_Y_fault_535 v_Y_size v_Y_commands v_Y_drawn v_Y_depth v_Y_at v_Y_value v_Y_wrong v_Y_wantsMove v_Y_x v_Y_y v_Y_startX v_Y_startY v_Y_before v_Y_turnX v_Y_turnY v_Y_written v_Y_edges v_Y_wide v_Y_high v_Y_behind v_Y_whole c_Y_kinds c_Y_fromX c_Y_fromY c_Y_toX c_Y_toY c_Y_numbers c_Y_points c_Y_signs c_Y_matrix c_Y_text c_Y_given c_Y_drawnNumbers c_Y_drawnKinds c_out_523
                  else
                    some ((0 : Int32), v_X_text_length, v_X_written_length, v_X_drawing_count, v_X_cover_width, v_X_cover_height, v_X_cover_top, v_X_cover_x, v_X_cover_y, v_X_cover_startX, v_X_cover_startY, c_X_drawing_kinds, c_X_drawing_numbers, c_X_cover_squares, c_X_cover_changes, c_X_written_characters, c_X_given, v_X_reader_at, v_X_reader_wrong, v_X_reader_moveIsDue, v_X_reader_pen_x, v_X_reader_pen_y, v_X_reader_pen_startX, v_X_reader_pen_startY, v_X_reader_pen_controlX, v_X_reader_pen_controlY, v_X_reader_pen_controlFor, v_X_reader_pen_matrices_depth, c_X_reader_pen_matrices_rows, c_X_text_characters, c_X_reader_numbers, c_X_reader_pen_points, c_X_reader_pen_drawn, v_X_spare_count, c_X_spare_numbers, c_X_spare_kinds, v_Y_fault_535, v_Y_size, v_Y_commands, v_Y_drawn, v_Y_depth, v_Y_at, v_Y_value, v_Y_wrong, v_Y_wantsMove, v_Y_x, v_Y_y, v_Y_startX, v_Y_startY, v_Y_before, v_Y_turnX, v_Y_turnY, v_Y_written, v_Y_edges, v_Y_wide, v_Y_high, v_Y_behind, v_Y_whole, c_Y_kinds, c_Y_fromX, c_Y_fromY, c_Y_toX, c_Y_toY, c_Y_numbers, c_Y_points, c_Y_signs, c_Y_matrix, c_Y_text, c_Y_given, c_Y_drawnNumbers, c_Y_drawnKinds, c_out_523)
              else
                k23 (x4 + (7 : Int32)) v_X_text_length v_X_written_length v_X_drawing_count v_X_cover_width v_X_cover_height v_X_cover_top v_X_cover_x v_X_cover_y v_X_cover_startX v_X_cover_startY c_X_drawing_kinds c_X_drawing_numbers c_X_cover_squares c_X_cover_changes c_X_written_characters c_X_given v_X_reader_at v_X_reader_wrong v_X_reader_moveIsDue v_X_reader_pen_x v_X_reader_pen_y v_X_reader_pen_startX v_X_reader_pen_startY v_X_reader_pen_controlX v_X_reader_pen_controlY v_X_reader_pen_controlFor v_X_reader_pen_matrices_depth c_X_reader_pen_matrices_rows c_X_text_characters c_X_reader_numbers c_X_reader_pen_points c_X_reader_pen_drawn v_X_spare_count c_X_spare_numbers c_X_spare_kinds v_Y_fault_535 v_Y_size v_Y_commands v_Y_drawn v_Y_depth v_Y_at v_Y_value v_Y_wrong v_Y_wantsMove v_Y_x v_Y_y v_Y_startX v_Y_startY v_Y_before v_Y_turnX v_Y_turnY v_Y_written v_Y_edges v_Y_wide v_Y_high v_Y_behind v_Y_whole c_Y_kinds c_Y_fromX c_Y_fromY c_Y_toX c_Y_toY c_Y_numbers c_Y_points c_Y_signs c_Y_matrix c_Y_text c_Y_given c_Y_drawnNumbers c_Y_drawnKinds c_out_523
          else
            some ((0 : Int32), v_X_text_length, v_X_written_length, v_X_drawing_count, v_X_cover_width, v_X_cover_height, v_X_cover_top, v_X_cover_x, v_X_cover_y, v_X_cover_startX, v_X_cover_startY, c_X_drawing_kinds, c_X_drawing_numbers, c_X_cover_squares, c_X_cover_changes, c_X_written_characters, c_X_given, v_X_reader_at, v_X_reader_wrong, v_X_reader_moveIsDue, v_X_reader_pen_x, v_X_reader_pen_y, v_X_reader_pen_startX, v_X_reader_pen_startY, v_X_reader_pen_controlX, v_X_reader_pen_controlY, v_X_reader_pen_controlFor, v_X_reader_pen_matrices_depth, c_X_reader_pen_matrices_rows, c_X_text_characters, c_X_reader_numbers, c_X_reader_pen_points, c_X_reader_pen_drawn, v_X_spare_count, c_X_spare_numbers, c_X_spare_kinds, v_Y_fault_535, v_Y_size, v_Y_commands, v_Y_drawn, v_Y_depth, v_Y_at, v_Y_value, v_Y_wrong, v_Y_wantsMove, v_Y_x, v_Y_y, v_Y_startX, v_Y_startY, v_Y_before, v_Y_turnX, v_Y_turnY, v_Y_written, v_Y_edges, v_Y_wide, v_Y_high, v_Y_behind, v_Y_whole, c_Y_kinds, c_Y_fromX, c_Y_fromY, c_Y_toX, c_Y_toY, c_Y_numbers, c_Y_points, c_Y_signs, c_Y_matrix, c_Y_text, c_Y_given, c_Y_drawnNumbers, c_Y_drawnKinds, c_out_523)))
      else if ((sX (x4).toNatClampNeg) &&& (15 : Int32)) = (7 : Int32) then
        kg (ki (x4 + (1 : Int32)) sL) (
          kg (ki (x4 + (2 : Int32)) sL) (
          kb2 (lPLaw_number (sX ((x4 + (1 : Int32))).toNatClampNeg) (sX ((x4 + (2 : Int32))).toNatClampNeg) v_X_drawing_count c_X_drawing_kinds c_X_drawing_numbers c_out) fun r585 c_out_585 =>
          kg (ki (x4 + (1 : Int32)) sL) (
          kg (ki (x4 + (2 : Int32)) sL) (
          kb2 (m_number (sX ((x4 + (1 : Int32))).toNatClampNeg) (sX ((x4 + (2 : Int32))).toNatClampNeg) v_Y_commands c_Y_kinds c_Y_numbers) fun r603 v_Y_fault_603 =>
          kb1 (m_thrown v_Y_fault_603) fun r609 =>
          if r609 = r585 then
            if r585 = (0 : Int32) then
                if (c_out_585 ((0 : Int32)).toNatClampNeg) = (Int32.toInt64 r603) then
                    k23 (x4 + (7 : Int32)) v_X_text_length v_X_written_length v_X_drawing_count v_X_cover_width v_X_cover_height v_X_cover_top v_X_cover_x v_X_cover_y v_X_cover_startX v_X_cover_startY c_X_drawing_kinds c_X_drawing_numbers c_X_cover_squares c_X_cover_changes c_X_written_characters c_X_given v_X_reader_at v_X_reader_wrong v_X_reader_moveIsDue v_X_reader_pen_x v_X_reader_pen_y v_X_reader_pen_startX v_X_reader_pen_startY v_X_reader_pen_controlX v_X_reader_pen_controlY v_X_reader_pen_controlFor v_X_reader_pen_matrices_depth c_X_reader_pen_matrices_rows c_X_text_characters c_X_reader_numbers c_X_reader_pen_points c_X_reader_pen_drawn v_X_spare_count c_X_spare_numbers c_X_spare_kinds v_Y_fault_603 v_Y_size v_Y_commands v_Y_drawn v_Y_depth v_Y_at v_Y_value v_Y_wrong v_Y_wantsMove v_Y_x v_Y_y v_Y_startX v_Y_startY v_Y_before v_Y_turnX v_Y_turnY v_Y_written v_Y_edges v_Y_wide v_Y_high v_Y_behind v_Y_whole c_Y_kinds c_Y_fromX c_Y_fromY c_Y_toX c_Y_toY c_Y_numbers c_Y_points c_Y_signs c_Y_matrix c_Y_text c_Y_given c_Y_drawnNumbers c_Y_drawnKinds c_out_585
                  else
                    some ((0 : Int32), v_X_text_length, v_X_written_length, v_X_drawing_count, v_X_cover_width, v_X_cover_height, v_X_cover_top, v_X_cover_x, v_X_cover_y, v_X_cover_startX, v_X_cover_startY, c_X_drawing_kinds, c_X_drawing_numbers, c_X_cover_squares, c_X_cover_changes, c_X_written_characters, c_X_given, v_X_reader_at, v_X_reader_wrong, v_X_reader_moveIsDue, v_X_reader_pen_x, v_X_reader_pen_y, v_X_reader_pen_startX, v_X_reader_pen_startY, v_X_reader_pen_controlX, v_X_reader_pen_controlY, v_X_reader_pen_controlFor, v_X_reader_pen_matrices_depth, c_X_reader_pen_matrices_rows, c_X_text_characters, c_X_reader_numbers, c_X_reader_pen_points, c_X_reader_pen_drawn, v_X_spare_count, c_X_spare_numbers, c_X_spare_kinds, v_Y_fault_603, v_Y_size, v_Y_commands, v_Y_drawn, v_Y_depth, v_Y_at, v_Y_value, v_Y_wrong, v_Y_wantsMove, v_Y_x, v_Y_y, v_Y_startX, v_Y_startY, v_Y_before, v_Y_turnX, v_Y_turnY, v_Y_written, v_Y_edges, v_Y_wide, v_Y_high, v_Y_behind, v_Y_whole, c_Y_kinds, c_Y_fromX, c_Y_fromY, c_Y_toX, c_Y_toY, c_Y_numbers, c_Y_points, c_Y_signs, c_Y_matrix, c_Y_text, c_Y_given, c_Y_drawnNumbers, c_Y_drawnKinds, c_out_585)
              else
                k23 (x4 + (7 : Int32)) v_X_text_length v_X_written_length v_X_drawing_count v_X_cover_width v_X_cover_height v_X_cover_top v_X_cover_x v_X_cover_y v_X_cover_startX v_X_cover_startY c_X_drawing_kinds c_X_drawing_numbers c_X_cover_squares c_X_cover_changes c_X_written_characters c_X_given v_X_reader_at v_X_reader_wrong v_X_reader_moveIsDue v_X_reader_pen_x v_X_reader_pen_y v_X_reader_pen_startX v_X_reader_pen_startY v_X_reader_pen_controlX v_X_reader_pen_controlY v_X_reader_pen_controlFor v_X_reader_pen_matrices_depth c_X_reader_pen_matrices_rows c_X_text_characters c_X_reader_numbers c_X_reader_pen_points c_X_reader_pen_drawn v_X_spare_count c_X_spare_numbers c_X_spare_kinds v_Y_fault_603 v_Y_size v_Y_commands v_Y_drawn v_Y_depth v_Y_at v_Y_value v_Y_wrong v_Y_wantsMove v_Y_x v_Y_y v_Y_startX v_Y_startY v_Y_before v_Y_turnX v_Y_turnY v_Y_written v_Y_edges v_Y_wide v_Y_high v_Y_behind v_Y_whole c_Y_kinds c_Y_fromX c_Y_fromY c_Y_toX c_Y_toY c_Y_numbers c_Y_points c_Y_signs c_Y_matrix c_Y_text c_Y_given c_Y_drawnNumbers c_Y_drawnKinds c_out_585
          else
            some ((0 : Int32), v_X_text_length, v_X_written_length, v_X_drawing_count, v_X_cover_width, v_X_cover_height, v_X_cover_top, v_X_cover_x, v_X_cover_y, v_X_cover_startX, v_X_cover_startY, c_X_drawing_kinds, c_X_drawing_numbers, c_X_cover_squares, c_X_cover_changes, c_X_written_characters, c_X_given, v_X_reader_at, v_X_reader_wrong, v_X_reader_moveIsDue, v_X_reader_pen_x, v_X_reader_pen_y, v_X_reader_pen_startX, v_X_reader_pen_startY, v_X_reader_pen_controlX, v_X_reader_pen_controlY, v_X_reader_pen_controlFor, v_X_reader_pen_matrices_depth, c_X_reader_pen_matrices_rows, c_X_text_characters, c_X_reader_numbers, c_X_reader_pen_points, c_X_reader_pen_drawn, v_X_spare_count, c_X_spare_numbers, c_X_spare_kinds, v_Y_fault_603, v_Y_size, v_Y_commands, v_Y_drawn, v_Y_depth, v_Y_at, v_Y_value, v_Y_wrong, v_Y_wantsMove, v_Y_x, v_Y_y, v_Y_startX, v_Y_startY, v_Y_before, v_Y_turnX, v_Y_turnY, v_Y_written, v_Y_edges, v_Y_wide, v_Y_high, v_Y_behind, v_Y_whole, c_Y_kinds, c_Y_fromX, c_Y_fromY, c_Y_toX, c_Y_toY, c_Y_numbers, c_Y_points, c_Y_signs, c_Y_matrix, c_Y_text, c_Y_given, c_Y_drawnNumbers, c_Y_drawnKinds, c_out_585)))))
      else if ((sX (x4).toNatClampNeg) &&& (15 : Int32)) = (8 : Int32) then
        kb3 (xP_write N v_X_drawing_count c_X_drawing_kinds c_X_drawing_numbers c_X_written_characters) fun r640 v_X_written_length_640 c_X_written_characters_640 =>
          kb6 (m_write N v_Y_commands v_Y_behind v_Y_whole c_Y_kinds c_Y_signs c_Y_numbers) fun r644 v_Y_fault_644 v_Y_written_644 v_Y_behind_644 v_Y_whole_644 c_Y_signs_644 =>
          if r640 = r644 then
            k23 (x4 + (7 : Int32)) v_X_text_length v_X_written_length_640 v_X_drawing_count v_X_cover_width v_X_cover_height v_X_cover_top v_X_cover_x v_X_cover_y v_X_cover_startX v_X_cover_startY c_X_drawing_kinds c_X_drawing_numbers c_X_cover_squares c_X_cover_changes c_X_written_characters_640 c_X_given v_X_reader_at v_X_reader_wrong v_X_reader_moveIsDue v_X_reader_pen_x v_X_reader_pen_y v_X_reader_pen_startX v_X_reader_pen_startY v_X_reader_pen_controlX v_X_reader_pen_controlY v_X_reader_pen_controlFor v_X_reader_pen_matrices_depth c_X_reader_pen_matrices_rows c_X_text_characters c_X_reader_numbers c_X_reader_pen_points c_X_reader_pen_drawn v_X_spare_count c_X_spare_numbers c_X_spare_kinds v_Y_fault_644 v_Y_size v_Y_commands v_Y_drawn v_Y_depth v_Y_at v_Y_value v_Y_wrong v_Y_wantsMove v_Y_x v_Y_y v_Y_startX v_Y_startY v_Y_before v_Y_turnX v_Y_turnY v_Y_written_644 v_Y_edges v_Y_wide v_Y_high v_Y_behind_644 v_Y_whole_644 c_Y_kinds c_Y_fromX c_Y_fromY c_Y_toX c_Y_toY c_Y_numbers c_Y_points c_Y_signs_644 c_Y_matrix c_Y_text c_Y_given c_Y_drawnNumbers c_Y_drawnKinds c_out
          else
            some ((0 : Int32), v_X_text_length, v_X_written_length_640, v_X_drawing_count, v_X_cover_width, v_X_cover_height, v_X_cover_top, v_X_cover_x, v_X_cover_y, v_X_cover_startX, v_X_cover_startY, c_X_drawing_kinds, c_X_drawing_numbers, c_X_cover_squares, c_X_cover_changes, c_X_written_characters_640, c_X_given, v_X_reader_at, v_X_reader_wrong, v_X_reader_moveIsDue, v_X_reader_pen_x, v_X_reader_pen_y, v_X_reader_pen_startX, v_X_reader_pen_startY, v_X_reader_pen_controlX, v_X_reader_pen_controlY, v_X_reader_pen_controlFor, v_X_reader_pen_matrices_depth, c_X_reader_pen_matrices_rows, c_X_text_characters, c_X_reader_numbers, c_X_reader_pen_points, c_X_reader_pen_drawn, v_X_spare_count, c_X_spare_numbers, c_X_spare_kinds, v_Y_fault_644, v_Y_size, v_Y_commands, v_Y_drawn, v_Y_depth, v_Y_at, v_Y_value, v_Y_wrong, v_Y_wantsMove, v_Y_x, v_Y_y, v_Y_startX, v_Y_startY, v_Y_before, v_Y_turnX, v_Y_turnY, v_Y_written_644, v_Y_edges, v_Y_wide, v_Y_high, v_Y_behind_644, v_Y_whole_644, c_Y_kinds, c_Y_fromX, c_Y_fromY, c_Y_toX, c_Y_toY, c_Y_numbers, c_Y_points, c_Y_signs_644, c_Y_matrix, c_Y_text, c_Y_given, c_Y_drawnNumbers, c_Y_drawnKinds, c_out)
      else if ((sX (x4).toNatClampNeg) &&& (15 : Int32)) = (9 : Int32) then
        kg (ki (x4 + (1 : Int32)) sL) (
          kb2 (lPLaw_charAt (sX ((x4 + (1 : Int32))).toNatClampNeg) v_X_written_length c_X_written_characters c_out) fun r660 c_out_660 =>
          kg (ki (x4 + (1 : Int32)) sL) (
          kb2 (m_charAt (sX ((x4 + (1 : Int32))).toNatClampNeg) v_Y_written c_Y_signs) fun r672 v_Y_fault_672 =>
          kb1 (m_thrown v_Y_fault_672) fun r678 =>
          if r678 = r660 then
            if r660 = (0 : Int32) then
                if (c_out_660 ((0 : Int32)).toNatClampNeg) = (Int32.toInt64 r672) then
                    k23 (x4 + (7 : Int32)) v_X_text_length v_X_written_length v_X_drawing_count v_X_cover_width v_X_cover_height v_X_cover_top v_X_cover_x v_X_cover_y v_X_cover_startX v_X_cover_startY c_X_drawing_kinds c_X_drawing_numbers c_X_cover_squares c_X_cover_changes c_X_written_characters c_X_given v_X_reader_at v_X_reader_wrong v_X_reader_moveIsDue v_X_reader_pen_x v_X_reader_pen_y v_X_reader_pen_startX v_X_reader_pen_startY v_X_reader_pen_controlX v_X_reader_pen_controlY v_X_reader_pen_controlFor v_X_reader_pen_matrices_depth c_X_reader_pen_matrices_rows c_X_text_characters c_X_reader_numbers c_X_reader_pen_points c_X_reader_pen_drawn v_X_spare_count c_X_spare_numbers c_X_spare_kinds v_Y_fault_672 v_Y_size v_Y_commands v_Y_drawn v_Y_depth v_Y_at v_Y_value v_Y_wrong v_Y_wantsMove v_Y_x v_Y_y v_Y_startX v_Y_startY v_Y_before v_Y_turnX v_Y_turnY v_Y_written v_Y_edges v_Y_wide v_Y_high v_Y_behind v_Y_whole c_Y_kinds c_Y_fromX c_Y_fromY c_Y_toX c_Y_toY c_Y_numbers c_Y_points c_Y_signs c_Y_matrix c_Y_text c_Y_given c_Y_drawnNumbers c_Y_drawnKinds c_out_660
                  else
                    some ((0 : Int32), v_X_text_length, v_X_written_length, v_X_drawing_count, v_X_cover_width, v_X_cover_height, v_X_cover_top, v_X_cover_x, v_X_cover_y, v_X_cover_startX, v_X_cover_startY, c_X_drawing_kinds, c_X_drawing_numbers, c_X_cover_squares, c_X_cover_changes, c_X_written_characters, c_X_given, v_X_reader_at, v_X_reader_wrong, v_X_reader_moveIsDue, v_X_reader_pen_x, v_X_reader_pen_y, v_X_reader_pen_startX, v_X_reader_pen_startY, v_X_reader_pen_controlX, v_X_reader_pen_controlY, v_X_reader_pen_controlFor, v_X_reader_pen_matrices_depth, c_X_reader_pen_matrices_rows, c_X_text_characters, c_X_reader_numbers, c_X_reader_pen_points, c_X_reader_pen_drawn, v_X_spare_count, c_X_spare_numbers, c_X_spare_kinds, v_Y_fault_672, v_Y_size, v_Y_commands, v_Y_drawn, v_Y_depth, v_Y_at, v_Y_value, v_Y_wrong, v_Y_wantsMove, v_Y_x, v_Y_y, v_Y_startX, v_Y_startY, v_Y_before, v_Y_turnX, v_Y_turnY, v_Y_written, v_Y_edges, v_Y_wide, v_Y_high, v_Y_behind, v_Y_whole, c_Y_kinds, c_Y_fromX, c_Y_fromY, c_Y_toX, c_Y_toY, c_Y_numbers, c_Y_points, c_Y_signs, c_Y_matrix, c_Y_text, c_Y_given, c_Y_drawnNumbers, c_Y_drawnKinds, c_out_660)
              else
                k23 (x4 + (7 : Int32)) v_X_text_length v_X_written_length v_X_drawing_count v_X_cover_width v_X_cover_height v_X_cover_top v_X_cover_x v_X_cover_y v_X_cover_startX v_X_cover_startY c_X_drawing_kinds c_X_drawing_numbers c_X_cover_squares c_X_cover_changes c_X_written_characters c_X_given v_X_reader_at v_X_reader_wrong v_X_reader_moveIsDue v_X_reader_pen_x v_X_reader_pen_y v_X_reader_pen_startX v_X_reader_pen_startY v_X_reader_pen_controlX v_X_reader_pen_controlY v_X_reader_pen_controlFor v_X_reader_pen_matrices_depth c_X_reader_pen_matrices_rows c_X_text_characters c_X_reader_numbers c_X_reader_pen_points c_X_reader_pen_drawn v_X_spare_count c_X_spare_numbers c_X_spare_kinds v_Y_fault_672 v_Y_size v_Y_commands v_Y_drawn v_Y_depth v_Y_at v_Y_value v_Y_wrong v_Y_wantsMove v_Y_x v_Y_y v_Y_startX v_Y_startY v_Y_before v_Y_turnX v_Y_turnY v_Y_written v_Y_edges v_Y_wide v_Y_high v_Y_behind v_Y_whole c_Y_kinds c_Y_fromX c_Y_fromY c_Y_toX c_Y_toY c_Y_numbers c_Y_points c_Y_signs c_Y_matrix c_Y_text c_Y_given c_Y_drawnNumbers c_Y_drawnKinds c_out_660
          else
            some ((0 : Int32), v_X_text_length, v_X_written_length, v_X_drawing_count, v_X_cover_width, v_X_cover_height, v_X_cover_top, v_X_cover_x, v_X_cover_y, v_X_cover_startX, v_X_cover_startY, c_X_drawing_kinds, c_X_drawing_numbers, c_X_cover_squares, c_X_cover_changes, c_X_written_characters, c_X_given, v_X_reader_at, v_X_reader_wrong, v_X_reader_moveIsDue, v_X_reader_pen_x, v_X_reader_pen_y, v_X_reader_pen_startX, v_X_reader_pen_startY, v_X_reader_pen_controlX, v_X_reader_pen_controlY, v_X_reader_pen_controlFor, v_X_reader_pen_matrices_depth, c_X_reader_pen_matrices_rows, c_X_text_characters, c_X_reader_numbers, c_X_reader_pen_points, c_X_reader_pen_drawn, v_X_spare_count, c_X_spare_numbers, c_X_spare_kinds, v_Y_fault_672, v_Y_size, v_Y_commands, v_Y_drawn, v_Y_depth, v_Y_at, v_Y_value, v_Y_wrong, v_Y_wantsMove, v_Y_x, v_Y_y, v_Y_startX, v_Y_startY, v_Y_before, v_Y_turnX, v_Y_turnY, v_Y_written, v_Y_edges, v_Y_wide, v_Y_high, v_Y_behind, v_Y_whole, c_Y_kinds, c_Y_fromX, c_Y_fromY, c_Y_toX, c_Y_toY, c_Y_numbers, c_Y_points, c_Y_signs, c_Y_matrix, c_Y_text, c_Y_given, c_Y_drawnNumbers, c_Y_drawnKinds, c_out_660)))
      else if ((sX (x4).toNatClampNeg) &&& (15 : Int32)) = (10 : Int32) then
        kg (ki (x4 + (1 : Int32)) sL) (
          kg (ki (x4 + (2 : Int32)) sL) (
          kg (ki (x4 + (3 : Int32)) sL) (
          kb11 (lPLaw_render N (sX ((x4 + (1 : Int32))).toNatClampNeg) (sX ((x4 + (2 : Int32))).toNatClampNeg) (sX ((x4 + (3 : Int32))).toNatClampNeg) v_X_cover_width v_X_cover_height v_X_cover_top v_X_cover_x v_X_cover_y v_X_cover_startX v_X_cover_startY c_X_cover_squares c_X_cover_changes v_X_drawing_count c_X_drawing_kinds c_X_drawing_numbers c_out) fun r728 v_X_cover_width_728 v_X_cover_height_728 v_X_cover_top_728 v_X_cover_x_728 v_X_cover_y_728 v_X_cover_startX_728 v_X_cover_startY_728 c_X_cover_squares_728 c_X_cover_changes_728 c_out_728 =>
          kg (ki (x4 + (1 : Int32)) sL) (
          kg (ki (x4 + (2 : Int32)) sL) (
          kg (ki (x4 + (3 : Int32)) sL) (
          kb10 (m_render N (sX ((x4 + (1 : Int32))).toNatClampNeg) (sX ((x4 + (2 : Int32))).toNatClampNeg) (sX ((x4 + (3 : Int32))).toNatClampNeg) v_Y_commands v_Y_edges v_Y_wide v_Y_high c_Y_kinds c_Y_fromX c_Y_fromY c_Y_toX c_Y_toY c_Y_numbers c_Y_points) fun r752 v_Y_fault_752 v_Y_edges_752 v_Y_wide_752 v_Y_high_752 c_Y_fromX_752 c_Y_fromY_752 c_Y_toX_752 c_Y_toY_752 c_Y_points_752 =>
          kb1 (m_thrown v_Y_fault_752) fun r758 =>
          if r758 = r728 then
            if r728 = (0 : Int32) then
                if (c_out_728 ((0 : Int32)).toNatClampNeg) = (Int32.toInt64 r752) then
                    k23 (x4 + (7 : Int32)) v_X_text_length v_X_written_length v_X_drawing_count v_X_cover_width_728 v_X_cover_height_728 v_X_cover_top_728 v_X_cover_x_728 v_X_cover_y_728 v_X_cover_startX_728 v_X_cover_startY_728 c_X_drawing_kinds c_X_drawing_numbers c_X_cover_squares_728 c_X_cover_changes_728 c_X_written_characters c_X_given v_X_reader_at v_X_reader_wrong v_X_reader_moveIsDue v_X_reader_pen_x v_X_reader_pen_y v_X_reader_pen_startX v_X_reader_pen_startY v_X_reader_pen_controlX v_X_reader_pen_controlY v_X_reader_pen_controlFor v_X_reader_pen_matrices_depth c_X_reader_pen_matrices_rows c_X_text_characters c_X_reader_numbers c_X_reader_pen_points c_X_reader_pen_drawn v_X_spare_count c_X_spare_numbers c_X_spare_kinds v_Y_fault_752 v_Y_size v_Y_commands v_Y_drawn v_Y_depth v_Y_at v_Y_value v_Y_wrong v_Y_wantsMove v_Y_x v_Y_y v_Y_startX v_Y_startY v_Y_before v_Y_turnX v_Y_turnY v_Y_written v_Y_edges_752 v_Y_wide_752 v_Y_high_752 v_Y_behind v_Y_whole c_Y_kinds c_Y_fromX_752 c_Y_fromY_752 c_Y_toX_752 c_Y_toY_752 c_Y_numbers c_Y_points_752 c_Y_signs c_Y_matrix c_Y_text c_Y_given c_Y_drawnNumbers c_Y_drawnKinds c_out_728
                  else
                    some ((0 : Int32), v_X_text_length, v_X_written_length, v_X_drawing_count, v_X_cover_width_728, v_X_cover_height_728, v_X_cover_top_728, v_X_cover_x_728, v_X_cover_y_728, v_X_cover_startX_728, v_X_cover_startY_728, c_X_drawing_kinds, c_X_drawing_numbers, c_X_cover_squares_728, c_X_cover_changes_728, c_X_written_characters, c_X_given, v_X_reader_at, v_X_reader_wrong, v_X_reader_moveIsDue, v_X_reader_pen_x, v_X_reader_pen_y, v_X_reader_pen_startX, v_X_reader_pen_startY, v_X_reader_pen_controlX, v_X_reader_pen_controlY, v_X_reader_pen_controlFor, v_X_reader_pen_matrices_depth, c_X_reader_pen_matrices_rows, c_X_text_characters, c_X_reader_numbers, c_X_reader_pen_points, c_X_reader_pen_drawn, v_X_spare_count, c_X_spare_numbers, c_X_spare_kinds, v_Y_fault_752, v_Y_size, v_Y_commands, v_Y_drawn, v_Y_depth, v_Y_at, v_Y_value, v_Y_wrong, v_Y_wantsMove, v_Y_x, v_Y_y, v_Y_startX, v_Y_startY, v_Y_before, v_Y_turnX, v_Y_turnY, v_Y_written, v_Y_edges_752, v_Y_wide_752, v_Y_high_752, v_Y_behind, v_Y_whole, c_Y_kinds, c_Y_fromX_752, c_Y_fromY_752, c_Y_toX_752, c_Y_toY_752, c_Y_numbers, c_Y_points_752, c_Y_signs, c_Y_matrix, c_Y_text, c_Y_given, c_Y_drawnNumbers, c_Y_drawnKinds, c_out_728)
              else
                k23 (x4 + (7 : Int32)) v_X_text_length v_X_written_length v_X_drawing_count v_X_cover_width_728 v_X_cover_height_728 v_X_cover_top_728 v_X_cover_x_728 v_X_cover_y_728 v_X_cover_startX_728 v_X_cover_startY_728 c_X_drawing_kinds c_X_drawing_numbers c_X_cover_squares_728 c_X_cover_changes_728 c_X_written_characters c_X_given v_X_reader_at v_X_reader_wrong v_X_reader_moveIsDue v_X_reader_pen_x v_X_reader_pen_y v_X_reader_pen_startX v_X_reader_pen_startY v_X_reader_pen_controlX v_X_reader_pen_controlY v_X_reader_pen_controlFor v_X_reader_pen_matrices_depth c_X_reader_pen_matrices_rows c_X_text_characters c_X_reader_numbers c_X_reader_pen_points c_X_reader_pen_drawn v_X_spare_count c_X_spare_numbers c_X_spare_kinds v_Y_fault_752 v_Y_size v_Y_commands v_Y_drawn v_Y_depth v_Y_at v_Y_value v_Y_wrong v_Y_wantsMove v_Y_x v_Y_y v_Y_startX v_Y_startY v_Y_before v_Y_turnX v_Y_turnY v_Y_written v_Y_edges_752 v_Y_wide_752 v_Y_high_752 v_Y_behind v_Y_whole c_Y_kinds c_Y_fromX_752 c_Y_fromY_752 c_Y_toX_752 c_Y_toY_752 c_Y_numbers c_Y_points_752 c_Y_signs c_Y_matrix c_Y_text c_Y_given c_Y_drawnNumbers c_Y_drawnKinds c_out_728
          else
            some ((0 : Int32), v_X_text_length, v_X_written_length, v_X_drawing_count, v_X_cover_width_728, v_X_cover_height_728, v_X_cover_top_728, v_X_cover_x_728, v_X_cover_y_728, v_X_cover_startX_728, v_X_cover_startY_728, c_X_drawing_kinds, c_X_drawing_numbers, c_X_cover_squares_728, c_X_cover_changes_728, c_X_written_characters, c_X_given, v_X_reader_at, v_X_reader_wrong, v_X_reader_moveIsDue, v_X_reader_pen_x, v_X_reader_pen_y, v_X_reader_pen_startX, v_X_reader_pen_startY, v_X_reader_pen_controlX, v_X_reader_pen_controlY, v_X_reader_pen_controlFor, v_X_reader_pen_matrices_depth, c_X_reader_pen_matrices_rows, c_X_text_characters, c_X_reader_numbers, c_X_reader_pen_points, c_X_reader_pen_drawn, v_X_spare_count, c_X_spare_numbers, c_X_spare_kinds, v_Y_fault_752, v_Y_size, v_Y_commands, v_Y_drawn, v_Y_depth, v_Y_at, v_Y_value, v_Y_wrong, v_Y_wantsMove, v_Y_x, v_Y_y, v_Y_startX, v_Y_startY, v_Y_before, v_Y_turnX, v_Y_turnY, v_Y_written, v_Y_edges_752, v_Y_wide_752, v_Y_high_752, v_Y_behind, v_Y_whole, c_Y_kinds, c_Y_fromX_752, c_Y_fromY_752, c_Y_toX_752, c_Y_toY_752, c_Y_numbers, c_Y_points_752, c_Y_signs, c_Y_matrix, c_Y_text, c_Y_given, c_Y_drawnNumbers, c_Y_drawnKinds, c_out_728)))))))
      else if ((sX (x4).toNatClampNeg) &&& (15 : Int32)) = (11 : Int32) then
        kg (ki (x4 + (1 : Int32)) sL) (
          kg (ki (x4 + (2 : Int32)) sL) (
          kb2 (lPLaw_covered (sX ((x4 + (1 : Int32))).toNatClampNeg) (sX ((x4 + (2 : Int32))).toNatClampNeg) v_X_cover_width v_X_cover_height c_X_cover_squares c_out) fun r802 c_out_802 =>
          kg (ki (x4 + (1 : Int32)) sL) (
          kg (ki (x4 + (2 : Int32)) sL) (
          kb2 (m_covered (sX ((x4 + (1 : Int32))).toNatClampNeg) (sX ((x4 + (2 : Int32))).toNatClampNeg) v_Y_wide v_Y_high c_Y_points) fun r820 v_Y_fault_820 =>
          kb1 (m_thrown v_Y_fault_820) fun r826 =>
          if r826 = r802 then
            if r802 = (0 : Int32) then
                if (c_out_802 ((0 : Int32)).toNatClampNeg) = (Int32.toInt64 r820) then
                    k23 (x4 + (7 : Int32)) v_X_text_length v_X_written_length v_X_drawing_count v_X_cover_width v_X_cover_height v_X_cover_top v_X_cover_x v_X_cover_y v_X_cover_startX v_X_cover_startY c_X_drawing_kinds c_X_drawing_numbers c_X_cover_squares c_X_cover_changes c_X_written_characters c_X_given v_X_reader_at v_X_reader_wrong v_X_reader_moveIsDue v_X_reader_pen_x v_X_reader_pen_y v_X_reader_pen_startX v_X_reader_pen_startY v_X_reader_pen_controlX v_X_reader_pen_controlY v_X_reader_pen_controlFor v_X_reader_pen_matrices_depth c_X_reader_pen_matrices_rows c_X_text_characters c_X_reader_numbers c_X_reader_pen_points c_X_reader_pen_drawn v_X_spare_count c_X_spare_numbers c_X_spare_kinds v_Y_fault_820 v_Y_size v_Y_commands v_Y_drawn v_Y_depth v_Y_at v_Y_value v_Y_wrong v_Y_wantsMove v_Y_x v_Y_y v_Y_startX v_Y_startY v_Y_before v_Y_turnX v_Y_turnY v_Y_written v_Y_edges v_Y_wide v_Y_high v_Y_behind v_Y_whole c_Y_kinds c_Y_fromX c_Y_fromY c_Y_toX c_Y_toY c_Y_numbers c_Y_points c_Y_signs c_Y_matrix c_Y_text c_Y_given c_Y_drawnNumbers c_Y_drawnKinds c_out_802
                  else
                    some ((0 : Int32), v_X_text_length, v_X_written_length, v_X_drawing_count, v_X_cover_width, v_X_cover_height, v_X_cover_top, v_X_cover_x, v_X_cover_y, v_X_cover_startX, v_X_cover_startY, c_X_drawing_kinds, c_X_drawing_numbers, c_X_cover_squares, c_X_cover_changes, c_X_written_characters, c_X_given, v_X_reader_at, v_X_reader_wrong, v_X_reader_moveIsDue, v_X_reader_pen_x, v_X_reader_pen_y, v_X_reader_pen_startX, v_X_reader_pen_startY, v_X_reader_pen_controlX, v_X_reader_pen_controlY, v_X_reader_pen_controlFor, v_X_reader_pen_matrices_depth, c_X_reader_pen_matrices_rows, c_X_text_characters, c_X_reader_numbers, c_X_reader_pen_points, c_X_reader_pen_drawn, v_X_spare_count, c_X_spare_numbers, c_X_spare_kinds, v_Y_fault_820, v_Y_size, v_Y_commands, v_Y_drawn, v_Y_depth, v_Y_at, v_Y_value, v_Y_wrong, v_Y_wantsMove, v_Y_x, v_Y_y, v_Y_startX, v_Y_startY, v_Y_before, v_Y_turnX, v_Y_turnY, v_Y_written, v_Y_edges, v_Y_wide, v_Y_high, v_Y_behind, v_Y_whole, c_Y_kinds, c_Y_fromX, c_Y_fromY, c_Y_toX, c_Y_toY, c_Y_numbers, c_Y_points, c_Y_signs, c_Y_matrix, c_Y_text, c_Y_given, c_Y_drawnNumbers, c_Y_drawnKinds, c_out_802)
              else
                k23 (x4 + (7 : Int32)) v_X_text_length v_X_written_length v_X_drawing_count v_X_cover_width v_X_cover_height v_X_cover_top v_X_cover_x v_X_cover_y v_X_cover_startX v_X_cover_startY c_X_drawing_kinds c_X_drawing_numbers c_X_cover_squares c_X_cover_changes c_X_written_characters c_X_given v_X_reader_at v_X_reader_wrong v_X_reader_moveIsDue v_X_reader_pen_x v_X_reader_pen_y v_X_reader_pen_startX v_X_reader_pen_startY v_X_reader_pen_controlX v_X_reader_pen_controlY v_X_reader_pen_controlFor v_X_reader_pen_matrices_depth c_X_reader_pen_matrices_rows c_X_text_characters c_X_reader_numbers c_X_reader_pen_points c_X_reader_pen_drawn v_X_spare_count c_X_spare_numbers c_X_spare_kinds v_Y_fault_820 v_Y_size v_Y_commands v_Y_drawn v_Y_depth v_Y_at v_Y_value v_Y_wrong v_Y_wantsMove v_Y_x v_Y_y v_Y_startX v_Y_startY v_Y_before v_Y_turnX v_Y_turnY v_Y_written v_Y_edges v_Y_wide v_Y_high v_Y_behind v_Y_whole c_Y_kinds c_Y_fromX c_Y_fromY c_Y_toX c_Y_toY c_Y_numbers c_Y_points c_Y_signs c_Y_matrix c_Y_text c_Y_given c_Y_drawnNumbers c_Y_drawnKinds c_out_802
          else
            some ((0 : Int32), v_X_text_length, v_X_written_length, v_X_drawing_count, v_X_cover_width, v_X_cover_height, v_X_cover_top, v_X_cover_x, v_X_cover_y, v_X_cover_startX, v_X_cover_startY, c_X_drawing_kinds, c_X_drawing_numbers, c_X_cover_squares, c_X_cover_changes, c_X_written_characters, c_X_given, v_X_reader_at, v_X_reader_wrong, v_X_reader_moveIsDue, v_X_reader_pen_x, v_X_reader_pen_y, v_X_reader_pen_startX, v_X_reader_pen_startY, v_X_reader_pen_controlX, v_X_reader_pen_controlY, v_X_reader_pen_controlFor, v_X_reader_pen_matrices_depth, c_X_reader_pen_matrices_rows, c_X_text_characters, c_X_reader_numbers, c_X_reader_pen_points, c_X_reader_pen_drawn, v_X_spare_count, c_X_spare_numbers, c_X_spare_kinds, v_Y_fault_820, v_Y_size, v_Y_commands, v_Y_drawn, v_Y_depth, v_Y_at, v_Y_value, v_Y_wrong, v_Y_wantsMove, v_Y_x, v_Y_y, v_Y_startX, v_Y_startY, v_Y_before, v_Y_turnX, v_Y_turnY, v_Y_written, v_Y_edges, v_Y_wide, v_Y_high, v_Y_behind, v_Y_whole, c_Y_kinds, c_Y_fromX, c_Y_fromY, c_Y_toX, c_Y_toY, c_Y_numbers, c_Y_points, c_Y_signs, c_Y_matrix, c_Y_text, c_Y_given, c_Y_drawnNumbers, c_Y_drawnKinds, c_out_802)))))
      else if ((sX (x4).toNatClampNeg) &&& (15 : Int32)) = (12 : Int32) then
        kg (ki (x4 + (1 : Int32)) sL) (
          kb1 (xP_bound N (sX ((x4 + (1 : Int32))).toNatClampNeg) v_X_drawing_count c_X_drawing_kinds c_X_drawing_numbers) fun r863 =>
          kg (ki (x4 + (1 : Int32)) sL) (
          kb2 (m_bound N (sX ((x4 + (1 : Int32))).toNatClampNeg) v_Y_commands c_Y_kinds c_Y_numbers) fun r873 v_Y_fault_873 =>
          if r863 = r873 then
            k23 (x4 + (7 : Int32)) v_X_text_length v_X_written_length v_X_drawing_count v_X_cover_width v_X_cover_height v_X_cover_top v_X_cover_x v_X_cover_y v_X_cover_startX v_X_cover_startY c_X_drawing_kinds c_X_drawing_numbers c_X_cover_squares c_X_cover_changes c_X_written_characters c_X_given v_X_reader_at v_X_reader_wrong v_X_reader_moveIsDue v_X_reader_pen_x v_X_reader_pen_y v_X_reader_pen_startX v_X_reader_pen_startY v_X_reader_pen_controlX v_X_reader_pen_controlY v_X_reader_pen_controlFor v_X_reader_pen_matrices_depth c_X_reader_pen_matrices_rows c_X_text_characters c_X_reader_numbers c_X_reader_pen_points c_X_reader_pen_drawn v_X_spare_count c_X_spare_numbers c_X_spare_kinds v_Y_fault_873 v_Y_size v_Y_commands v_Y_drawn v_Y_depth v_Y_at v_Y_value v_Y_wrong v_Y_wantsMove v_Y_x v_Y_y v_Y_startX v_Y_startY v_Y_before v_Y_turnX v_Y_turnY v_Y_written v_Y_edges v_Y_wide v_Y_high v_Y_behind v_Y_whole c_Y_kinds c_Y_fromX c_Y_fromY c_Y_toX c_Y_toY c_Y_numbers c_Y_points c_Y_signs c_Y_matrix c_Y_text c_Y_given c_Y_drawnNumbers c_Y_drawnKinds c_out
          else
            some ((0 : Int32), v_X_text_length, v_X_written_length, v_X_drawing_count, v_X_cover_width, v_X_cover_height, v_X_cover_top, v_X_cover_x, v_X_cover_y, v_X_cover_startX, v_X_cover_startY, c_X_drawing_kinds, c_X_drawing_numbers, c_X_cover_squares, c_X_cover_changes, c_X_written_characters, c_X_given, v_X_reader_at, v_X_reader_wrong, v_X_reader_moveIsDue, v_X_reader_pen_x, v_X_reader_pen_y, v_X_reader_pen_startX, v_X_reader_pen_startY, v_X_reader_pen_controlX, v_X_reader_pen_controlY, v_X_reader_pen_controlFor, v_X_reader_pen_matrices_depth, c_X_reader_pen_matrices_rows, c_X_text_characters, c_X_reader_numbers, c_X_reader_pen_points, c_X_reader_pen_drawn, v_X_spare_count, c_X_spare_numbers, c_X_spare_kinds, v_Y_fault_873, v_Y_size, v_Y_commands, v_Y_drawn, v_Y_depth, v_Y_at, v_Y_value, v_Y_wrong, v_Y_wantsMove, v_Y_x, v_Y_y, v_Y_startX, v_Y_startY, v_Y_before, v_Y_turnX, v_Y_turnY, v_Y_written, v_Y_edges, v_Y_wide, v_Y_high, v_Y_behind, v_Y_whole, c_Y_kinds, c_Y_fromX, c_Y_fromY, c_Y_toX, c_Y_toY, c_Y_numbers, c_Y_points, c_Y_signs, c_Y_matrix, c_Y_text, c_Y_given, c_Y_drawnNumbers, c_Y_drawnKinds, c_out)))
      else if ((sX (x4).toNatClampNeg) &&& (15 : Int32)) = (13 : Int32) then
        kg (ki (x4 + (1 : Int32)) sL) (
          kb1 (xP_told N (sX ((x4 + (1 : Int32))).toNatClampNeg) v_X_drawing_count c_X_drawing_kinds v_X_written_length v_X_text_length) fun r888 =>
          kg (ki (x4 + (1 : Int32)) sL) (
          kb7 (m_told N (sX ((x4 + (1 : Int32))).toNatClampNeg) v_Y_size v_Y_commands v_Y_written v_Y_edges c_Y_kinds c_Y_fromX c_Y_fromY c_Y_toX c_Y_toY c_Y_numbers) fun r898 v_Y_fault_898 v_Y_edges_898 c_Y_fromX_898 c_Y_fromY_898 c_Y_toX_898 c_Y_toY_898 =>
          if r888 = r898 then
            k23 (x4 + (7 : Int32)) v_X_text_length v_X_written_length v_X_drawing_count v_X_cover_width v_X_cover_height v_X_cover_top v_X_cover_x v_X_cover_y v_X_cover_startX v_X_cover_startY c_X_drawing_kinds c_X_drawing_numbers c_X_cover_squares c_X_cover_changes c_X_written_characters c_X_given v_X_reader_at v_X_reader_wrong v_X_reader_moveIsDue v_X_reader_pen_x v_X_reader_pen_y v_X_reader_pen_startX v_X_reader_pen_startY v_X_reader_pen_controlX v_X_reader_pen_controlY v_X_reader_pen_controlFor v_X_reader_pen_matrices_depth c_X_reader_pen_matrices_rows c_X_text_characters c_X_reader_numbers c_X_reader_pen_points c_X_reader_pen_drawn v_X_spare_count c_X_spare_numbers c_X_spare_kinds v_Y_fault_898 v_Y_size v_Y_commands v_Y_drawn v_Y_depth v_Y_at v_Y_value v_Y_wrong v_Y_wantsMove v_Y_x v_Y_y v_Y_startX v_Y_startY v_Y_before v_Y_turnX v_Y_turnY v_Y_written v_Y_edges_898 v_Y_wide v_Y_high v_Y_behind v_Y_whole c_Y_kinds c_Y_fromX_898 c_Y_fromY_898 c_Y_toX_898 c_Y_toY_898 c_Y_numbers c_Y_points c_Y_signs c_Y_matrix c_Y_text c_Y_given c_Y_drawnNumbers c_Y_drawnKinds c_out
          else
            some ((0 : Int32), v_X_text_length, v_X_written_length, v_X_drawing_count, v_X_cover_width, v_X_cover_height, v_X_cover_top, v_X_cover_x, v_X_cover_y, v_X_cover_startX, v_X_cover_startY, c_X_drawing_kinds, c_X_drawing_numbers, c_X_cover_squares, c_X_cover_changes, c_X_written_characters, c_X_given, v_X_reader_at, v_X_reader_wrong, v_X_reader_moveIsDue, v_X_reader_pen_x, v_X_reader_pen_y, v_X_reader_pen_startX, v_X_reader_pen_startY, v_X_reader_pen_controlX, v_X_reader_pen_controlY, v_X_reader_pen_controlFor, v_X_reader_pen_matrices_depth, c_X_reader_pen_matrices_rows, c_X_text_characters, c_X_reader_numbers, c_X_reader_pen_points, c_X_reader_pen_drawn, v_X_spare_count, c_X_spare_numbers, c_X_spare_kinds, v_Y_fault_898, v_Y_size, v_Y_commands, v_Y_drawn, v_Y_depth, v_Y_at, v_Y_value, v_Y_wrong, v_Y_wantsMove, v_Y_x, v_Y_y, v_Y_startX, v_Y_startY, v_Y_before, v_Y_turnX, v_Y_turnY, v_Y_written, v_Y_edges_898, v_Y_wide, v_Y_high, v_Y_behind, v_Y_whole, c_Y_kinds, c_Y_fromX_898, c_Y_fromY_898, c_Y_toX_898, c_Y_toY_898, c_Y_numbers, c_Y_points, c_Y_signs, c_Y_matrix, c_Y_text, c_Y_given, c_Y_drawnNumbers, c_Y_drawnKinds, c_out)))
      else if ((sX (x4).toNatClampNeg) &&& (15 : Int32)) = (14 : Int32) then
        kb5 (xP_clear) fun v_X_text_length_907 v_X_written_length_907 v_X_drawing_count_907 v_X_cover_width_907 v_X_cover_height_907 =>
          kb6 (m_clear) fun v_Y_fault_911 v_Y_size_911 v_Y_commands_911 v_Y_written_911 v_Y_wide_911 v_Y_high_911 =>
          k23 (x4 + (7 : Int32)) v_X_text_length_907 v_X_written_length_907 v_X_drawing_count_907 v_X_cover_width_907 v_X_cover_height_907 v_X_cover_top v_X_cover_x v_X_cover_y v_X_cover_startX v_X_cover_startY c_X_drawing_kinds c_X_drawing_numbers c_X_cover_squares c_X_cover_changes c_X_written_characters c_X_given v_X_reader_at v_X_reader_wrong v_X_reader_moveIsDue v_X_reader_pen_x v_X_reader_pen_y v_X_reader_pen_startX v_X_reader_pen_startY v_X_reader_pen_controlX v_X_reader_pen_controlY v_X_reader_pen_controlFor v_X_reader_pen_matrices_depth c_X_reader_pen_matrices_rows c_X_text_characters c_X_reader_numbers c_X_reader_pen_points c_X_reader_pen_drawn v_X_spare_count c_X_spare_numbers c_X_spare_kinds v_Y_fault_911 v_Y_size_911 v_Y_commands_911 v_Y_drawn v_Y_depth v_Y_at v_Y_value v_Y_wrong v_Y_wantsMove v_Y_x v_Y_y v_Y_startX v_Y_startY v_Y_before v_Y_turnX v_Y_turnY v_Y_written_911 v_Y_edges v_Y_wide_911 v_Y_high_911 v_Y_behind v_Y_whole c_Y_kinds c_Y_fromX c_Y_fromY c_Y_toX c_Y_toY c_Y_numbers c_Y_points c_Y_signs c_Y_matrix c_Y_text c_Y_given c_Y_drawnNumbers c_Y_drawnKinds c_out
      else 
        k23 (x4 + (7 : Int32)) v_X_text_length v_X_written_length v_X_drawing_count v_X_cover_width v_X_cover_height v_X_cover_top v_X_cover_x v_X_cover_y v_X_cover_startX v_X_cover_startY c_X_drawing_kinds c_X_drawing_numbers c_X_cover_squares c_X_cover_changes c_X_written_characters c_X_given v_X_reader_at v_X_reader_wrong v_X_reader_moveIsDue v_X_reader_pen_x v_X_reader_pen_y v_X_reader_pen_startX v_X_reader_pen_startY v_X_reader_pen_controlX v_X_reader_pen_controlY v_X_reader_pen_controlFor v_X_reader_pen_matrices_depth c_X_reader_pen_matrices_rows c_X_text_characters c_X_reader_numbers c_X_reader_pen_points c_X_reader_pen_drawn v_X_spare_count c_X_spare_numbers c_X_spare_kinds v_Y_fault v_Y_size v_Y_commands v_Y_drawn v_Y_depth v_Y_at v_Y_value v_Y_wrong v_Y_wantsMove v_Y_x v_Y_y v_Y_startX v_Y_startY v_Y_before v_Y_turnX v_Y_turnY v_Y_written v_Y_edges v_Y_wide v_Y_high v_Y_behind v_Y_whole c_Y_kinds c_Y_fromX c_Y_fromY c_Y_toX c_Y_toY c_Y_numbers c_Y_points c_Y_signs c_Y_matrix c_Y_text c_Y_given c_Y_drawnNumbers c_Y_drawnKinds c_out)
def law_L23 (N : Nat) (sL : Nat) (sX : Nat → Int32) : Nat → Int32 → Int32 → Int32 → Int32 → Int32 → Int32 → Int64 → Int64 → Int64 → Int64 → Int64 → (Nat → Int32) → (Nat → Int32) → (Nat → Int32) → (Nat → Int32) → (Nat → Int32) → (Nat → Int64) → Int32 → Int32 → Int32 → Int64 → Int64 → Int64 → Int64 → Int64 → Int64 → Int32 → Int32 → (Nat → Int64) → (Nat → Int32) → (Nat → Int64) → (Nat → Int64) → (Nat → Int64) → Int32 → (Nat → Int32) → (Nat → Int32) → Int32 → Int32 → Int32 → Int32 → Int32 → Int32 → Int64 → Int32 → Int32 → Int64 → Int64 → Int64 → Int64 → Int32 → Int64 → Int64 → Int32 → Int32 → Int32 → Int32 → Int32 → Int64 → (Nat → Int32) → (Nat → Int32) → (Nat → Int32) → (Nat → Int32) → (Nat → Int32) → (Nat → Int32) → (Nat → Int32) → (Nat → Int32) → (Nat → Int64) → (Nat → Int32) → (Nat → Int64) → (Nat → Int32) → (Nat → Int32) → (Nat → Int64) → Option (Int32 × Int32 × Int32 × Int32 × Int32 × Int32 × Int64 × Int64 × Int64 × Int64 × Int64 × (Nat → Int32) × (Nat → Int32) × (Nat → Int32) × (Nat → Int32) × (Nat → Int32) × (Nat → Int64) × Int32 × Int32 × Int32 × Int64 × Int64 × Int64 × Int64 × Int64 × Int64 × Int32 × Int32 × (Nat → Int64) × (Nat → Int32) × (Nat → Int64) × (Nat → Int64) × (Nat → Int64) × Int32 × (Nat → Int32) × (Nat → Int32) × Int32 × Int32 × Int32 × Int32 × Int32 × Int32 × Int64 × Int32 × Int32 × Int64 × Int64 × Int64 × Int64 × Int32 × Int64 × Int64 × Int32 × Int32 × Int32 × Int32 × Int32 × Int64 × (Nat → Int32) × (Nat → Int32) × (Nat → Int32) × (Nat → Int32) × (Nat → Int32) × (Nat → Int32) × (Nat → Int32) × (Nat → Int32) × (Nat → Int64) × (Nat → Int32) × (Nat → Int64) × (Nat → Int32) × (Nat → Int32) × (Nat → Int64))
  | 0 => fun _ _ _ _ _ _ _ _ _ _ _ _ _ _ _ _ _ _ _ _ _ _ _ _ _ _ _ _ _ _ _ _ _ _ _ _ _ _ _ _ _ _ _ _ _ _ _ _ _ _ _ _ _ _ _ _ _ _ _ _ _ _ _ _ _ _ _ _ _ _ _ _ => none
  | n + 1 => fun x4 v_X_text_length v_X_written_length v_X_drawing_count v_X_cover_width v_X_cover_height v_X_cover_top v_X_cover_x v_X_cover_y v_X_cover_startX v_X_cover_startY c_X_drawing_kinds c_X_drawing_numbers c_X_cover_squares c_X_cover_changes c_X_written_characters c_X_given v_X_reader_at v_X_reader_wrong v_X_reader_moveIsDue v_X_reader_pen_x v_X_reader_pen_y v_X_reader_pen_startX v_X_reader_pen_startY v_X_reader_pen_controlX v_X_reader_pen_controlY v_X_reader_pen_controlFor v_X_reader_pen_matrices_depth c_X_reader_pen_matrices_rows c_X_text_characters c_X_reader_numbers c_X_reader_pen_points c_X_reader_pen_drawn v_X_spare_count c_X_spare_numbers c_X_spare_kinds v_Y_fault v_Y_size v_Y_commands v_Y_drawn v_Y_depth v_Y_at v_Y_value v_Y_wrong v_Y_wantsMove v_Y_x v_Y_y v_Y_startX v_Y_startY v_Y_before v_Y_turnX v_Y_turnY v_Y_written v_Y_edges v_Y_wide v_Y_high v_Y_behind v_Y_whole c_Y_kinds c_Y_fromX c_Y_fromY c_Y_toX c_Y_toY c_Y_numbers c_Y_points c_Y_signs c_Y_matrix c_Y_text c_Y_given c_Y_drawnNumbers c_Y_drawnKinds c_out => law_B23 N sL sX (law_L23 N sL sX n) x4 v_X_text_length v_X_written_length v_X_drawing_count v_X_cover_width v_X_cover_height v_X_cover_top v_X_cover_x v_X_cover_y v_X_cover_startX v_X_cover_startY c_X_drawing_kinds c_X_drawing_numbers c_X_cover_squares c_X_cover_changes c_X_written_characters c_X_given v_X_reader_at v_X_reader_wrong v_X_reader_moveIsDue v_X_reader_pen_x v_X_reader_pen_y v_X_reader_pen_startX v_X_reader_pen_startY v_X_reader_pen_controlX v_X_reader_pen_controlY v_X_reader_pen_controlFor v_X_reader_pen_matrices_depth c_X_reader_pen_matrices_rows c_X_text_characters c_X_reader_numbers c_X_reader_pen_points c_X_reader_pen_drawn v_X_spare_count c_X_spare_numbers c_X_spare_kinds v_Y_fault v_Y_size v_Y_commands v_Y_drawn v_Y_depth v_Y_at v_Y_value v_Y_wrong v_Y_wantsMove v_Y_x v_Y_y v_Y_startX v_Y_startY v_Y_before v_Y_turnX v_Y_turnY v_Y_written v_Y_edges v_Y_wide v_Y_high v_Y_behind v_Y_whole c_Y_kinds c_Y_fromX c_Y_fromY c_Y_toX c_Y_toY c_Y_numbers c_Y_points c_Y_signs c_Y_matrix c_Y_text c_Y_given c_Y_drawnNumbers c_Y_drawnKinds c_out
def law (N : Nat) (sL : Nat) (sX : Nat → Int32) (x4 : Int32) (v_X_text_length : Int32) (v_X_written_length : Int32) (v_X_drawing_count : Int32) (v_X_cover_width : Int32) (v_X_cover_height : Int32) (v_X_cover_top : Int64) (v_X_cover_x : Int64) (v_X_cover_y : Int64) (v_X_cover_startX : Int64) (v_X_cover_startY : Int64) (c_X_drawing_kinds : (Nat → Int32)) (c_X_drawing_numbers : (Nat → Int32)) (c_X_cover_squares : (Nat → Int32)) (c_X_cover_changes : (Nat → Int32)) (c_X_written_characters : (Nat → Int32)) (c_X_given : (Nat → Int64)) (v_X_reader_at : Int32) (v_X_reader_wrong : Int32) (v_X_reader_moveIsDue : Int32) (v_X_reader_pen_x : Int64) (v_X_reader_pen_y : Int64) (v_X_reader_pen_startX : Int64) (v_X_reader_pen_startY : Int64) (v_X_reader_pen_controlX : Int64) (v_X_reader_pen_controlY : Int64) (v_X_reader_pen_controlFor : Int32) (v_X_reader_pen_matrices_depth : Int32) (c_X_reader_pen_matrices_rows : (Nat → Int64)) (c_X_text_characters : (Nat → Int32)) (c_X_reader_numbers : (Nat → Int64)) (c_X_reader_pen_points : (Nat → Int64)) (c_X_reader_pen_drawn : (Nat → Int64)) (v_X_spare_count : Int32) (c_X_spare_numbers : (Nat → Int32)) (c_X_spare_kinds : (Nat → Int32)) (v_Y_fault : Int32) (v_Y_size : Int32) (v_Y_commands : Int32) (v_Y_drawn : Int32) (v_Y_depth : Int32) (v_Y_at : Int32) (v_Y_value : Int64) (v_Y_wrong : Int32) (v_Y_wantsMove : Int32) (v_Y_x : Int64) (v_Y_y : Int64) (v_Y_startX : Int64) (v_Y_startY : Int64) (v_Y_before : Int32) (v_Y_turnX : Int64) (v_Y_turnY : Int64) (v_Y_written : Int32) (v_Y_edges : Int32) (v_Y_wide : Int32) (v_Y_high : Int32) (v_Y_behind : Int32) (v_Y_whole : Int64) (c_Y_kinds : (Nat → Int32)) (c_Y_fromX : (Nat → Int32)) (c_Y_fromY : (Nat → Int32)) (c_Y_toX : (Nat → Int32)) (c_Y_toY : (Nat → Int32)) (c_Y_numbers : (Nat → Int32)) (c_Y_points : (Nat → Int32)) (c_Y_signs : (Nat → Int32)) (c_Y_matrix : (Nat → Int64)) (c_Y_text : (Nat → Int32)) (c_Y_given : (Nat → Int64)) (c_Y_drawnNumbers : (Nat → Int32)) (c_Y_drawnKinds : (Nat → Int32)) (c_out : (Nat → Int64)) : Option (Int32 × Int32 × Int32 × Int32 × Int32 × Int32 × Int64 × Int64 × Int64 × Int64 × Int64 × (Nat → Int32) × (Nat → Int32) × (Nat → Int32) × (Nat → Int32) × (Nat → Int32) × (Nat → Int64) × Int32 × Int32 × Int32 × Int64 × Int64 × Int64 × Int64 × Int64 × Int64 × Int32 × Int32 × (Nat → Int64) × (Nat → Int32) × (Nat → Int64) × (Nat → Int64) × (Nat → Int64) × Int32 × (Nat → Int32) × (Nat → Int32) × Int32 × Int32 × Int32 × Int32 × Int32 × Int32 × Int64 × Int32 × Int32 × Int64 × Int64 × Int64 × Int64 × Int32 × Int64 × Int64 × Int32 × Int32 × Int32 × Int32 × Int32 × Int64 × (Nat → Int32) × (Nat → Int32) × (Nat → Int32) × (Nat → Int32) × (Nat → Int32) × (Nat → Int32) × (Nat → Int32) × (Nat → Int32) × (Nat → Int64) × (Nat → Int32) × (Nat → Int64) × (Nat → Int32) × (Nat → Int32) × (Nat → Int64)) :=
  law_L23 N sL sX N x4 v_X_text_length v_X_written_length v_X_drawing_count v_X_cover_width v_X_cover_height v_X_cover_top v_X_cover_x v_X_cover_y v_X_cover_startX v_X_cover_startY c_X_drawing_kinds c_X_drawing_numbers c_X_cover_squares c_X_cover_changes c_X_written_characters c_X_given v_X_reader_at v_X_reader_wrong v_X_reader_moveIsDue v_X_reader_pen_x v_X_reader_pen_y v_X_reader_pen_startX v_X_reader_pen_startY v_X_reader_pen_controlX v_X_reader_pen_controlY v_X_reader_pen_controlFor v_X_reader_pen_matrices_depth c_X_reader_pen_matrices_rows c_X_text_characters c_X_reader_numbers c_X_reader_pen_points c_X_reader_pen_drawn v_X_spare_count c_X_spare_numbers c_X_spare_kinds v_Y_fault v_Y_size v_Y_commands v_Y_drawn v_Y_depth v_Y_at v_Y_value v_Y_wrong v_Y_wantsMove v_Y_x v_Y_y v_Y_startX v_Y_startY v_Y_before v_Y_turnX v_Y_turnY v_Y_written v_Y_edges v_Y_wide v_Y_high v_Y_behind v_Y_whole c_Y_kinds c_Y_fromX c_Y_fromY c_Y_toX c_Y_toY c_Y_numbers c_Y_points c_Y_signs c_Y_matrix c_Y_text c_Y_given c_Y_drawnNumbers c_Y_drawnKinds c_out
