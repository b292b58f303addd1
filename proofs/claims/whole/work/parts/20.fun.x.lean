def jMath_floorDiv (x0 : Int64) (x2 : Int64) : Option (Int64) :=
  kg (knl x2) (
  if (0 : Int64) ≤ (x0 ^^^ x2) then
    some (x0 / x2)
  else
    if ((x0 / x2) * x2) = x0 then
        some (x0 / x2)
      else
        some ((x0 / x2) - (1 : Int64)))
def jArrays_fillJ_B6 (N : Nat) (n_p1 : Nat) (k6 : Int64 → Int32 → Int32 → (Nat → Int64) → Option ((Nat → Int64))) (x1 : Int64) (x3 : Int32) (x4 : Int32) (c_p1 : (Nat → Int64)) : Option ((Nat → Int64)) :=
  if x4 ≤ x3 then
    some c_p1
  else
    kg (ki x3 n_p1) (
      k6 x1 (x3 + (1 : Int32)) x4 (vp_updL c_p1 (x3).toNatClampNeg x1))
def jArrays_fillJ_L6 (N : Nat) (n_p1 : Nat) : Nat → Int64 → Int32 → Int32 → (Nat → Int64) → Option ((Nat → Int64))
  | 0 => fun _ _ _ _ => none
  | n + 1 => fun x1 x3 x4 c_p1 => jArrays_fillJ_B6 N n_p1 (jArrays_fillJ_L6 N n_p1 n) x1 x3 x4 c_p1
def jArrays_fillJ (N : Nat) (n_p1 : Nat) (x1 : Int64) (c_p1 : (Nat → Int64)) : Option ((Nat → Int64)) :=
  jArrays_fillJ_L6 N n_p1 N x1 (0 : Int32) (Int32.ofNat n_p1) c_p1
def jArrays_fillI_B5 (N : Nat) (n_p1 : Nat) (k5 : Int32 → Int32 → Int32 → (Nat → Int32) → Option ((Nat → Int32))) (x1 : Int32) (x2 : Int32) (x3 : Int32) (c_p1 : (Nat → Int32)) : Option ((Nat → Int32)) :=
  if x3 ≤ x2 then
    some c_p1
  else
    kg (ki x2 n_p1) (
      k5 x1 (x2 + (1 : Int32)) x3 (upd c_p1 (x2).toNatClampNeg x1))
def jArrays_fillI_L5 (N : Nat) (n_p1 : Nat) : Nat → Int32 → Int32 → Int32 → (Nat → Int32) → Option ((Nat → Int32))
  | 0 => fun _ _ _ _ => none
  | n + 1 => fun x1 x2 x3 c_p1 => jArrays_fillI_B5 N n_p1 (jArrays_fillI_L5 N n_p1 n) x1 x2 x3 c_p1
def jArrays_fillI (N : Nat) (n_p1 : Nat) (x1 : Int32) (c_p1 : (Nat → Int32)) : Option ((Nat → Int32)) :=
  jArrays_fillI_L5 N n_p1 N x1 (0 : Int32) (Int32.ofNat n_p1) c_p1
def xP_covered_b30 : Option (Nat × Int32) :=
  some (4, 0)
def xP_covered (x1 : Int32) (x2 : Int32) (v_o_cover_width : Int32) (v_o_cover_height : Int32) (c_o_cover_squares : (Nat → Int32)) : Option (Nat × Int32) :=
  if x1 < (0 : Int32) then
    xP_covered_b30
  else
    if v_o_cover_width ≤ x1 then
        xP_covered_b30
      else
        if x2 < (0 : Int32) then
            xP_covered_b30
          else
            if x2 < v_o_cover_height then
                kg (ki ((x2 * (8 : Int32)) + x1) 64) (
                  some (0, (c_o_cover_squares (((x2 * (8 : Int32)) + x1)).toNatClampNeg)))
              else
                xP_covered_b30
def xP_clear : Option (Int32 × Int32 × Int32 × Int32 × Int32) :=
  some ((0 : Int32), (0 : Int32), (0 : Int32), (0 : Int32), (0 : Int32))
def xP_byteOf (x0 : Int64) (x2 : Int32) : Option (Int32) :=
  some ((Int64.toInt32 (Int64.toUInt64 x0 >>> (Int64.toUInt64 (Int32.toInt64 ((8 : Int32) * x2)) &&& Int64.toUInt64 63)).toInt64) &&& (255 : Int32))
def xP_numbersOf (x0 : Int32) : Option (Int32) :=
  if x0 = (0 : Int32) then
    some (2 : Int32)
  else if x0 = (1 : Int32) then
    some (2 : Int32)
  else if x0 = (2 : Int32) then
    some (6 : Int32)
  else 
    some (0 : Int32)
def xP_isNumber (x0 : Int64) : Option (Int32) :=
  if x0 < (-1048576 : Int64) then
    some (0 : Int32)
  else
    if (1048576 : Int64) < x0 then
        some (0 : Int32)
      else
        some (1 : Int32)
def xP_areNumbers_B2 (N : Nat) (k2 : Int32 → Int32 → (Nat → Int64) → Option (Int32)) (x1 : Int32) (x2 : Int32) (c_p1 : (Nat → Int64)) : Option (Int32) :=
  if x1 ≤ x2 then
    some (1 : Int32)
  else
    if (6 : Int32) ≤ x2 then
        some (1 : Int32)
      else
        kg (ki x2 6) (
          kb1 (xP_isNumber (c_p1 (x2).toNatClampNeg)) fun r16 =>
          if r16 = (0 : Int32) then
            some (0 : Int32)
          else
            k2 x1 (x2 + (1 : Int32)) c_p1)
def xP_areNumbers_L2 (N : Nat) : Nat → Int32 → Int32 → (Nat → Int64) → Option (Int32)
  | 0 => fun _ _ _ => none
  | n + 1 => fun x1 x2 c_p1 => xP_areNumbers_B2 N (xP_areNumbers_L2 N n) x1 x2 c_p1
def xP_areNumbers (N : Nat) (x1 : Int32) (c_p1 : (Nat → Int64)) : Option (Int32) :=
  xP_areNumbers_L2 N N x1 (0 : Int32) c_p1
def xP_nearest (x0 : Int64) (x2 : Int64) : Option (Int64) :=
  if (1 : Int64) ≤ x2 then
    kb1 (jMath_floorDiv (((2 : Int64) * x0) + x2) ((2 : Int64) * x2)) fun r22 =>
      some r22
  else
    some (0 : Int64)
def xRow_put (n_o_characters : Nat) (x1 : Int32) (v_o_length : Int32) (c_o_characters : (Nat → Int32)) : Option (Int32 × (Nat → Int32)) :=
  if v_o_length < (0 : Int32) then
    some (v_o_length, c_o_characters)
  else
    if (Int32.ofNat n_o_characters) ≤ v_o_length then
        some (v_o_length, c_o_characters)
      else
        kg (ki v_o_length n_o_characters) (
          some ((v_o_length + (1 : Int32)), (upd c_o_characters (v_o_length).toNatClampNeg (vp_nar .char (k2c x1)))))
def xRow_at (n_o_characters : Nat) (x1 : Int32) (v_o_length : Int32) (c_o_characters : (Nat → Int32)) : Option (Int32) :=
  if x1 < (0 : Int32) then
    some (0 : Int32)
  else
    if v_o_length ≤ x1 then
        some (0 : Int32)
      else
        if (Int32.ofNat n_o_characters) ≤ x1 then
            some (0 : Int32)
          else
            kg (ki x1 n_o_characters) (
              kg (kc (c_o_characters (x1).toNatClampNeg)) (
              some (c_o_characters (x1).toNatClampNeg)))
def xDrawing_has (x1 : Int32) (v_o_count : Int32) : Option (Int32) :=
  if x1 < (0 : Int32) then
    some (0 : Int32)
  else
    if v_o_count ≤ x1 then
        some (0 : Int32)
      else
        if (150 : Int32) ≤ x1 then
            some (0 : Int32)
          else
            some (1 : Int32)
def xDrawing_add_B41 (N : Nat) (k41 : Int32 → Int32 → Int32 → Int32 → (Nat → Int32) → (Nat → Int32) → (Nat → Int64) → Option (Int32 × Int32 × (Nat → Int32) × (Nat → Int32))) (x1 : Int32) (x3 : Int32) (x4 : Int32) (v_o_count : Int32) (c_o_numbers : (Nat → Int32)) (c_o_kinds : (Nat → Int32)) (c_p2 : (Nat → Int64)) : Option (Int32 × Int32 × (Nat → Int32) × (Nat → Int32)) :=
  if x3 ≤ x4 then
    kg (ki v_o_count 150) (
      some ((1 : Int32), (v_o_count + (1 : Int32)), c_o_numbers, (upd c_o_kinds (v_o_count).toNatClampNeg x1)))
  else
    kg (ki x4 6) (
      kg (ki ((v_o_count * (6 : Int32)) + x4) 900) (
      k41 x1 x3 (x4 + (1 : Int32)) v_o_count (upd c_o_numbers (((v_o_count * (6 : Int32)) + x4)).toNatClampNeg (Int64.toInt32 (c_p2 (x4).toNatClampNeg))) c_o_kinds c_p2))
def xDrawing_add_L41 (N : Nat) : Nat → Int32 → Int32 → Int32 → Int32 → (Nat → Int32) → (Nat → Int32) → (Nat → Int64) → Option (Int32 × Int32 × (Nat → Int32) × (Nat → Int32))
  | 0 => fun _ _ _ _ _ _ _ => none
  | n + 1 => fun x1 x3 x4 v_o_count c_o_numbers c_o_kinds c_p2 => xDrawing_add_B41 N (xDrawing_add_L41 N n) x1 x3 x4 v_o_count c_o_numbers c_o_kinds c_p2
def xDrawing_add (N : Nat) (x1 : Int32) (v_o_count : Int32) (c_o_numbers : (Nat → Int32)) (c_o_kinds : (Nat → Int32)) (c_p2 : (Nat → Int64)) : Option (Int32 × Int32 × (Nat → Int32) × (Nat → Int32)) :=
  kb1 (xP_numbersOf x1) fun r1 =>
  if v_o_count < (0 : Int32) then
    some ((0 : Int32), v_o_count, c_o_numbers, c_o_kinds)
  else
    if (150 : Int32) ≤ v_o_count then
        some ((0 : Int32), v_o_count, c_o_numbers, c_o_kinds)
      else
        if (6 : Int32) < r1 then
            some ((0 : Int32), v_o_count, c_o_numbers, c_o_kinds)
          else
            kb1 (xP_areNumbers N r1 c_p2) fun r30 =>
              if r30 = (0 : Int32) then
                some ((0 : Int32), v_o_count, c_o_numbers, c_o_kinds)
              else
                xDrawing_add_L41 N N x1 r1 (0 : Int32) v_o_count c_o_numbers c_o_kinds c_p2
def xDrawing_extreme_b82 (N : Nat) (k8 : Int32 → Int32 → Int32 → Int32 → Int32 → Int32 → (Nat → Int32) → (Nat → Int32) → Option (Int32)) (k28 : Int32 → Int32 → Int32 → Int32 → Int32 → Int32 → Int32 → (Nat → Int32) → (Nat → Int32) → Option (Int32)) (x1 : Int32) (x2 : Int32) (x5 : Int32) (x6 : Int32) (x7 : Int32) (v_o_count : Int32) (c_o_kinds : (Nat → Int32)) (c_o_numbers : (Nat → Int32)) : Option (Int32) :=
  k28 x1 x2 x7 (0 : Int32) x5 (x6 + (2 : Int32)) v_o_count c_o_kinds c_o_numbers
def xDrawing_extreme_B28 (N : Nat) (k8 : Int32 → Int32 → Int32 → Int32 → Int32 → Int32 → (Nat → Int32) → (Nat → Int32) → Option (Int32)) (k28 : Int32 → Int32 → Int32 → Int32 → Int32 → Int32 → Int32 → (Nat → Int32) → (Nat → Int32) → Option (Int32)) (x1 : Int32) (x2 : Int32) (x3 : Int32) (x4 : Int32) (x5 : Int32) (x6 : Int32) (v_o_count : Int32) (c_o_kinds : (Nat → Int32)) (c_o_numbers : (Nat → Int32)) : Option (Int32) :=
  kg (ki x5 150) (
  kb1 (xP_numbersOf (c_o_kinds (x5).toNatClampNeg)) fun r37 =>
  if r37 ≤ x6 then
    k8 x1 x2 x3 x4 (x5 + (1 : Int32)) v_o_count c_o_kinds c_o_numbers
  else
    kg (ki ((x5 * (6 : Int32)) + x6) 900) (
      if x4 = (0 : Int32) then
        if x2 = (0 : Int32) then
            if x3 ≤ (c_o_numbers (((x5 * (6 : Int32)) + x6)).toNatClampNeg) then
                k28 x1 x2 x3 x4 x5 (x6 + (2 : Int32)) v_o_count c_o_kinds c_o_numbers
              else
                xDrawing_extreme_b82 N k8 k28 x1 x2 x5 x6 (c_o_numbers (((x5 * (6 : Int32)) + x6)).toNatClampNeg) v_o_count c_o_kinds c_o_numbers
          else
            if (c_o_numbers (((x5 * (6 : Int32)) + x6)).toNatClampNeg) ≤ x3 then
                k28 x1 x2 x3 x4 x5 (x6 + (2 : Int32)) v_o_count c_o_kinds c_o_numbers
              else
                xDrawing_extreme_b82 N k8 k28 x1 x2 x5 x6 (c_o_numbers (((x5 * (6 : Int32)) + x6)).toNatClampNeg) v_o_count c_o_kinds c_o_numbers
      else
        xDrawing_extreme_b82 N k8 k28 x1 x2 x5 x6 (c_o_numbers (((x5 * (6 : Int32)) + x6)).toNatClampNeg) v_o_count c_o_kinds c_o_numbers))
def xDrawing_extreme_L28 (N : Nat) (k8 : Int32 → Int32 → Int32 → Int32 → Int32 → Int32 → (Nat → Int32) → (Nat → Int32) → Option (Int32)) : Nat → Int32 → Int32 → Int32 → Int32 → Int32 → Int32 → Int32 → (Nat → Int32) → (Nat → Int32) → Option (Int32)
  | 0 => fun _ _ _ _ _ _ _ _ _ => none
  | n + 1 => fun x1 x2 x3 x4 x5 x6 v_o_count c_o_kinds c_o_numbers => xDrawing_extreme_B28 N k8 (xDrawing_extreme_L28 N k8 n) x1 x2 x3 x4 x5 x6 v_o_count c_o_kinds c_o_numbers
def xDrawing_extreme_B8 (N : Nat) (k8 : Int32 → Int32 → Int32 → Int32 → Int32 → Int32 → (Nat → Int32) → (Nat → Int32) → Option (Int32)) (x1 : Int32) (x2 : Int32) (x3 : Int32) (x4 : Int32) (x5 : Int32) (v_o_count : Int32) (c_o_kinds : (Nat → Int32)) (c_o_numbers : (Nat → Int32)) : Option (Int32) :=
  if (150 : Int32) ≤ x5 then
    some x3
  else
    if v_o_count ≤ x5 then
        some x3
      else
        xDrawing_extreme_L28 N k8 N x1 x2 x3 x4 x5 x1 v_o_count c_o_kinds c_o_numbers
def xDrawing_extreme_L8 (N : Nat) : Nat → Int32 → Int32 → Int32 → Int32 → Int32 → Int32 → (Nat → Int32) → (Nat → Int32) → Option (Int32)
  | 0 => fun _ _ _ _ _ _ _ _ => none
  | n + 1 => fun x1 x2 x3 x4 x5 v_o_count c_o_kinds c_o_numbers => xDrawing_extreme_B8 N (xDrawing_extreme_L8 N n) x1 x2 x3 x4 x5 v_o_count c_o_kinds c_o_numbers
def xDrawing_extreme (N : Nat) (x1 : Int32) (x2 : Int32) (v_o_count : Int32) (c_o_kinds : (Nat → Int32)) (c_o_numbers : (Nat → Int32)) : Option (Int32) :=
  xDrawing_extreme_L8 N N x1 x2 (0 : Int32) (1 : Int32) (0 : Int32) v_o_count c_o_kinds c_o_numbers
def xDrawing_edges_b85 (N : Nat) (x1 : Int32) (x2 : Int32) : Option (Int32) :=
  if x2 = (0 : Int32) then
    some x1
  else
    some (x1 + (1 : Int32))
def xDrawing_edges_b58 (N : Nat) (k6 : Int32 → Int32 → Int32 → Int32 → (Nat → Int32) → Option (Int32)) (x3 : Int32) (s0 : Int32) (s1 : Int32) (v_o_count : Int32) (c_o_kinds : (Nat → Int32)) : Option (Int32) :=
  k6 (s0 + s1) (1 : Int32) (x3 + (1 : Int32)) v_o_count c_o_kinds
def xDrawing_edges_b41 (N : Nat) (k6 : Int32 → Int32 → Int32 → Int32 → (Nat → Int32) → Option (Int32)) (x1 : Int32) (x3 : Int32) (v_o_count : Int32) (c_o_kinds : (Nat → Int32)) : Option (Int32) :=
  kg (ki x3 150) (
  if (c_o_kinds (x3).toNatClampNeg) = (1 : Int32) then
    xDrawing_edges_b58 N k6 x3 x1 (1 : Int32) v_o_count c_o_kinds
  else
    xDrawing_edges_b58 N k6 x3 x1 (16 : Int32) v_o_count c_o_kinds)
def xDrawing_edges_b75 (N : Nat) (k6 : Int32 → Int32 → Int32 → Int32 → (Nat → Int32) → Option (Int32)) (x3 : Int32) (s0 : Int32) (s1 : Int32) (v_o_count : Int32) (c_o_kinds : (Nat → Int32)) : Option (Int32) :=
  k6 (s0 + s1) (0 : Int32) (x3 + (1 : Int32)) v_o_count c_o_kinds
def xDrawing_edges_B6 (N : Nat) (k6 : Int32 → Int32 → Int32 → Int32 → (Nat → Int32) → Option (Int32)) (x1 : Int32) (x2 : Int32) (x3 : Int32) (v_o_count : Int32) (c_o_kinds : (Nat → Int32)) : Option (Int32) :=
  if (150 : Int32) ≤ x3 then
    xDrawing_edges_b85 N x1 x2
  else
    if v_o_count ≤ x3 then
        xDrawing_edges_b85 N x1 x2
      else
        kg (ki x3 150) (
          if (c_o_kinds (x3).toNatClampNeg) = (1 : Int32) then
            xDrawing_edges_b41 N k6 x1 x3 v_o_count c_o_kinds
          else
            kg (ki x3 150) (
              if (c_o_kinds (x3).toNatClampNeg) = (2 : Int32) then
                xDrawing_edges_b41 N k6 x1 x3 v_o_count c_o_kinds
              else
                if x2 = (0 : Int32) then
                    xDrawing_edges_b75 N k6 x3 x1 (0 : Int32) v_o_count c_o_kinds
                  else
                    xDrawing_edges_b75 N k6 x3 x1 (1 : Int32) v_o_count c_o_kinds))
def xDrawing_edges_L6 (N : Nat) : Nat → Int32 → Int32 → Int32 → Int32 → (Nat → Int32) → Option (Int32)
  | 0 => fun _ _ _ _ _ => none
  | n + 1 => fun x1 x2 x3 v_o_count c_o_kinds => xDrawing_edges_B6 N (xDrawing_edges_L6 N n) x1 x2 x3 v_o_count c_o_kinds
def xDrawing_edges (N : Nat) (v_o_count : Int32) (c_o_kinds : (Nat → Int32)) : Option (Int32) :=
  xDrawing_edges_L6 N N (0 : Int32) (0 : Int32) (0 : Int32) v_o_count c_o_kinds
def xMatrices_startOver (N : Nat) (c_o_rows : (Nat → Int64)) : Option (Int32 × (Nat → Int64)) :=
  kb1 (jArrays_fillJ N 54 (0 : Int64) c_o_rows) fun c_o_rows_10 =>
  some ((0 : Int32), (vp_updL (vp_updL c_o_rows_10 ((0 : Int32)).toNatClampNeg (256 : Int64)) ((3 : Int32)).toNatClampNeg (256 : Int64)))
def xMatrices_isFull (v_o_depth : Int32) : Option (Int32) :=
  if v_o_depth < (0 : Int32) then
    some (1 : Int32)
  else
    if v_o_depth < (8 : Int32) then
        some (0 : Int32)
      else
        some (1 : Int32)
def xMatrices_shut (v_o_depth : Int32) : Option (Int32 × Int32) :=
  if (0 : Int32) < v_o_depth then
    some ((1 : Int32), (v_o_depth - (1 : Int32)))
  else
    some ((0 : Int32), v_o_depth)
def xMatrices_across (x1 : Int64) (x3 : Int64) (x5 : Int32) (x6 : Int32) (v_o_depth : Int32) (c_o_rows : (Nat → Int64)) : Option (Int64) :=
  if ((v_o_depth * (6 : Int32)) + x5) < (0 : Int32) then
    some (0 : Int64)
  else
    if (((v_o_depth * (6 : Int32)) + x5) + (4 : Int32)) < (54 : Int32) then
        kg (ki ((v_o_depth * (6 : Int32)) + x5) 54) (
          kg (ki (((v_o_depth * (6 : Int32)) + x5) + (2 : Int32)) 54) (
          kb1 (xP_nearest (((c_o_rows (((v_o_depth * (6 : Int32)) + x5)).toNatClampNeg) * x1) + ((c_o_rows ((((v_o_depth * (6 : Int32)) + x5) + (2 : Int32))).toNatClampNeg) * x3)) (256 : Int64)) fun r55 =>
          if x6 = (0 : Int32) then
            some r55
          else
            kg (ki (((v_o_depth * (6 : Int32)) + x5) + (4 : Int32)) 54) (
              some (r55 + (c_o_rows ((((v_o_depth * (6 : Int32)) + x5) + (4 : Int32))).toNatClampNeg)))))
      else
        some (0 : Int64)
def xPen_standAtZero : Option (Int64 × Int64 × Int32) :=
  some ((0 : Int64), (0 : Int64), (0 : Int32))
def xPen_takePoints_b54 (N : Nat) (k2 : Int32 → Int32 → Int64 → Int64 → (Nat → Int64) → (Nat → Int64) → Option ((Nat → Int64))) (x1 : Int32) (x3 : Int32) (s1 : Int32) (s2 : Int64) (v_o_x : Int64) (v_o_y : Int64) (c_o_points : (Nat → Int64)) (c_p2 : (Nat → Int64)) : Option ((Nat → Int64)) :=
  kg (ki s1 6) (
  k2 x1 (x3 + (1 : Int32)) v_o_x v_o_y (vp_updL c_o_points (s1).toNatClampNeg s2) c_p2)
def xPen_takePoints_b31 (N : Nat) (k2 : Int32 → Int32 → Int64 → Int64 → (Nat → Int64) → (Nat → Int64) → Option ((Nat → Int64))) (x1 : Int32) (x3 : Int32) (s0 : Int64) (v_o_x : Int64) (v_o_y : Int64) (c_o_points : (Nat → Int64)) (c_p2 : (Nat → Int64)) : Option ((Nat → Int64)) :=
  if x1 = (0 : Int32) then
    kg (ki x3 6) (
      xPen_takePoints_b54 N k2 x1 x3 x3 (c_p2 (x3).toNatClampNeg) v_o_x v_o_y c_o_points c_p2)
  else
    kg (ki x3 6) (
      xPen_takePoints_b54 N k2 x1 x3 x3 (s0 + (c_p2 (x3).toNatClampNeg)) v_o_x v_o_y c_o_points c_p2)
def xPen_takePoints_B2 (N : Nat) (k2 : Int32 → Int32 → Int64 → Int64 → (Nat → Int64) → (Nat → Int64) → Option ((Nat → Int64))) (x1 : Int32) (x3 : Int32) (v_o_x : Int64) (v_o_y : Int64) (c_o_points : (Nat → Int64)) (c_p2 : (Nat → Int64)) : Option ((Nat → Int64)) :=
  if (6 : Int32) ≤ x3 then
    some c_o_points
  else
    if (6 : Int32) ≤ x3 then
        some c_o_points
      else
        if (x3 - x3 / (2 : Int32) * (2 : Int32)) = (0 : Int32) then
            xPen_takePoints_b31 N k2 x1 x3 v_o_x v_o_x v_o_y c_o_points c_p2
          else
            xPen_takePoints_b31 N k2 x1 x3 v_o_y v_o_x v_o_y c_o_points c_p2
def xPen_takePoints_L2 (N : Nat) : Nat → Int32 → Int32 → Int64 → Int64 → (Nat → Int64) → (Nat → Int64) → Option ((Nat → Int64))
  | 0 => fun _ _ _ _ _ _ => none
  | n + 1 => fun x1 x3 v_o_x v_o_y c_o_points c_p2 => xPen_takePoints_B2 N (xPen_takePoints_L2 N n) x1 x3 v_o_x v_o_y c_o_points c_p2
def xPen_takePoints (N : Nat) (x1 : Int32) (v_o_x : Int64) (v_o_y : Int64) (c_o_points : (Nat → Int64)) (c_p2 : (Nat → Int64)) : Option ((Nat → Int64)) :=
  xPen_takePoints_L2 N N x1 (0 : Int32) v_o_x v_o_y c_o_points c_p2
def xPen_putTurnedFirst_b86 (N : Nat) (s1 : Int32) (s2 : Int64) (c_o_points : (Nat → Int64)) : Option ((Nat → Int64)) :=
  kg (ki s1 6) (
  some (vp_updL c_o_points (s1).toNatClampNeg s2))
def xPen_putTurnedFirst_b56 (N : Nat) (x1 : Int32) (s1 : Int32) (s2 : Int64) (v_o_y : Int64) (v_o_controlY : Int64) (c_o_points : (Nat → Int64)) : Option ((Nat → Int64)) :=
  kg (ki s1 6) (
  if x1 = (0 : Int32) then
    xPen_putTurnedFirst_b86 N (1 : Int32) v_o_y (vp_updL c_o_points (s1).toNatClampNeg s2)
  else
    xPen_putTurnedFirst_b86 N (1 : Int32) (((2 : Int64) * v_o_y) - v_o_controlY) (vp_updL c_o_points (s1).toNatClampNeg s2))
def xPen_putTurnedFirst_B2 (N : Nat) (k2 : Int32 → Int32 → Int64 → Int64 → Int64 → Int64 → (Nat → Int64) → Option ((Nat → Int64))) (x1 : Int32) (x2 : Int32) (v_o_x : Int64) (v_o_y : Int64) (v_o_controlX : Int64) (v_o_controlY : Int64) (c_o_points : (Nat → Int64)) : Option ((Nat → Int64)) :=
  if x2 < (2 : Int32) then
    if x1 = (0 : Int32) then
        xPen_putTurnedFirst_b56 N x1 (0 : Int32) v_o_x v_o_y v_o_controlY c_o_points
      else
        xPen_putTurnedFirst_b56 N x1 (0 : Int32) (((2 : Int64) * v_o_x) - v_o_controlX) v_o_y v_o_controlY c_o_points
  else
    kg (ki (x2 - (2 : Int32)) 6) (
      kg (ki x2 6) (
      k2 x1 (x2 + (-1 : Int32)) v_o_x v_o_y v_o_controlX v_o_controlY (vp_updL c_o_points (x2).toNatClampNeg (c_o_points ((x2 - (2 : Int32))).toNatClampNeg))))
def xPen_putTurnedFirst_L2 (N : Nat) : Nat → Int32 → Int32 → Int64 → Int64 → Int64 → Int64 → (Nat → Int64) → Option ((Nat → Int64))
  | 0 => fun _ _ _ _ _ _ _ => none
  | n + 1 => fun x1 x2 v_o_x v_o_y v_o_controlX v_o_controlY c_o_points => xPen_putTurnedFirst_B2 N (xPen_putTurnedFirst_L2 N n) x1 x2 v_o_x v_o_y v_o_controlX v_o_controlY c_o_points
def xPen_putTurnedFirst (N : Nat) (x1 : Int32) (v_o_x : Int64) (v_o_y : Int64) (v_o_controlX : Int64) (v_o_controlY : Int64) (c_o_points : (Nat → Int64)) : Option ((Nat → Int64)) :=
  xPen_putTurnedFirst_L2 N N x1 (5 : Int32) v_o_x v_o_y v_o_controlX v_o_controlY c_o_points
def xPen_aimByTwoControls (c_o_points : (Nat → Int64)) : Option (Int64 × Int64 × Int32) :=
  some ((c_o_points ((2 : Int32)).toNatClampNeg), (c_o_points ((3 : Int32)).toNatClampNeg), (67 : Int32))
def xPen_aimByOneControl (v_o_x : Int64) (v_o_y : Int64) (c_o_points : (Nat → Int64)) : Option (Int64 × Int64 × Int32 × (Nat → Int64)) :=
  kb1 (xP_nearest (v_o_x + ((2 : Int64) * (c_o_points ((0 : Int32)).toNatClampNeg))) (3 : Int64)) fun r71 =>
  kb1 (xP_nearest (v_o_y + ((2 : Int64) * (c_o_points ((1 : Int32)).toNatClampNeg))) (3 : Int64)) fun r96 =>
  kb1 (xP_nearest (((vp_updL (vp_updL (vp_updL (vp_updL c_o_points ((4 : Int32)).toNatClampNeg (c_o_points ((2 : Int32)).toNatClampNeg)) ((5 : Int32)).toNatClampNeg ((vp_updL c_o_points ((4 : Int32)).toNatClampNeg (c_o_points ((2 : Int32)).toNatClampNeg)) ((3 : Int32)).toNatClampNeg)) ((0 : Int32)).toNatClampNeg r71) ((1 : Int32)).toNatClampNeg r96) ((4 : Int32)).toNatClampNeg) + ((2 : Int64) * (c_o_points ((0 : Int32)).toNatClampNeg))) (3 : Int64)) fun r123 =>
  kb1 (xP_nearest (((vp_updL (vp_updL (vp_updL (vp_updL (vp_updL c_o_points ((4 : Int32)).toNatClampNeg (c_o_points ((2 : Int32)).toNatClampNeg)) ((5 : Int32)).toNatClampNeg ((vp_updL c_o_points ((4 : Int32)).toNatClampNeg (c_o_points ((2 : Int32)).toNatClampNeg)) ((3 : Int32)).toNatClampNeg)) ((0 : Int32)).toNatClampNeg r71) ((1 : Int32)).toNatClampNeg r96) ((2 : Int32)).toNatClampNeg r123) ((5 : Int32)).toNatClampNeg) + ((2 : Int64) * (c_o_points ((1 : Int32)).toNatClampNeg))) (3 : Int64)) fun r150 =>
  some ((c_o_points ((0 : Int32)).toNatClampNeg), (c_o_points ((1 : Int32)).toNatClampNeg), (81 : Int32), (vp_updL (vp_updL (vp_updL (vp_updL (vp_updL (vp_updL c_o_points ((4 : Int32)).toNatClampNeg (c_o_points ((2 : Int32)).toNatClampNeg)) ((5 : Int32)).toNatClampNeg ((vp_updL c_o_points ((4 : Int32)).toNatClampNeg (c_o_points ((2 : Int32)).toNatClampNeg)) ((3 : Int32)).toNatClampNeg)) ((0 : Int32)).toNatClampNeg r71) ((1 : Int32)).toNatClampNeg r96) ((2 : Int32)).toNatClampNeg r123) ((3 : Int32)).toNatClampNeg r150))
def xPen_draw_b142 (N : Nat) (x1 : Int32) (v_o_x : Int64) (v_o_y : Int64) (c_o_drawn : (Nat → Int64)) (v_p2_count : Int32) (c_p2_numbers : (Nat → Int32)) (c_p2_kinds : (Nat → Int32)) : Option (Int32 × Int64 × Int64 × (Nat → Int64) × Int32 × (Nat → Int32) × (Nat → Int32)) :=
  kb4 (xDrawing_add N x1 v_p2_count c_p2_numbers c_p2_kinds c_o_drawn) fun r148 v_p2_count_148 c_p2_numbers_148 c_p2_kinds_148 =>
  kg (kz r148) (
  some (r148, v_o_x, v_o_y, c_o_drawn, v_p2_count_148, c_p2_numbers_148, c_p2_kinds_148))
def xPen_draw_b121 (N : Nat) (x1 : Int32) (v_o_x : Int64) (v_o_y : Int64) (v_o_startX : Int64) (v_o_startY : Int64) (c_o_drawn : (Nat → Int64)) (v_p2_count : Int32) (c_p2_numbers : (Nat → Int32)) (c_p2_kinds : (Nat → Int32)) : Option (Int32 × Int64 × Int64 × (Nat → Int64) × Int32 × (Nat → Int32) × (Nat → Int32)) :=
  if x1 = (3 : Int32) then
    xPen_draw_b142 N x1 v_o_startX v_o_startY c_o_drawn v_p2_count c_p2_numbers c_p2_kinds
  else
    xPen_draw_b142 N x1 v_o_x v_o_y c_o_drawn v_p2_count c_p2_numbers c_p2_kinds
def xPen_draw_B8 (N : Nat) (k8 : Int32 → Int32 → Int32 → Int64 → Int64 → Int64 → Int64 → (Nat → Int64) → Int32 → (Nat → Int64) → (Nat → Int64) → Int32 → (Nat → Int32) → (Nat → Int32) → Option (Int32 × Int64 × Int64 × (Nat → Int64) × Int32 × (Nat → Int32) × (Nat → Int32))) (x1 : Int32) (x3 : Int32) (x4 : Int32) (v_o_x : Int64) (v_o_y : Int64) (v_o_startX : Int64) (v_o_startY : Int64) (c_o_points : (Nat → Int64)) (v_o_matrices_depth : Int32) (c_o_matrices_rows : (Nat → Int64)) (c_o_drawn : (Nat → Int64)) (v_p2_count : Int32) (c_p2_numbers : (Nat → Int32)) (c_p2_kinds : (Nat → Int32)) : Option (Int32 × Int64 × Int64 × (Nat → Int64) × Int32 × (Nat → Int32) × (Nat → Int32)) :=
  if x3 ≤ (x4 + (1 : Int32)) then
    xPen_draw_b121 N x1 v_o_x v_o_y v_o_startX v_o_startY c_o_drawn v_p2_count c_p2_numbers c_p2_kinds
  else
    if (6 : Int32) ≤ (x4 + (1 : Int32)) then
        xPen_draw_b121 N x1 v_o_x v_o_y v_o_startX v_o_startY c_o_drawn v_p2_count c_p2_numbers c_p2_kinds
      else
        kg (ki x4 6) (
          kg (ki (x4 + (1 : Int32)) 6) (
          kb1 (xMatrices_across (c_o_points (x4).toNatClampNeg) (c_o_points ((x4 + (1 : Int32))).toNatClampNeg) (0 : Int32) (1 : Int32) v_o_matrices_depth c_o_matrices_rows) fun r53 =>
          kg (ki x4 6) (
          kg (ki x4 6) (
          kg (ki (x4 + (1 : Int32)) 6) (
          kb1 (xMatrices_across (c_o_points (x4).toNatClampNeg) (c_o_points ((x4 + (1 : Int32))).toNatClampNeg) (1 : Int32) (1 : Int32) v_o_matrices_depth c_o_matrices_rows) fun r87 =>
          kg (ki (x4 + (1 : Int32)) 6) (
          kg (ki x4 6) (
          kg (ki (x4 + (1 : Int32)) 6) (
          k8 x1 x3 (x4 + (2 : Int32)) (c_o_points (x4).toNatClampNeg) (c_o_points ((x4 + (1 : Int32))).toNatClampNeg) v_o_startX v_o_startY c_o_points v_o_matrices_depth c_o_matrices_rows (vp_updL (vp_updL c_o_drawn (x4).toNatClampNeg r53) ((x4 + (1 : Int32))).toNatClampNeg r87) v_p2_count c_p2_numbers c_p2_kinds))))))))
def xPen_draw_L8 (N : Nat) : Nat → Int32 → Int32 → Int32 → Int64 → Int64 → Int64 → Int64 → (Nat → Int64) → Int32 → (Nat → Int64) → (Nat → Int64) → Int32 → (Nat → Int32) → (Nat → Int32) → Option (Int32 × Int64 × Int64 × (Nat → Int64) × Int32 × (Nat → Int32) × (Nat → Int32))
  | 0 => fun _ _ _ _ _ _ _ _ _ _ _ _ _ _ => none
  | n + 1 => fun x1 x3 x4 v_o_x v_o_y v_o_startX v_o_startY c_o_points v_o_matrices_depth c_o_matrices_rows c_o_drawn v_p2_count c_p2_numbers c_p2_kinds => xPen_draw_B8 N (xPen_draw_L8 N n) x1 x3 x4 v_o_x v_o_y v_o_startX v_o_startY c_o_points v_o_matrices_depth c_o_matrices_rows c_o_drawn v_p2_count c_p2_numbers c_p2_kinds
def xPen_draw (N : Nat) (x1 : Int32) (v_o_x : Int64) (v_o_y : Int64) (v_o_startX : Int64) (v_o_startY : Int64) (c_o_points : (Nat → Int64)) (v_o_matrices_depth : Int32) (c_o_matrices_rows : (Nat → Int64)) (c_o_drawn : (Nat → Int64)) (v_p2_count : Int32) (c_p2_numbers : (Nat → Int32)) (c_p2_kinds : (Nat → Int32)) : Option (Int32 × Int64 × Int64 × (Nat → Int64) × Int32 × (Nat → Int32) × (Nat → Int32)) :=
  kb1 (xP_numbersOf x1) fun r1 =>
  xPen_draw_L8 N N x1 r1 (0 : Int32) v_o_x v_o_y v_o_startX v_o_startY c_o_points v_o_matrices_depth c_o_matrices_rows c_o_drawn v_p2_count c_p2_numbers c_p2_kinds
def xReader_passBracket : Option (Int32 × Int64 × Int64 × Int32) :=
  kb3 (xPen_standAtZero) fun v_o_pen_x_9 v_o_pen_y_9 v_o_pen_controlFor_9 =>
  some ((1 : Int32), v_o_pen_x_9, v_o_pen_y_9, v_o_pen_controlFor_9)
def xReader_numbersBehind (x0 : Int32) : Option (Int32) :=
  if x0 = (67 : Int32) then
    some (6 : Int32)
  else if x0 = (72 : Int32) then
    some (1 : Int32)
  else if x0 = (76 : Int32) then
    some (2 : Int32)
  else if x0 = (77 : Int32) then
    some (2 : Int32)
  else if x0 = (81 : Int32) then
    some (4 : Int32)
  else if x0 = (83 : Int32) then
    some (4 : Int32)
  else if x0 = (84 : Int32) then
    some (2 : Int32)
  else if x0 = (86 : Int32) then
    some (1 : Int32)
  else if x0 = (90 : Int32) then
    some (0 : Int32)
  else 
    some (-1 : Int32)
def xReader_isDigit (x0 : Int32) : Option (Int32) :=
  if x0 < (48 : Int32) then
    some (0 : Int32)
  else
    if (57 : Int32) < x0 then
        some (0 : Int32)
      else
        some (1 : Int32)
def xReader_passBlanks_b46 (N : Nat) (k0 : Int32 → Int32 → (Nat → Int32) → Option (Int32)) (v_o_at : Int32) (v_o_text_length : Int32) (c_o_text_characters : (Nat → Int32)) : Option (Int32) :=
  k0 (v_o_at + (1 : Int32)) v_o_text_length c_o_text_characters
def xReader_passBlanks_B0 (N : Nat) (k0 : Int32 → Int32 → (Nat → Int32) → Option (Int32)) (v_o_at : Int32) (v_o_text_length : Int32) (c_o_text_characters : (Nat → Int32)) : Option (Int32) :=
  if v_o_text_length ≤ v_o_at then
    some v_o_at
  else
    kb1 (xRow_at 1200 v_o_at v_o_text_length c_o_text_characters) fun r22 =>
      if r22 = (32 : Int32) then
        xReader_passBlanks_b46 N k0 v_o_at v_o_text_length c_o_text_characters
      else
        kb1 (xRow_at 1200 v_o_at v_o_text_length c_o_text_characters) fun r38 =>
          if r38 = (44 : Int32) then
            xReader_passBlanks_b46 N k0 v_o_at v_o_text_length c_o_text_characters
          else
            some v_o_at
def xReader_passBlanks_L0 (N : Nat) : Nat → Int32 → Int32 → (Nat → Int32) → Option (Int32)
  | 0 => fun _ _ _ => none
  | n + 1 => fun v_o_at v_o_text_length c_o_text_characters => xReader_passBlanks_B0 N (xReader_passBlanks_L0 N n) v_o_at v_o_text_length c_o_text_characters
def xReader_passBlanks (N : Nat) (v_o_at : Int32) (v_o_text_length : Int32) (c_o_text_characters : (Nat → Int32)) : Option (Int32) :=
  xReader_passBlanks_L0 N N v_o_at v_o_text_length c_o_text_characters
def xReader_seeWrong (x1 : Int32) : Option (Int32 × Int32) :=
  some ((0 : Int32), x1)
def xWriter_letterOf (x0 : Int32) : Option (Int32) :=
  if x0 = (0 : Int32) then
    some (77 : Int32)
  else if x0 = (1 : Int32) then
    some (76 : Int32)
  else if x0 = (2 : Int32) then
    some (67 : Int32)
  else 
    some (90 : Int32)
def xWriter_tens (x0 : Int32) : Option (Int64) :=
  if x0 < (0 : Int32) then
    some (1 : Int64)
  else
    if x0 < (10 : Int32) then
        kg (ki x0 10) (
          some (k_tens (x0).toNatClampNeg))
      else
        some (1 : Int64)
def xWriter_putDigits_B5 (N : Nat) (n_p3_characters : Nat) (k5 : Int64 → Int32 → Int32 → (Nat → Int32) → Option (Int32 × (Nat → Int32))) (x0 : Int64) (x4 : Int32) (v_p3_length : Int32) (c_p3_characters : (Nat → Int32)) : Option (Int32 × (Nat → Int32)) :=
  if x4 < (0 : Int32) then
    some (v_p3_length, c_p3_characters)
  else
    kb1 (xWriter_tens x4) fun r17 =>
      kg (knl r17) (
      kb2 (xRow_put n_p3_characters (Int64.toInt32 ((48 : Int64) + ((x0 / r17) - (x0 / r17) / (10 : Int64) * (10 : Int64)))) v_p3_length c_p3_characters) fun v_p3_length_27 c_p3_characters_27 =>
      k5 x0 (x4 + (-1 : Int32)) v_p3_length_27 c_p3_characters_27)
def xWriter_putDigits_L5 (N : Nat) (n_p3_characters : Nat) : Nat → Int64 → Int32 → Int32 → (Nat → Int32) → Option (Int32 × (Nat → Int32))
  | 0 => fun _ _ _ _ => none
  | n + 1 => fun x0 x4 v_p3_length c_p3_characters => xWriter_putDigits_B5 N n_p3_characters (xWriter_putDigits_L5 N n_p3_characters n) x0 x4 v_p3_length c_p3_characters
def xWriter_putDigits (N : Nat) (n_p3_characters : Nat) (x0 : Int64) (x2 : Int32) (v_p3_length : Int32) (c_p3_characters : (Nat → Int32)) : Option (Int32 × (Nat → Int32)) :=
  xWriter_putDigits_L5 N n_p3_characters N x0 (x2 - (1 : Int32)) v_p3_length c_p3_characters
def xCover_onCurve (x0 : Int64) (x2 : Int64) (x4 : Int64) (x6 : Int64) (x8 : Int64) : Option (Int64) :=
  kb1 (xP_nearest ((((((x0 * ((16 : Int64) - x8)) * ((16 : Int64) - x8)) * ((16 : Int64) - x8)) + (((((3 : Int64) * x2) * ((16 : Int64) - x8)) * ((16 : Int64) - x8)) * x8)) + (((((3 : Int64) * x4) * ((16 : Int64) - x8)) * x8) * x8)) + (((x6 * x8) * x8) * x8)) (4096 : Int64)) fun r68 =>
  some r68
def xCover_firstPointFrom (x0 : Int64) (x2 : Int32) : Option (Int32) :=
  if (0 : Int64) ≤ ((x0 + (7 : Int64)) >>> (Int32.toInt64 (4 : Int32) &&& 63)) then
    if ((x0 + (7 : Int64)) >>> (Int32.toInt64 (4 : Int32) &&& 63)) ≤ (Int32.toInt64 x2) then
        some (Int64.toInt32 ((x0 + (7 : Int64)) >>> (Int32.toInt64 (4 : Int32) &&& 63)))
      else
        some x2
  else
    some (0 : Int32)
def xCover_countPoints_b76 (N : Nat) (k5 : Int32 → Int32 → Int32 → Int32 → Int32 → (Nat → Int32) → (Nat → Int32) → Option (Int32 × (Nat → Int32))) (k18 : Int32 → Int32 → Int32 → Int32 → Int32 → Int32 → Int32 → (Nat → Int32) → (Nat → Int32) → Option (Int32 × (Nat → Int32))) (x1 : Int32) (x2 : Int32) (x3 : Int32) (x4 : Int32) (x5 : Int32) (x6 : Int32) (v_o_width : Int32) (c_o_changes : (Nat → Int32)) (c_o_squares : (Nat → Int32)) : Option (Int32 × (Nat → Int32)) :=
  kg (ki ((x1 * (8 : Int32)) + (x6 / (16 : Int32))) 64) (
  kg (ki ((x1 * (8 : Int32)) + (x6 / (16 : Int32))) 64) (
  k18 x1 x2 (x3 + (1 : Int32)) x4 x5 (x6 + (1 : Int32)) v_o_width c_o_changes (upd c_o_squares (((x1 * (8 : Int32)) + (x6 / (16 : Int32)))).toNatClampNeg ((c_o_squares (((x1 * (8 : Int32)) + (x6 / (16 : Int32)))).toNatClampNeg) + (1 : Int32)))))
def xCover_countPoints_B18 (N : Nat) (k5 : Int32 → Int32 → Int32 → Int32 → Int32 → (Nat → Int32) → (Nat → Int32) → Option (Int32 × (Nat → Int32))) (k18 : Int32 → Int32 → Int32 → Int32 → Int32 → Int32 → Int32 → (Nat → Int32) → (Nat → Int32) → Option (Int32 × (Nat → Int32))) (x1 : Int32) (x2 : Int32) (x3 : Int32) (x4 : Int32) (x5 : Int32) (x6 : Int32) (v_o_width : Int32) (c_o_changes : (Nat → Int32)) (c_o_squares : (Nat → Int32)) : Option (Int32 × (Nat → Int32)) :=
  if (v_o_width * (16 : Int32)) ≤ x6 then
    k5 x1 x2 x3 (x4 + (1 : Int32)) v_o_width c_o_changes c_o_squares
  else
    if (128 : Int32) ≤ x6 then
        k5 x1 x2 x3 (x4 + (1 : Int32)) v_o_width c_o_changes c_o_squares
      else
        kg (ki ((x4 * (128 : Int32)) + x6) 2048) (
          if x2 = (0 : Int32) then
            if (x5 + (c_o_changes (((x4 * (128 : Int32)) + x6)).toNatClampNeg)) = (0 : Int32) then
                k18 x1 x2 x3 x4 (x5 + (c_o_changes (((x4 * (128 : Int32)) + x6)).toNatClampNeg)) (x6 + (1 : Int32)) v_o_width c_o_changes c_o_squares
              else
                xCover_countPoints_b76 N k5 k18 x1 x2 x3 x4 (x5 + (c_o_changes (((x4 * (128 : Int32)) + x6)).toNatClampNeg)) x6 v_o_width c_o_changes c_o_squares
          else
            if ((x5 + (c_o_changes (((x4 * (128 : Int32)) + x6)).toNatClampNeg)) - (x5 + (c_o_changes (((x4 * (128 : Int32)) + x6)).toNatClampNeg)) / (2 : Int32) * (2 : Int32)) = (0 : Int32) then
                k18 x1 x2 x3 x4 (x5 + (c_o_changes (((x4 * (128 : Int32)) + x6)).toNatClampNeg)) (x6 + (1 : Int32)) v_o_width c_o_changes c_o_squares
              else
                xCover_countPoints_b76 N k5 k18 x1 x2 x3 x4 (x5 + (c_o_changes (((x4 * (128 : Int32)) + x6)).toNatClampNeg)) x6 v_o_width c_o_changes c_o_squares)
def xCover_countPoints_L18 (N : Nat) (k5 : Int32 → Int32 → Int32 → Int32 → Int32 → (Nat → Int32) → (Nat → Int32) → Option (Int32 × (Nat → Int32))) : Nat → Int32 → Int32 → Int32 → Int32 → Int32 → Int32 → Int32 → (Nat → Int32) → (Nat → Int32) → Option (Int32 × (Nat → Int32))
  | 0 => fun _ _ _ _ _ _ _ _ _ => none
  | n + 1 => fun x1 x2 x3 x4 x5 x6 v_o_width c_o_changes c_o_squares => xCover_countPoints_B18 N k5 (xCover_countPoints_L18 N k5 n) x1 x2 x3 x4 x5 x6 v_o_width c_o_changes c_o_squares
def xCover_countPoints_B5 (N : Nat) (k5 : Int32 → Int32 → Int32 → Int32 → Int32 → (Nat → Int32) → (Nat → Int32) → Option (Int32 × (Nat → Int32))) (x1 : Int32) (x2 : Int32) (x3 : Int32) (x4 : Int32) (v_o_width : Int32) (c_o_changes : (Nat → Int32)) (c_o_squares : (Nat → Int32)) : Option (Int32 × (Nat → Int32)) :=
  if (16 : Int32) ≤ x4 then
    some (x3, c_o_squares)
  else
    xCover_countPoints_L18 N k5 N x1 x2 x3 x4 (0 : Int32) (0 : Int32) v_o_width c_o_changes c_o_squares
def xCover_countPoints_L5 (N : Nat) : Nat → Int32 → Int32 → Int32 → Int32 → Int32 → (Nat → Int32) → (Nat → Int32) → Option (Int32 × (Nat → Int32))
  | 0 => fun _ _ _ _ _ _ _ => none
  | n + 1 => fun x1 x2 x3 x4 v_o_width c_o_changes c_o_squares => xCover_countPoints_B5 N (xCover_countPoints_L5 N n) x1 x2 x3 x4 v_o_width c_o_changes c_o_squares
def xCover_countPoints (N : Nat) (x1 : Int32) (x2 : Int32) (v_o_width : Int32) (c_o_changes : (Nat → Int32)) (c_o_squares : (Nat → Int32)) : Option (Int32 × (Nat → Int32)) :=
  xCover_countPoints_L5 N N x1 x2 (0 : Int32) (0 : Int32) v_o_width c_o_changes c_o_squares
def xP_text_B86 (N : Nat) (k86 : Int64 → Int32 → Int32 → (Nat → Int32) → Option (Nat × Int32 × Int32 × (Nat → Int32))) (x1 : Int64) (x4 : Int32) (v_o_text_length : Int32) (c_o_text_characters : (Nat → Int32)) : Option (Nat × Int32 × Int32 × (Nat → Int32)) :=
  if (8 : Int32) ≤ x4 then
    some (0, v_o_text_length, v_o_text_length, c_o_text_characters)
  else
    kb1 (xP_byteOf x1 x4) fun r96 =>
      if r96 = (0 : Int32) then
        k86 x1 (x4 + (1 : Int32)) v_o_text_length c_o_text_characters
      else
        kb2 (xRow_put 1200 r96 v_o_text_length c_o_text_characters) fun v_o_text_length_112 c_o_text_characters_112 =>
          k86 x1 (x4 + (1 : Int32)) v_o_text_length_112 c_o_text_characters_112
def xP_text_L86 (N : Nat) : Nat → Int64 → Int32 → Int32 → (Nat → Int32) → Option (Nat × Int32 × Int32 × (Nat → Int32))
  | 0 => fun _ _ _ _ => none
  | n + 1 => fun x1 x4 v_o_text_length c_o_text_characters => xP_text_B86 N (xP_text_L86 N n) x1 x4 v_o_text_length c_o_text_characters
def xP_text_b39 (N : Nat) (v_o_text_length : Int32) (c_o_text_characters : (Nat → Int32)) : Option (Nat × Int32 × Int32 × (Nat → Int32)) :=
  some (1, 0, v_o_text_length, c_o_text_characters)
def xP_text_B5 (N : Nat) (k5 : Int64 → Int32 → Int32 → Int32 → (Nat → Int32) → Option (Nat × Int32 × Int32 × (Nat → Int32))) (x1 : Int64) (x3 : Int32) (x4 : Int32) (v_o_text_length : Int32) (c_o_text_characters : (Nat → Int32)) : Option (Nat × Int32 × Int32 × (Nat → Int32)) :=
  if (8 : Int32) ≤ x4 then
    if (v_o_text_length + x3) ≤ (1200 : Int32) then
        xP_text_L86 N N x1 (0 : Int32) v_o_text_length c_o_text_characters
      else
        some (3, 0, v_o_text_length, c_o_text_characters)
  else
    kb1 (xP_byteOf x1 x4) fun r15 =>
      if r15 = (0 : Int32) then
        k5 x1 x3 (x4 + (1 : Int32)) v_o_text_length c_o_text_characters
      else
        if r15 < (32 : Int32) then
            xP_text_b39 N v_o_text_length c_o_text_characters
          else
            if r15 ≤ (126 : Int32) then
                k5 x1 (x3 + (1 : Int32)) (x4 + (1 : Int32)) v_o_text_length c_o_text_characters
              else
                xP_text_b39 N v_o_text_length c_o_text_characters
def xP_text_L5 (N : Nat) : Nat → Int64 → Int32 → Int32 → Int32 → (Nat → Int32) → Option (Nat × Int32 × Int32 × (Nat → Int32))
  | 0 => fun _ _ _ _ _ => none
  | n + 1 => fun x1 x3 x4 v_o_text_length c_o_text_characters => xP_text_B5 N (xP_text_L5 N n) x1 x3 x4 v_o_text_length c_o_text_characters
def xP_text (N : Nat) (x1 : Int64) (v_o_text_length : Int32) (c_o_text_characters : (Nat → Int32)) : Option (Nat × Int32 × Int32 × (Nat → Int32)) :=
  xP_text_L5 N N x1 (0 : Int32) (0 : Int32) v_o_text_length c_o_text_characters
def xP_command (x1 : Int32) (v_o_drawing_count : Int32) (c_o_drawing_kinds : (Nat → Int32)) : Option (Nat × Int32) :=
  kb1 (xDrawing_has x1 v_o_drawing_count) fun r5 =>
  if r5 = (0 : Int32) then
    some (4, 0)
  else
    kg (ki x1 150) (
      some (0, (c_o_drawing_kinds (x1).toNatClampNeg)))
def xP_number_b31 : Option (Nat × Int32) :=
  some (4, 0)
def xP_number (x1 : Int32) (x2 : Int32) (v_o_drawing_count : Int32) (c_o_drawing_kinds : (Nat → Int32)) (c_o_drawing_numbers : (Nat → Int32)) : Option (Nat × Int32) :=
  kb1 (xDrawing_has x1 v_o_drawing_count) fun r5 =>
  if r5 = (0 : Int32) then
    xP_number_b31
  else
    if x2 < (0 : Int32) then
        xP_number_b31
      else
        kg (ki x1 150) (
          kb1 (xP_numbersOf (c_o_drawing_kinds (x1).toNatClampNeg)) fun r25 =>
          if x2 < r25 then
            kg (ki ((x1 * (6 : Int32)) + x2) 900) (
              some (0, (c_o_drawing_numbers (((x1 * (6 : Int32)) + x2)).toNatClampNeg)))
          else
            xP_number_b31)
def xP_charAt_b15 : Option (Nat × Int32) :=
  some (4, 0)
def xP_charAt (x1 : Int32) (v_o_written_length : Int32) (c_o_written_characters : (Nat → Int32)) : Option (Nat × Int32) :=
  if x1 < (0 : Int32) then
    xP_charAt_b15
  else
    if x1 < v_o_written_length then
        kb1 (xRow_at 8250 x1 v_o_written_length c_o_written_characters) fun r30 =>
          some (0, r30)
      else
        xP_charAt_b15
def xP_bound_b30 (N : Nat) (s1 : Int32) (s2 : Int32) (v_o_drawing_count : Int32) (c_o_drawing_kinds : (Nat → Int32)) (c_o_drawing_numbers : (Nat → Int32)) : Option (Int32) :=
  kb1 (xDrawing_extreme N s1 s2 v_o_drawing_count c_o_drawing_kinds c_o_drawing_numbers) fun r30 =>
  some r30
def xP_bound (N : Nat) (x1 : Int32) (v_o_drawing_count : Int32) (c_o_drawing_kinds : (Nat → Int32)) (c_o_drawing_numbers : (Nat → Int32)) : Option (Int32) :=
  if x1 < (0 : Int32) then
    some (-1 : Int32)
  else
    if x1 ≤ (3 : Int32) then
        if x1 < (2 : Int32) then
            xP_bound_b30 N (x1 - x1 / (2 : Int32) * (2 : Int32)) (0 : Int32) v_o_drawing_count c_o_drawing_kinds c_o_drawing_numbers
          else
            xP_bound_b30 N (x1 - x1 / (2 : Int32) * (2 : Int32)) (1 : Int32) v_o_drawing_count c_o_drawing_kinds c_o_drawing_numbers
      else
        some (-1 : Int32)
def xP_told (N : Nat) (x1 : Int32) (v_o_drawing_count : Int32) (c_o_drawing_kinds : (Nat → Int32)) (v_o_written_length : Int32) (v_o_text_length : Int32) : Option (Int32) :=
  if x1 = (0 : Int32) then
    some v_o_drawing_count
  else if x1 = (1 : Int32) then
    some v_o_text_length
  else if x1 = (2 : Int32) then
    some v_o_written_length
  else if x1 = (3 : Int32) then
    kb1 (xDrawing_edges N v_o_drawing_count c_o_drawing_kinds) fun r60 =>
      some r60
  else 
    some (-1 : Int32)
def xP_addGiven_b48 (N : Nat) (x1 : Int32) (c_o_given : (Nat → Int64)) (v_o_drawing_count : Int32) (c_o_drawing_numbers : (Nat → Int32)) (c_o_drawing_kinds : (Nat → Int32)) : Option (Nat × Int32 × Int32 × (Nat → Int32) × (Nat → Int32)) :=
  kb4 (xDrawing_add N x1 v_o_drawing_count c_o_drawing_numbers c_o_drawing_kinds c_o_given) fun r57 v_o_drawing_count_57 c_o_drawing_numbers_57 c_o_drawing_kinds_57 =>
  if r57 = (0 : Int32) then
    some (3, 0, v_o_drawing_count_57, c_o_drawing_numbers_57, c_o_drawing_kinds_57)
  else
    some (0, v_o_drawing_count_57, v_o_drawing_count_57, c_o_drawing_numbers_57, c_o_drawing_kinds_57)
def xP_addGiven (N : Nat) (x1 : Int32) (c_o_given : (Nat → Int64)) (v_o_drawing_count : Int32) (c_o_drawing_numbers : (Nat → Int32)) (c_o_drawing_kinds : (Nat → Int32)) : Option (Nat × Int32 × Int32 × (Nat → Int32) × (Nat → Int32)) :=
  kb1 (xP_numbersOf x1) fun r5 =>
  kb1 (xP_areNumbers N r5 c_o_given) fun r8 =>
  if r8 = (0 : Int32) then
    some (1, 0, v_o_drawing_count, c_o_drawing_numbers, c_o_drawing_kinds)
  else
    if x1 = (0 : Int32) then
        xP_addGiven_b48 N x1 c_o_given v_o_drawing_count c_o_drawing_numbers c_o_drawing_kinds
      else
        if v_o_drawing_count = (0 : Int32) then
            some (2, 0, v_o_drawing_count, c_o_drawing_numbers, c_o_drawing_kinds)
          else
            xP_addGiven_b48 N x1 c_o_given v_o_drawing_count c_o_drawing_numbers c_o_drawing_kinds
def xMatrices_open_b49 (N : Nat) (k31 : Int32 → Int32 → Int32 → Int32 → (Nat → Int64) → (Nat → Int64) → Option (Int32 × Int32 × (Nat → Int64))) (x2 : Int32) (x3 : Int32) (x4 : Int32) (s0 : Int32) (v_o_depth : Int32) (c_o_rows : (Nat → Int64)) (c_p1 : (Nat → Int64)) : Option (Int32 × Int32 × (Nat → Int64)) :=
  kg (ki x4 6) (
  kg (ki (x4 + (1 : Int32)) 6) (
  kb1 (xMatrices_across (c_p1 (x4).toNatClampNeg) (c_p1 ((x4 + (1 : Int32))).toNatClampNeg) (0 : Int32) s0 v_o_depth c_o_rows) fun r73 =>
  kg (ki (x2 + x4) 54) (
  kg (ki x4 6) (
  kg (ki (x4 + (1 : Int32)) 6) (
  kb1 (xMatrices_across (c_p1 (x4).toNatClampNeg) (c_p1 ((x4 + (1 : Int32))).toNatClampNeg) (1 : Int32) s0 v_o_depth (vp_updL c_o_rows ((x2 + x4)).toNatClampNeg r73)) fun r101 =>
  kg (ki ((x2 + x4) + (1 : Int32)) 54) (
  if x3 = (0 : Int32) then
    k31 x2 (0 : Int32) (x4 + (2 : Int32)) v_o_depth (vp_updL (vp_updL c_o_rows ((x2 + x4)).toNatClampNeg r73) (((x2 + x4) + (1 : Int32))).toNatClampNeg r101) c_p1
  else
    kg (ki (x2 + x4) 54) (
      kb1 (xP_isNumber ((vp_updL (vp_updL c_o_rows ((x2 + x4)).toNatClampNeg r73) (((x2 + x4) + (1 : Int32))).toNatClampNeg r101) ((x2 + x4)).toNatClampNeg)) fun r118 =>
      if r118 = (0 : Int32) then
        k31 x2 (0 : Int32) (x4 + (2 : Int32)) v_o_depth (vp_updL (vp_updL c_o_rows ((x2 + x4)).toNatClampNeg r73) (((x2 + x4) + (1 : Int32))).toNatClampNeg r101) c_p1
      else
        kg (ki ((x2 + x4) + (1 : Int32)) 54) (
          kb1 (xP_isNumber ((vp_updL (vp_updL c_o_rows ((x2 + x4)).toNatClampNeg r73) (((x2 + x4) + (1 : Int32))).toNatClampNeg r101) (((x2 + x4) + (1 : Int32))).toNatClampNeg)) fun r135 =>
          if r135 = (0 : Int32) then
            k31 x2 (0 : Int32) (x4 + (2 : Int32)) v_o_depth (vp_updL (vp_updL c_o_rows ((x2 + x4)).toNatClampNeg r73) (((x2 + x4) + (1 : Int32))).toNatClampNeg r101) c_p1
          else
            k31 x2 (1 : Int32) (x4 + (2 : Int32)) v_o_depth (vp_updL (vp_updL c_o_rows ((x2 + x4)).toNatClampNeg r73) (((x2 + x4) + (1 : Int32))).toNatClampNeg r101) c_p1))))))))
def xMatrices_open_B31 (N : Nat) (k31 : Int32 → Int32 → Int32 → Int32 → (Nat → Int64) → (Nat → Int64) → Option (Int32 × Int32 × (Nat → Int64))) (x2 : Int32) (x3 : Int32) (x4 : Int32) (v_o_depth : Int32) (c_o_rows : (Nat → Int64)) (c_p1 : (Nat → Int64)) : Option (Int32 × Int32 × (Nat → Int64)) :=
  if (6 : Int32) ≤ x4 then
    kg (kz x3) (
      some (x3, (v_o_depth + (1 : Int32)), c_o_rows))
  else
    if x4 = (4 : Int32) then
        xMatrices_open_b49 N k31 x2 x3 x4 (1 : Int32) v_o_depth c_o_rows c_p1
      else
        xMatrices_open_b49 N k31 x2 x3 x4 (0 : Int32) v_o_depth c_o_rows c_p1
def xMatrices_open_L31 (N : Nat) : Nat → Int32 → Int32 → Int32 → Int32 → (Nat → Int64) → (Nat → Int64) → Option (Int32 × Int32 × (Nat → Int64))
  | 0 => fun _ _ _ _ _ _ => none
  | n + 1 => fun x2 x3 x4 v_o_depth c_o_rows c_p1 => xMatrices_open_B31 N (xMatrices_open_L31 N n) x2 x3 x4 v_o_depth c_o_rows c_p1
def xMatrices_open (N : Nat) (v_o_depth : Int32) (c_o_rows : (Nat → Int64)) (c_p1 : (Nat → Int64)) : Option (Int32 × Int32 × (Nat → Int64)) :=
  kb1 (xMatrices_isFull v_o_depth) fun r1 =>
  if r1 = (0 : Int32) then
    if (6 : Int32) ≤ (6 : Int32) then
        xMatrices_open_L31 N N ((v_o_depth + (1 : Int32)) * (6 : Int32)) (1 : Int32) (0 : Int32) v_o_depth c_o_rows c_p1
      else
        some ((0 : Int32), v_o_depth, c_o_rows)
  else
    some ((0 : Int32), v_o_depth, c_o_rows)
def xPen_aim_b214 (N : Nat) (s1 : Int32) (v_o_x : Int64) (v_o_y : Int64) (v_o_startX : Int64) (v_o_startY : Int64) (v_o_controlX : Int64) (v_o_controlY : Int64) (c_o_points : (Nat → Int64)) : Option (Int32 × Int64 × Int64 × Int64 × Int64 × Int32 × (Nat → Int64)) :=
  kb1 (xPen_putTurnedFirst N s1 v_o_x v_o_y v_o_controlX v_o_controlY c_o_points) fun c_o_points_214 =>
  kb3 (xPen_aimByTwoControls c_o_points_214) fun v_o_controlX_218 v_o_controlY_218 v_o_controlFor_218 =>
  some ((2 : Int32), v_o_startX, v_o_startY, v_o_controlX_218, v_o_controlY_218, v_o_controlFor_218, c_o_points_214)
def xPen_aim_b242 (N : Nat) (s1 : Int32) (v_o_x : Int64) (v_o_y : Int64) (v_o_startX : Int64) (v_o_startY : Int64) (v_o_controlX : Int64) (v_o_controlY : Int64) (c_o_points : (Nat → Int64)) : Option (Int32 × Int64 × Int64 × Int64 × Int64 × Int32 × (Nat → Int64)) :=
  kb1 (xPen_putTurnedFirst N s1 v_o_x v_o_y v_o_controlX v_o_controlY c_o_points) fun c_o_points_242 =>
  kb4 (xPen_aimByOneControl v_o_x v_o_y c_o_points_242) fun v_o_controlX_246 v_o_controlY_246 v_o_controlFor_246 c_o_points_246 =>
  some ((2 : Int32), v_o_startX, v_o_startY, v_o_controlX_246, v_o_controlY_246, v_o_controlFor_246, c_o_points_246)
def xPen_aim_b182 (N : Nat) (s1 : Int32) (s2 : Int64) (v_o_x : Int64) (v_o_startX : Int64) (v_o_startY : Int64) (v_o_controlX : Int64) (v_o_controlY : Int64) (v_o_controlFor : Int32) (c_o_points : (Nat → Int64)) : Option (Int32 × Int64 × Int64 × Int64 × Int64 × Int32 × (Nat → Int64)) :=
  kg (ki s1 6) (
  some ((1 : Int32), v_o_startX, v_o_startY, v_o_controlX, v_o_controlY, v_o_controlFor, (vp_updL (vp_updL c_o_points (s1).toNatClampNeg s2) ((0 : Int32)).toNatClampNeg v_o_x)))
def xPen_aim (N : Nat) (x1 : Int32) (x2 : Int32) (v_o_x : Int64) (v_o_y : Int64) (v_o_startX : Int64) (v_o_startY : Int64) (v_o_controlX : Int64) (v_o_controlY : Int64) (v_o_controlFor : Int32) (c_o_points : (Nat → Int64)) (c_p3 : (Nat → Int64)) : Option (Int32 × Int64 × Int64 × Int64 × Int64 × Int32 × (Nat → Int64)) :=
  kb1 (xPen_takePoints N x2 v_o_x v_o_y c_o_points c_p3) fun c_o_points_3 =>
  if x1 = (67 : Int32) then
    kb3 (xPen_aimByTwoControls c_o_points_3) fun v_o_controlX_196 v_o_controlY_196 v_o_controlFor_196 =>
      some ((2 : Int32), v_o_startX, v_o_startY, v_o_controlX_196, v_o_controlY_196, v_o_controlFor_196, c_o_points_3)
  else if x1 = (72 : Int32) then
    some ((1 : Int32), v_o_startX, v_o_startY, v_o_controlX, v_o_controlY, (0 : Int32), (vp_updL c_o_points_3 ((1 : Int32)).toNatClampNeg v_o_y))
  else if x1 = (76 : Int32) then
    some ((1 : Int32), v_o_startX, v_o_startY, v_o_controlX, v_o_controlY, (0 : Int32), c_o_points_3)
  else if x1 = (77 : Int32) then
    some ((0 : Int32), (c_o_points_3 ((0 : Int32)).toNatClampNeg), (c_o_points_3 ((1 : Int32)).toNatClampNeg), v_o_controlX, v_o_controlY, (0 : Int32), c_o_points_3)
  else if x1 = (81 : Int32) then
    kb4 (xPen_aimByOneControl v_o_x v_o_y c_o_points_3) fun v_o_controlX_224 v_o_controlY_224 v_o_controlFor_224 c_o_points_224 =>
      some ((2 : Int32), v_o_startX, v_o_startY, v_o_controlX_224, v_o_controlY_224, v_o_controlFor_224, c_o_points_224)
  else if x1 = (83 : Int32) then
    if v_o_controlFor = (67 : Int32) then
        xPen_aim_b214 N (1 : Int32) v_o_x v_o_y v_o_startX v_o_startY v_o_controlX v_o_controlY c_o_points_3
      else
        xPen_aim_b214 N (0 : Int32) v_o_x v_o_y v_o_startX v_o_startY v_o_controlX v_o_controlY c_o_points_3
  else if x1 = (84 : Int32) then
    if v_o_controlFor = (81 : Int32) then
        xPen_aim_b242 N (1 : Int32) v_o_x v_o_y v_o_startX v_o_startY v_o_controlX v_o_controlY c_o_points_3
      else
        xPen_aim_b242 N (0 : Int32) v_o_x v_o_y v_o_startX v_o_startY v_o_controlX v_o_controlY c_o_points_3
  else if x1 = (86 : Int32) then
    if x2 = (0 : Int32) then
        xPen_aim_b182 N (1 : Int32) (c_o_points_3 ((0 : Int32)).toNatClampNeg) v_o_x v_o_startX v_o_startY v_o_controlX v_o_controlY (0 : Int32) c_o_points_3
      else
        xPen_aim_b182 N (1 : Int32) (((c_o_points_3 ((0 : Int32)).toNatClampNeg) - v_o_x) + v_o_y) v_o_x v_o_startX v_o_startY v_o_controlX v_o_controlY (0 : Int32) c_o_points_3
  else 
    some ((3 : Int32), v_o_startX, v_o_startY, v_o_controlX, v_o_controlY, (0 : Int32), c_o_points_3)
def xReader_takeClosing (x1 : Int32) (v_o_wrong : Int32) (v_o_moveIsDue : Int32) (v_o_pen_x : Int64) (v_o_pen_y : Int64) (v_o_pen_controlFor : Int32) (v_o_pen_matrices_depth : Int32) : Option (Int32 × Int32 × Int32 × Int64 × Int64 × Int32 × Int32) :=
  kb2 (xMatrices_shut v_o_pen_matrices_depth) fun r7 v_o_pen_matrices_depth_7 =>
  if r7 = (0 : Int32) then
    kb2 (xReader_seeWrong x1) fun r15 v_o_wrong_15 =>
      kg (kz r15) (
      some (r15, v_o_wrong_15, v_o_moveIsDue, v_o_pen_x, v_o_pen_y, v_o_pen_controlFor, v_o_pen_matrices_depth_7))
  else
    kb4 (xReader_passBracket) fun v_o_moveIsDue_20 v_o_pen_x_20 v_o_pen_y_20 v_o_pen_controlFor_20 =>
      some ((1 : Int32), v_o_wrong, v_o_moveIsDue_20, v_o_pen_x_20, v_o_pen_y_20, v_o_pen_controlFor_20, v_o_pen_matrices_depth_7)
def xReader_takeNumeral_b205 (N : Nat) (x1 : Int32) (x3 : Int32) (x7 : Int32) (s0 : Int64) (v_o_at : Int32) (c_o_numbers : (Nat → Int64)) : Option (Int32 × Int32 × (Nat → Int64)) :=
  kg (ki x7 10) (
  kb1 (xP_nearest (s0 * (256 : Int64)) (k_tens (x7).toNatClampNeg)) fun r215 =>
  kb1 (xP_isNumber r215) fun r222 =>
  if r222 = (0 : Int32) then
    some ((0 : Int32), v_o_at, c_o_numbers)
  else
    if x1 < (0 : Int32) then
        some ((0 : Int32), v_o_at, c_o_numbers)
      else
        if x1 < (6 : Int32) then
            kg (ki x1 6) (
              some ((1 : Int32), x3, (vp_updL c_o_numbers (x1).toNatClampNeg r215)))
          else
            some ((0 : Int32), v_o_at, c_o_numbers))
def xReader_takeNumeral_b165 (N : Nat) (x1 : Int32) (x2 : Int32) (x3 : Int32) (x4 : Int64) (x6 : Int32) (x7 : Int32) (v_o_at : Int32) (c_o_numbers : (Nat → Int64)) : Option (Int32 × Int32 × (Nat → Int64)) :=
  if x6 = (0 : Int32) then
    some ((0 : Int32), v_o_at, c_o_numbers)
  else
    if (9 : Int32) < x6 then
        some ((0 : Int32), v_o_at, c_o_numbers)
      else
        if x7 < (0 : Int32) then
            some ((0 : Int32), v_o_at, c_o_numbers)
          else
            if x7 < (10 : Int32) then
                if x2 = (0 : Int32) then
                    xReader_takeNumeral_b205 N x1 x3 x7 x4 v_o_at c_o_numbers
                  else
                    xReader_takeNumeral_b205 N x1 x3 x7 (-x4) v_o_at c_o_numbers
              else
                some ((0 : Int32), v_o_at, c_o_numbers)
def xReader_takeNumeral_b138 (N : Nat) (k68 : Int32 → Int32 → Int32 → Int64 → Int32 → Int32 → Int32 → Int32 → Int32 → (Nat → Int32) → (Nat → Int64) → Option (Int32 × Int32 × (Nat → Int64))) (x1 : Int32) (x2 : Int32) (x3 : Int32) (x4 : Int64) (x6 : Int32) (x8 : Int32) (s0 : Int32) (s1 : Int32) (v_o_at : Int32) (v_o_text_length : Int32) (c_o_text_characters : (Nat → Int32)) (c_o_numbers : (Nat → Int64)) : Option (Int32 × Int32 × (Nat → Int64)) :=
  k68 x1 x2 (x3 + (1 : Int32)) x4 x6 (s0 + s1) x8 v_o_at v_o_text_length c_o_text_characters c_o_numbers
def xReader_takeNumeral_b124 (N : Nat) (k68 : Int32 → Int32 → Int32 → Int64 → Int32 → Int32 → Int32 → Int32 → Int32 → (Nat → Int32) → (Nat → Int64) → Option (Int32 × Int32 × (Nat → Int64))) (x1 : Int32) (x2 : Int32) (x3 : Int32) (x6 : Int32) (x7 : Int32) (x8 : Int32) (s0 : Int64) (v_o_at : Int32) (v_o_text_length : Int32) (c_o_text_characters : (Nat → Int32)) (c_o_numbers : (Nat → Int64)) : Option (Int32 × Int32 × (Nat → Int64)) :=
  if x8 = (0 : Int32) then
    xReader_takeNumeral_b138 N k68 x1 x2 x3 s0 x6 x8 x7 (0 : Int32) v_o_at v_o_text_length c_o_text_characters c_o_numbers
  else
    xReader_takeNumeral_b138 N k68 x1 x2 x3 s0 x6 x8 x7 (1 : Int32) v_o_at v_o_text_length c_o_text_characters c_o_numbers
def xReader_takeNumeral_B68 (N : Nat) (k68 : Int32 → Int32 → Int32 → Int64 → Int32 → Int32 → Int32 → Int32 → Int32 → (Nat → Int32) → (Nat → Int64) → Option (Int32 × Int32 × (Nat → Int64))) (x1 : Int32) (x2 : Int32) (x3 : Int32) (x4 : Int64) (x6 : Int32) (x7 : Int32) (x8 : Int32) (v_o_at : Int32) (v_o_text_length : Int32) (c_o_text_characters : (Nat → Int32)) (c_o_numbers : (Nat → Int64)) : Option (Int32 × Int32 × (Nat → Int64)) :=
  if v_o_text_length ≤ x3 then
    xReader_takeNumeral_b165 N x1 x2 x3 x4 x6 x7 v_o_at c_o_numbers
  else
    kb1 (xRow_at 1200 x3 v_o_text_length c_o_text_characters) fun r84 =>
      kb1 (xReader_isDigit r84) fun r91 =>
      if r91 = (0 : Int32) then
        if r84 = (46 : Int32) then
            if x8 = (0 : Int32) then
                k68 x1 x2 (x3 + (1 : Int32)) x4 x6 x7 (1 : Int32) v_o_at v_o_text_length c_o_text_characters c_o_numbers
              else
                xReader_takeNumeral_b165 N x1 x2 x3 x4 x6 x7 v_o_at c_o_numbers
          else
            xReader_takeNumeral_b165 N x1 x2 x3 x4 x6 x7 v_o_at c_o_numbers
      else
        if (x6 + (1 : Int32)) ≤ (9 : Int32) then
            xReader_takeNumeral_b124 N k68 x1 x2 x3 (x6 + (1 : Int32)) x7 x8 ((x4 * (10 : Int64)) + (Int32.toInt64 (r84 - (48 : Int32)))) v_o_at v_o_text_length c_o_text_characters c_o_numbers
          else
            xReader_takeNumeral_b124 N k68 x1 x2 x3 (x6 + (1 : Int32)) x7 x8 (0 : Int64) v_o_at v_o_text_length c_o_text_characters c_o_numbers
def xReader_takeNumeral_L68 (N : Nat) : Nat → Int32 → Int32 → Int32 → Int64 → Int32 → Int32 → Int32 → Int32 → Int32 → (Nat → Int32) → (Nat → Int64) → Option (Int32 × Int32 × (Nat → Int64))
  | 0 => fun _ _ _ _ _ _ _ _ _ _ _ => none
  | n + 1 => fun x1 x2 x3 x4 x6 x7 x8 v_o_at v_o_text_length c_o_text_characters c_o_numbers => xReader_takeNumeral_B68 N (xReader_takeNumeral_L68 N n) x1 x2 x3 x4 x6 x7 x8 v_o_at v_o_text_length c_o_text_characters c_o_numbers
def xReader_takeNumeral_b55 (N : Nat) (x1 : Int32) (x2 : Int32) (s0 : Int32) (v_o_at : Int32) (v_o_text_length : Int32) (c_o_text_characters : (Nat → Int32)) (c_o_numbers : (Nat → Int64)) : Option (Int32 × Int32 × (Nat → Int64)) :=
  xReader_takeNumeral_L68 N N x1 x2 s0 (0 : Int64) (0 : Int32) (0 : Int32) (0 : Int32) v_o_at v_o_text_length c_o_text_characters c_o_numbers
def xReader_takeNumeral_b42 (N : Nat) (x1 : Int32) (x2 : Int32) (v_o_at : Int32) (v_o_text_length : Int32) (c_o_text_characters : (Nat → Int32)) (c_o_numbers : (Nat → Int64)) : Option (Int32 × Int32 × (Nat → Int64)) :=
  xReader_takeNumeral_b55 N x1 x2 (v_o_at + (1 : Int32)) v_o_at v_o_text_length c_o_text_characters c_o_numbers
def xReader_takeNumeral_b21 (N : Nat) (x1 : Int32) (s0 : Int32) (v_o_at : Int32) (v_o_text_length : Int32) (c_o_text_characters : (Nat → Int32)) (c_o_numbers : (Nat → Int64)) : Option (Int32 × Int32 × (Nat → Int64)) :=
  if s0 = (0 : Int32) then
    kb1 (xRow_at 1200 v_o_at v_o_text_length c_o_text_characters) fun r34 =>
      if r34 = (43 : Int32) then
        xReader_takeNumeral_b42 N x1 s0 v_o_at v_o_text_length c_o_text_characters c_o_numbers
      else
        xReader_takeNumeral_b55 N x1 s0 v_o_at v_o_at v_o_text_length c_o_text_characters c_o_numbers
  else
    xReader_takeNumeral_b42 N x1 s0 v_o_at v_o_text_length c_o_text_characters c_o_numbers
def xReader_takeNumeral (N : Nat) (x1 : Int32) (v_o_at : Int32) (v_o_text_length : Int32) (c_o_text_characters : (Nat → Int32)) (c_o_numbers : (Nat → Int64)) : Option (Int32 × Int32 × (Nat → Int64)) :=
  kb1 (xRow_at 1200 v_o_at v_o_text_length c_o_text_characters) fun r8 =>
  if r8 = (45 : Int32) then
    xReader_takeNumeral_b21 N x1 (1 : Int32) v_o_at v_o_text_length c_o_text_characters c_o_numbers
  else
    xReader_takeNumeral_b21 N x1 (0 : Int32) v_o_at v_o_text_length c_o_text_characters c_o_numbers
def xReader_numeralFollows (N : Nat) (v_o_at : Int32) (v_o_text_length : Int32) (c_o_text_characters : (Nat → Int32)) : Option (Int32 × Int32) :=
  kb1 (xReader_passBlanks N v_o_at v_o_text_length c_o_text_characters) fun v_o_at_1 =>
  kb1 (xRow_at 1200 v_o_at_1 v_o_text_length c_o_text_characters) fun r12 =>
  kb1 (xReader_isDigit r12) fun r17 =>
  if r17 = (0 : Int32) then
    if r12 = (43 : Int32) then
        some ((1 : Int32), v_o_at_1)
      else
        if r12 = (45 : Int32) then
            some ((1 : Int32), v_o_at_1)
          else
            if r12 = (46 : Int32) then
                some ((1 : Int32), v_o_at_1)
              else
                some ((0 : Int32), v_o_at_1)
  else
    some ((1 : Int32), v_o_at_1)
def xWriter_decimalNextTo (x0 : Int64) (x2 : Int32) : Option (Int64) :=
  kb1 (xWriter_tens x2) fun r6 =>
  kb1 (jMath_floorDiv (((((2 : Int64) * x0) * r6) + (256 : Int64)) - (1 : Int64)) (512 : Int64)) fun r19 =>
  some r19
def xWriter_putWhole_b23 (N : Nat) (n_p2_characters : Nat) (x0 : Int64) (x3 : Int32) (v_p2_length : Int32) (c_p2_characters : (Nat → Int32)) : Option (Int32 × (Nat → Int32)) :=
  kb2 (xWriter_putDigits N n_p2_characters x0 x3 v_p2_length c_p2_characters) fun v_p2_length_26 c_p2_characters_26 =>
  some (v_p2_length_26, c_p2_characters_26)
def xWriter_putWhole_B2 (N : Nat) (n_p2_characters : Nat) (k2 : Int64 → Int32 → Int32 → (Nat → Int32) → Option (Int32 × (Nat → Int32))) (x0 : Int64) (x3 : Int32) (v_p2_length : Int32) (c_p2_characters : (Nat → Int32)) : Option (Int32 × (Nat → Int32)) :=
  if (9 : Int32) ≤ x3 then
    xWriter_putWhole_b23 N n_p2_characters x0 x3 v_p2_length c_p2_characters
  else
    kb1 (xWriter_tens x3) fun r10 =>
      if x0 < r10 then
        xWriter_putWhole_b23 N n_p2_characters x0 x3 v_p2_length c_p2_characters
      else
        k2 x0 (x3 + (1 : Int32)) v_p2_length c_p2_characters
def xWriter_putWhole_L2 (N : Nat) (n_p2_characters : Nat) : Nat → Int64 → Int32 → Int32 → (Nat → Int32) → Option (Int32 × (Nat → Int32))
  | 0 => fun _ _ _ _ => none
  | n + 1 => fun x0 x3 v_p2_length c_p2_characters => xWriter_putWhole_B2 N n_p2_characters (xWriter_putWhole_L2 N n_p2_characters n) x0 x3 v_p2_length c_p2_characters
def xWriter_putWhole (N : Nat) (n_p2_characters : Nat) (x0 : Int64) (v_p2_length : Int32) (c_p2_characters : (Nat → Int32)) : Option (Int32 × (Nat → Int32)) :=
  xWriter_putWhole_L2 N n_p2_characters N x0 (1 : Int32) v_p2_length c_p2_characters
def xCover_addCrossings_B45 (N : Nat) (k45 : Int64 → Int64 → Int64 → Int32 → Int64 → Int32 → Int32 → Int64 → (Nat → Int32) → Option ((Nat → Int32))) (x1 : Int64) (x3 : Int64) (x5 : Int64) (x9 : Int32) (x10 : Int64) (x13 : Int32) (x14 : Int32) (v_o_top : Int64) (c_o_changes : (Nat → Int32)) : Option ((Nat → Int32)) :=
  if x13 ≤ x14 then
    some c_o_changes
  else
    kb1 (jMath_floorDiv ((-(((v_o_top + (8 : Int64)) + ((16 : Int64) * (Int32.toInt64 x14))) - x3)) * (x5 - x1)) x10) fun r83 =>
      kb1 (xCover_firstPointFrom (x1 - r83) (128 : Int32)) fun r94 =>
      if (128 : Int32) ≤ r94 then
        k45 x1 x3 x5 x9 x10 x13 (x14 + (1 : Int32)) v_o_top c_o_changes
      else
        kg (ki ((x14 * (128 : Int32)) + r94) 2048) (
          kg (ki ((x14 * (128 : Int32)) + r94) 2048) (
          k45 x1 x3 x5 x9 x10 x13 (x14 + (1 : Int32)) v_o_top (upd c_o_changes (((x14 * (128 : Int32)) + r94)).toNatClampNeg ((c_o_changes (((x14 * (128 : Int32)) + r94)).toNatClampNeg) + x9))))
def xCover_addCrossings_L45 (N : Nat) : Nat → Int64 → Int64 → Int64 → Int32 → Int64 → Int32 → Int32 → Int64 → (Nat → Int32) → Option ((Nat → Int32))
  | 0 => fun _ _ _ _ _ _ _ _ _ => none
  | n + 1 => fun x1 x3 x5 x9 x10 x13 x14 v_o_top c_o_changes => xCover_addCrossings_B45 N (xCover_addCrossings_L45 N n) x1 x3 x5 x9 x10 x13 x14 v_o_top c_o_changes
def xCover_addCrossings (N : Nat) (x1 : Int64) (x3 : Int64) (x5 : Int64) (x7 : Int64) (x9 : Int32) (v_o_top : Int64) (c_o_changes : (Nat → Int32)) : Option ((Nat → Int32)) :=
  if (0 : Int64) < (x7 - x3) then
    kb1 (xCover_firstPointFrom (x3 - v_o_top) (16 : Int32)) fun r22 =>
      kb1 (xCover_firstPointFrom (x7 - v_o_top) (16 : Int32)) fun r36 =>
      xCover_addCrossings_L45 N N x1 x3 x5 x9 (x7 - x3) r36 r22 v_o_top c_o_changes
  else
    some c_o_changes
def xP_move (N : Nat) (x1 : Int32) (x2 : Int32) (c_o_given : (Nat → Int64)) (v_o_drawing_count : Int32) (c_o_drawing_numbers : (Nat → Int32)) (c_o_drawing_kinds : (Nat → Int32)) : Option (Nat × Int32 × (Nat → Int64) × Int32 × (Nat → Int32) × (Nat → Int32)) :=
  kb5 (xP_addGiven N (0 : Int32) (vp_updL (vp_updL c_o_given ((0 : Int32)).toNatClampNeg (Int32.toInt64 x1)) ((1 : Int32)).toNatClampNeg (Int32.toInt64 x2)) v_o_drawing_count c_o_drawing_numbers c_o_drawing_kinds) fun t18 r18 v_o_drawing_count_18 c_o_drawing_numbers_18 c_o_drawing_kinds_18 =>
  if t18 = 0 then
    some (0, r18, (vp_updL (vp_updL c_o_given ((0 : Int32)).toNatClampNeg (Int32.toInt64 x1)) ((1 : Int32)).toNatClampNeg (Int32.toInt64 x2)), v_o_drawing_count_18, c_o_drawing_numbers_18, c_o_drawing_kinds_18)
  else some (t18, 0, (vp_updL (vp_updL c_o_given ((0 : Int32)).toNatClampNeg (Int32.toInt64 x1)) ((1 : Int32)).toNatClampNeg (Int32.toInt64 x2)), v_o_drawing_count_18, c_o_drawing_numbers_18, c_o_drawing_kinds_18)
def xP_line (N : Nat) (x1 : Int32) (x2 : Int32) (c_o_given : (Nat → Int64)) (v_o_drawing_count : Int32) (c_o_drawing_numbers : (Nat → Int32)) (c_o_drawing_kinds : (Nat → Int32)) : Option (Nat × Int32 × (Nat → Int64) × Int32 × (Nat → Int32) × (Nat → Int32)) :=
  kb5 (xP_addGiven N (1 : Int32) (vp_updL (vp_updL c_o_given ((0 : Int32)).toNatClampNeg (Int32.toInt64 x1)) ((1 : Int32)).toNatClampNeg (Int32.toInt64 x2)) v_o_drawing_count c_o_drawing_numbers c_o_drawing_kinds) fun t18 r18 v_o_drawing_count_18 c_o_drawing_numbers_18 c_o_drawing_kinds_18 =>
  if t18 = 0 then
    some (0, r18, (vp_updL (vp_updL c_o_given ((0 : Int32)).toNatClampNeg (Int32.toInt64 x1)) ((1 : Int32)).toNatClampNeg (Int32.toInt64 x2)), v_o_drawing_count_18, c_o_drawing_numbers_18, c_o_drawing_kinds_18)
  else some (t18, 0, (vp_updL (vp_updL c_o_given ((0 : Int32)).toNatClampNeg (Int32.toInt64 x1)) ((1 : Int32)).toNatClampNeg (Int32.toInt64 x2)), v_o_drawing_count_18, c_o_drawing_numbers_18, c_o_drawing_kinds_18)
def xP_cubic (N : Nat) (x1 : Int32) (x2 : Int32) (x3 : Int32) (x4 : Int32) (x5 : Int32) (x6 : Int32) (c_o_given : (Nat → Int64)) (v_o_drawing_count : Int32) (c_o_drawing_numbers : (Nat → Int32)) (c_o_drawing_kinds : (Nat → Int32)) : Option (Nat × Int32 × (Nat → Int64) × Int32 × (Nat → Int32) × (Nat → Int32)) :=
  kb5 (xP_addGiven N (2 : Int32) (vp_updL (vp_updL (vp_updL (vp_updL (vp_updL (vp_updL c_o_given ((0 : Int32)).toNatClampNeg (Int32.toInt64 x1)) ((1 : Int32)).toNatClampNeg (Int32.toInt64 x2)) ((2 : Int32)).toNatClampNeg (Int32.toInt64 x3)) ((3 : Int32)).toNatClampNeg (Int32.toInt64 x4)) ((4 : Int32)).toNatClampNeg (Int32.toInt64 x5)) ((5 : Int32)).toNatClampNeg (Int32.toInt64 x6)) v_o_drawing_count c_o_drawing_numbers c_o_drawing_kinds) fun t53 r53 v_o_drawing_count_53 c_o_drawing_numbers_53 c_o_drawing_kinds_53 =>
  if t53 = 0 then
    some (0, r53, (vp_updL (vp_updL (vp_updL (vp_updL (vp_updL (vp_updL c_o_given ((0 : Int32)).toNatClampNeg (Int32.toInt64 x1)) ((1 : Int32)).toNatClampNeg (Int32.toInt64 x2)) ((2 : Int32)).toNatClampNeg (Int32.toInt64 x3)) ((3 : Int32)).toNatClampNeg (Int32.toInt64 x4)) ((4 : Int32)).toNatClampNeg (Int32.toInt64 x5)) ((5 : Int32)).toNatClampNeg (Int32.toInt64 x6)), v_o_drawing_count_53, c_o_drawing_numbers_53, c_o_drawing_kinds_53)
  else some (t53, 0, (vp_updL (vp_updL (vp_updL (vp_updL (vp_updL (vp_updL c_o_given ((0 : Int32)).toNatClampNeg (Int32.toInt64 x1)) ((1 : Int32)).toNatClampNeg (Int32.toInt64 x2)) ((2 : Int32)).toNatClampNeg (Int32.toInt64 x3)) ((3 : Int32)).toNatClampNeg (Int32.toInt64 x4)) ((4 : Int32)).toNatClampNeg (Int32.toInt64 x5)) ((5 : Int32)).toNatClampNeg (Int32.toInt64 x6)), v_o_drawing_count_53, c_o_drawing_numbers_53, c_o_drawing_kinds_53)
def xP_close (N : Nat) (c_o_given : (Nat → Int64)) (v_o_drawing_count : Int32) (c_o_drawing_numbers : (Nat → Int32)) (c_o_drawing_kinds : (Nat → Int32)) : Option (Nat × Int32 × Int32 × (Nat → Int32) × (Nat → Int32)) :=
  kb5 (xP_addGiven N (3 : Int32) c_o_given v_o_drawing_count c_o_drawing_numbers c_o_drawing_kinds) fun t2 r2 v_o_drawing_count_2 c_o_drawing_numbers_2 c_o_drawing_kinds_2 =>
  if t2 = 0 then
    some (0, r2, v_o_drawing_count_2, c_o_drawing_numbers_2, c_o_drawing_kinds_2)
  else some (t2, 0, v_o_drawing_count_2, c_o_drawing_numbers_2, c_o_drawing_kinds_2)
def xReader_takeNumbers_B2 (N : Nat) (k2 : Int32 → Int32 → Int32 → Int32 → Int32 → (Nat → Int32) → (Nat → Int64) → Option (Int32 × Int32 × Int32 × (Nat → Int64))) (x1 : Int32) (x2 : Int32) (v_o_at : Int32) (v_o_wrong : Int32) (v_o_text_length : Int32) (c_o_text_characters : (Nat → Int32)) (c_o_numbers : (Nat → Int64)) : Option (Int32 × Int32 × Int32 × (Nat → Int64)) :=
  if x1 ≤ x2 then
    some ((1 : Int32), v_o_at, v_o_wrong, c_o_numbers)
  else
    if (6 : Int32) ≤ x2 then
        some ((1 : Int32), v_o_at, v_o_wrong, c_o_numbers)
      else
        kb1 (xReader_passBlanks N v_o_at v_o_text_length c_o_text_characters) fun v_o_at_14 =>
          kb3 (xReader_takeNumeral N x2 v_o_at_14 v_o_text_length c_o_text_characters c_o_numbers) fun r19 v_o_at_19 c_o_numbers_19 =>
          if r19 = (0 : Int32) then
            kb2 (xReader_seeWrong v_o_at_19) fun r30 v_o_wrong_30 =>
              kg (kz r30) (
              some (r30, v_o_at_19, v_o_wrong_30, c_o_numbers_19))
          else
            k2 x1 (x2 + (1 : Int32)) v_o_at_19 v_o_wrong v_o_text_length c_o_text_characters c_o_numbers_19
def xReader_takeNumbers_L2 (N : Nat) : Nat → Int32 → Int32 → Int32 → Int32 → Int32 → (Nat → Int32) → (Nat → Int64) → Option (Int32 × Int32 × Int32 × (Nat → Int64))
  | 0 => fun _ _ _ _ _ _ _ => none
  | n + 1 => fun x1 x2 v_o_at v_o_wrong v_o_text_length c_o_text_characters c_o_numbers => xReader_takeNumbers_B2 N (xReader_takeNumbers_L2 N n) x1 x2 v_o_at v_o_wrong v_o_text_length c_o_text_characters c_o_numbers
def xReader_takeNumbers (N : Nat) (x1 : Int32) (v_o_at : Int32) (v_o_wrong : Int32) (v_o_text_length : Int32) (c_o_text_characters : (Nat → Int32)) (c_o_numbers : (Nat → Int64)) : Option (Int32 × Int32 × Int32 × (Nat → Int64)) :=
  xReader_takeNumbers_L2 N N x1 (0 : Int32) v_o_at v_o_wrong v_o_text_length c_o_text_characters c_o_numbers
def xWriter_leastDigitsBehind_b26 (N : Nat) (k2 : Int32 → Int64 → Int32 → Option (Int32)) (x0 : Int32) (x1 : Int64) (x3 : Int32) (s0 : Int64) : Option (Int32) :=
  kb1 (xWriter_tens x3) fun r31 =>
  kb1 (xP_nearest (s0 * (256 : Int64)) r31) fun r34 =>
  if r34 = (Int32.toInt64 x0) then
    some x3
  else
    k2 x0 x1 (x3 + (1 : Int32))
def xWriter_leastDigitsBehind_B2 (N : Nat) (k2 : Int32 → Int64 → Int32 → Option (Int32)) (x0 : Int32) (x1 : Int64) (x3 : Int32) : Option (Int32) :=
  if (3 : Int32) ≤ x3 then
    some (3 : Int32)
  else
    kb1 (xWriter_decimalNextTo x1 x3) fun r9 =>
      if (0 : Int32) ≤ x0 then
        xWriter_leastDigitsBehind_b26 N k2 x0 x1 x3 r9
      else
        xWriter_leastDigitsBehind_b26 N k2 x0 x1 x3 (-r9)
def xWriter_leastDigitsBehind_L2 (N : Nat) : Nat → Int32 → Int64 → Int32 → Option (Int32)
  | 0 => fun _ _ _ => none
  | n + 1 => fun x0 x1 x3 => xWriter_leastDigitsBehind_B2 N (xWriter_leastDigitsBehind_L2 N n) x0 x1 x3
def xWriter_leastDigitsBehind (N : Nat) (x0 : Int32) (x1 : Int64) : Option (Int32) :=
  xWriter_leastDigitsBehind_L2 N N x0 x1 (0 : Int32)
def xCover_addEdge_b42 (N : Nat) (x1 : Int64) (x3 : Int64) (c_o_changes : (Nat → Int32)) : Option (Int64 × Int64 × (Nat → Int32)) :=
  some (x1, x3, c_o_changes)
def xCover_addEdge (N : Nat) (x1 : Int64) (x3 : Int64) (v_o_top : Int64) (v_o_x : Int64) (v_o_y : Int64) (c_o_changes : (Nat → Int32)) : Option (Int64 × Int64 × (Nat → Int32)) :=
  if x3 ≤ v_o_y then
    kb1 (xCover_addCrossings N x1 x3 v_o_x v_o_y (-1 : Int32) v_o_top c_o_changes) fun c_o_changes_39 =>
      xCover_addEdge_b42 N x1 x3 c_o_changes_39
  else
    kb1 (xCover_addCrossings N v_o_x v_o_y x1 x3 (1 : Int32) v_o_top c_o_changes) fun c_o_changes_21 =>
      xCover_addEdge_b42 N x1 x3 c_o_changes_21
def xReader_takeOpening (N : Nat) (x1 : Int32) (v_o_at : Int32) (v_o_wrong : Int32) (v_o_moveIsDue : Int32) (v_o_pen_x : Int64) (v_o_pen_y : Int64) (v_o_pen_controlFor : Int32) (v_o_pen_matrices_depth : Int32) (v_o_text_length : Int32) (c_o_text_characters : (Nat → Int32)) (c_o_numbers : (Nat → Int64)) (c_o_pen_matrices_rows : (Nat → Int64)) : Option (Int32 × Int32 × Int32 × Int32 × Int64 × Int64 × Int32 × Int32 × (Nat → Int64) × (Nat → Int64)) :=
  kb1 (xMatrices_isFull v_o_pen_matrices_depth) fun r7 =>
  if r7 = (0 : Int32) then
    kb4 (xReader_takeNumbers N (6 : Int32) v_o_at v_o_wrong v_o_text_length c_o_text_characters c_o_numbers) fun r22 v_o_at_22 v_o_wrong_22 c_o_numbers_22 =>
      if r22 = (0 : Int32) then
        some ((0 : Int32), v_o_at_22, v_o_wrong_22, v_o_moveIsDue, v_o_pen_x, v_o_pen_y, v_o_pen_controlFor, v_o_pen_matrices_depth, c_o_numbers_22, c_o_pen_matrices_rows)
      else
        kb3 (xMatrices_open N v_o_pen_matrices_depth c_o_pen_matrices_rows c_o_numbers_22) fun r41 v_o_pen_matrices_depth_41 c_o_pen_matrices_rows_41 =>
          if r41 = (0 : Int32) then
            kb2 (xReader_seeWrong x1) fun r49 v_o_wrong_49 =>
              kg (kz r49) (
              some (r49, v_o_at_22, v_o_wrong_49, v_o_moveIsDue, v_o_pen_x, v_o_pen_y, v_o_pen_controlFor, v_o_pen_matrices_depth_41, c_o_numbers_22, c_o_pen_matrices_rows_41))
          else
            kb4 (xReader_passBracket) fun v_o_moveIsDue_54 v_o_pen_x_54 v_o_pen_y_54 v_o_pen_controlFor_54 =>
              some ((1 : Int32), v_o_at_22, v_o_wrong_22, v_o_moveIsDue_54, v_o_pen_x_54, v_o_pen_y_54, v_o_pen_controlFor_54, v_o_pen_matrices_depth_41, c_o_numbers_22, c_o_pen_matrices_rows_41)
  else
    kb2 (xReader_seeWrong x1) fun r15 v_o_wrong_15 =>
      kg (kz r15) (
      some (r15, v_o_at, v_o_wrong_15, v_o_moveIsDue, v_o_pen_x, v_o_pen_y, v_o_pen_controlFor, v_o_pen_matrices_depth, c_o_numbers, c_o_pen_matrices_rows))
def xReader_takeLetter_b65 (N : Nat) (x2 : Int32) (v_o_at : Int32) (v_o_moveIsDue : Int32) (c_o_numbers : (Nat → Int64)) (v_o_pen_x : Int64) (v_o_pen_y : Int64) (v_o_pen_startX : Int64) (v_o_pen_startY : Int64) (v_o_pen_controlX : Int64) (v_o_pen_controlY : Int64) (v_o_pen_controlFor : Int32) (c_o_pen_points : (Nat → Int64)) (c_o_pen_drawn : (Nat → Int64)) (v_p3_count : Int32) (c_p3_numbers : (Nat → Int32)) (c_p3_kinds : (Nat → Int32)) : Option (Int32 × Int32 × Int32 × Int32 × (Nat → Int64) × Int64 × Int64 × Int64 × Int64 × Int64 × Int64 × Int32 × (Nat → Int64) × (Nat → Int64) × Int32 × (Nat → Int32) × (Nat → Int32)) :=
  kb2 (xReader_seeWrong x2) fun r67 v_o_wrong_67 =>
  kg (kz r67) (
  some (r67, v_o_at, v_o_wrong_67, v_o_moveIsDue, c_o_numbers, v_o_pen_x, v_o_pen_y, v_o_pen_startX, v_o_pen_startY, v_o_pen_controlX, v_o_pen_controlY, v_o_pen_controlFor, c_o_pen_points, c_o_pen_drawn, v_p3_count, c_p3_numbers, c_p3_kinds))
def xReader_takeLetter_b117 (N : Nat) (k79 : Int32 → Int32 → Int32 → Int32 → Int32 → Int32 → Int32 → Int32 → Int32 → (Nat → Int32) → (Nat → Int64) → Int64 → Int64 → Int64 → Int64 → Int64 → Int64 → Int32 → (Nat → Int64) → Int32 → (Nat → Int64) → (Nat → Int64) → Int32 → (Nat → Int32) → (Nat → Int32) → Option (Int32 × Int32 × Int32 × Int32 × (Nat → Int64) × Int64 × Int64 × Int64 × Int64 × Int64 × Int64 × Int32 × (Nat → Int64) × (Nat → Int64) × Int32 × (Nat → Int32) × (Nat → Int32))) (x2 : Int32) (x4 : Int32) (x5 : Int32) (x6 : Int32) (x7 : Int32) (s0 : Int32) (v_o_at : Int32) (v_o_wrong : Int32) (v_o_moveIsDue : Int32) (v_o_text_length : Int32) (c_o_text_characters : (Nat → Int32)) (c_o_numbers : (Nat → Int64)) (v_o_pen_x : Int64) (v_o_pen_y : Int64) (v_o_pen_startX : Int64) (v_o_pen_startY : Int64) (v_o_pen_controlX : Int64) (v_o_pen_controlY : Int64) (v_o_pen_controlFor : Int32) (c_o_pen_points : (Nat → Int64)) (v_o_pen_matrices_depth : Int32) (c_o_pen_matrices_rows : (Nat → Int64)) (c_o_pen_drawn : (Nat → Int64)) (v_p3_count : Int32) (c_p3_numbers : (Nat → Int32)) (c_p3_kinds : (Nat → Int32)) : Option (Int32 × Int32 × Int32 × Int32 × (Nat → Int64) × Int64 × Int64 × Int64 × Int64 × Int64 × Int64 × Int32 × (Nat → Int64) × (Nat → Int64) × Int32 × (Nat → Int32) × (Nat → Int32)) :=
  kb7 (xPen_aim N s0 x4 v_o_pen_x v_o_pen_y v_o_pen_startX v_o_pen_startY v_o_pen_controlX v_o_pen_controlY v_o_pen_controlFor c_o_pen_points c_o_numbers) fun r131 v_o_pen_startX_131 v_o_pen_startY_131 v_o_pen_controlX_131 v_o_pen_controlY_131 v_o_pen_controlFor_131 c_o_pen_points_131 =>
  kb7 (xPen_draw N r131 v_o_pen_x v_o_pen_y v_o_pen_startX_131 v_o_pen_startY_131 c_o_pen_points_131 v_o_pen_matrices_depth c_o_pen_matrices_rows c_o_pen_drawn v_p3_count c_p3_numbers c_p3_kinds) fun r143 v_o_pen_x_143 v_o_pen_y_143 c_o_pen_drawn_143 v_p3_count_143 c_p3_numbers_143 c_p3_kinds_143 =>
  if r143 = (0 : Int32) then
    kb2 (xReader_seeWrong x2) fun r151 v_o_wrong_151 =>
      kg (kz r151) (
      some (r151, v_o_at, v_o_wrong_151, v_o_moveIsDue, c_o_numbers, v_o_pen_x_143, v_o_pen_y_143, v_o_pen_startX_131, v_o_pen_startY_131, v_o_pen_controlX_131, v_o_pen_controlY_131, v_o_pen_controlFor_131, c_o_pen_points_131, c_o_pen_drawn_143, v_p3_count_143, c_p3_numbers_143, c_p3_kinds_143))
  else
    if x6 = (0 : Int32) then
        some ((1 : Int32), v_o_at, v_o_wrong, v_o_moveIsDue, c_o_numbers, v_o_pen_x_143, v_o_pen_y_143, v_o_pen_startX_131, v_o_pen_startY_131, v_o_pen_controlX_131, v_o_pen_controlY_131, v_o_pen_controlFor_131, c_o_pen_points_131, c_o_pen_drawn_143, v_p3_count_143, c_p3_numbers_143, c_p3_kinds_143)
      else
        kb2 (xReader_numeralFollows N v_o_at v_o_text_length c_o_text_characters) fun r161 v_o_at_161 =>
          if r161 = (0 : Int32) then
            some ((1 : Int32), v_o_at_161, v_o_wrong, v_o_moveIsDue, c_o_numbers, v_o_pen_x_143, v_o_pen_y_143, v_o_pen_startX_131, v_o_pen_startY_131, v_o_pen_controlX_131, v_o_pen_controlY_131, v_o_pen_controlFor_131, c_o_pen_points_131, c_o_pen_drawn_143, v_p3_count_143, c_p3_numbers_143, c_p3_kinds_143)
          else
            k79 x2 x4 x5 x6 (x7 + (1 : Int32)) v_o_at_161 v_o_wrong v_o_moveIsDue v_o_text_length c_o_text_characters c_o_numbers v_o_pen_x_143 v_o_pen_y_143 v_o_pen_startX_131 v_o_pen_startY_131 v_o_pen_controlX_131 v_o_pen_controlY_131 v_o_pen_controlFor_131 c_o_pen_points_131 v_o_pen_matrices_depth c_o_pen_matrices_rows c_o_pen_drawn_143 v_p3_count_143 c_p3_numbers_143 c_p3_kinds_143
def xReader_takeLetter_b115 (N : Nat) (k79 : Int32 → Int32 → Int32 → Int32 → Int32 → Int32 → Int32 → Int32 → Int32 → (Nat → Int32) → (Nat → Int64) → Int64 → Int64 → Int64 → Int64 → Int64 → Int64 → Int32 → (Nat → Int64) → Int32 → (Nat → Int64) → (Nat → Int64) → Int32 → (Nat → Int32) → (Nat → Int32) → Option (Int32 × Int32 × Int32 × Int32 × (Nat → Int64) × Int64 × Int64 × Int64 × Int64 × Int64 × Int64 × Int32 × (Nat → Int64) × (Nat → Int64) × Int32 × (Nat → Int32) × (Nat → Int32))) (x2 : Int32) (x4 : Int32) (x5 : Int32) (x6 : Int32) (x7 : Int32) (v_o_at : Int32) (v_o_wrong : Int32) (v_o_moveIsDue : Int32) (v_o_text_length : Int32) (c_o_text_characters : (Nat → Int32)) (c_o_numbers : (Nat → Int64)) (v_o_pen_x : Int64) (v_o_pen_y : Int64) (v_o_pen_startX : Int64) (v_o_pen_startY : Int64) (v_o_pen_controlX : Int64) (v_o_pen_controlY : Int64) (v_o_pen_controlFor : Int32) (c_o_pen_points : (Nat → Int64)) (v_o_pen_matrices_depth : Int32) (c_o_pen_matrices_rows : (Nat → Int64)) (c_o_pen_drawn : (Nat → Int64)) (v_p3_count : Int32) (c_p3_numbers : (Nat → Int32)) (c_p3_kinds : (Nat → Int32)) : Option (Int32 × Int32 × Int32 × Int32 × (Nat → Int64) × Int64 × Int64 × Int64 × Int64 × Int64 × Int64 × Int32 × (Nat → Int64) × (Nat → Int64) × Int32 × (Nat → Int32) × (Nat → Int32)) :=
  xReader_takeLetter_b117 N k79 x2 x4 x5 x6 x7 x5 v_o_at v_o_wrong v_o_moveIsDue v_o_text_length c_o_text_characters c_o_numbers v_o_pen_x v_o_pen_y v_o_pen_startX v_o_pen_startY v_o_pen_controlX v_o_pen_controlY v_o_pen_controlFor c_o_pen_points v_o_pen_matrices_depth c_o_pen_matrices_rows c_o_pen_drawn v_p3_count c_p3_numbers c_p3_kinds
def xReader_takeLetter_B79 (N : Nat) (k79 : Int32 → Int32 → Int32 → Int32 → Int32 → Int32 → Int32 → Int32 → Int32 → (Nat → Int32) → (Nat → Int64) → Int64 → Int64 → Int64 → Int64 → Int64 → Int64 → Int32 → (Nat → Int64) → Int32 → (Nat → Int64) → (Nat → Int64) → Int32 → (Nat → Int32) → (Nat → Int32) → Option (Int32 × Int32 × Int32 × Int32 × (Nat → Int64) × Int64 × Int64 × Int64 × Int64 × Int64 × Int64 × Int32 × (Nat → Int64) × (Nat → Int64) × Int32 × (Nat → Int32) × (Nat → Int32))) (x2 : Int32) (x4 : Int32) (x5 : Int32) (x6 : Int32) (x7 : Int32) (v_o_at : Int32) (v_o_wrong : Int32) (v_o_moveIsDue : Int32) (v_o_text_length : Int32) (c_o_text_characters : (Nat → Int32)) (c_o_numbers : (Nat → Int64)) (v_o_pen_x : Int64) (v_o_pen_y : Int64) (v_o_pen_startX : Int64) (v_o_pen_startY : Int64) (v_o_pen_controlX : Int64) (v_o_pen_controlY : Int64) (v_o_pen_controlFor : Int32) (c_o_pen_points : (Nat → Int64)) (v_o_pen_matrices_depth : Int32) (c_o_pen_matrices_rows : (Nat → Int64)) (c_o_pen_drawn : (Nat → Int64)) (v_p3_count : Int32) (c_p3_numbers : (Nat → Int32)) (c_p3_kinds : (Nat → Int32)) : Option (Int32 × Int32 × Int32 × Int32 × (Nat → Int64) × Int64 × Int64 × Int64 × Int64 × Int64 × Int64 × Int32 × (Nat → Int64) × (Nat → Int64) × Int32 × (Nat → Int32) × (Nat → Int32)) :=
  if (1200 : Int32) < x7 then
    kb2 (xReader_seeWrong x2) fun r177 v_o_wrong_177 =>
      kg (kz r177) (
      some (r177, v_o_at, v_o_wrong_177, v_o_moveIsDue, c_o_numbers, v_o_pen_x, v_o_pen_y, v_o_pen_startX, v_o_pen_startY, v_o_pen_controlX, v_o_pen_controlY, v_o_pen_controlFor, c_o_pen_points, c_o_pen_drawn, v_p3_count, c_p3_numbers, c_p3_kinds))
  else
    kb4 (xReader_takeNumbers N x6 v_o_at v_o_wrong v_o_text_length c_o_text_characters c_o_numbers) fun r90 v_o_at_90 v_o_wrong_90 c_o_numbers_90 =>
      if r90 = (0 : Int32) then
        some ((0 : Int32), v_o_at_90, v_o_wrong_90, v_o_moveIsDue, c_o_numbers_90, v_o_pen_x, v_o_pen_y, v_o_pen_startX, v_o_pen_startY, v_o_pen_controlX, v_o_pen_controlY, v_o_pen_controlFor, c_o_pen_points, c_o_pen_drawn, v_p3_count, c_p3_numbers, c_p3_kinds)
      else
        if x5 = (77 : Int32) then
            if x7 ≤ (0 : Int32) then
                xReader_takeLetter_b115 N k79 x2 x4 x5 x6 x7 v_o_at_90 v_o_wrong_90 v_o_moveIsDue v_o_text_length c_o_text_characters c_o_numbers_90 v_o_pen_x v_o_pen_y v_o_pen_startX v_o_pen_startY v_o_pen_controlX v_o_pen_controlY v_o_pen_controlFor c_o_pen_points v_o_pen_matrices_depth c_o_pen_matrices_rows c_o_pen_drawn v_p3_count c_p3_numbers c_p3_kinds
              else
                xReader_takeLetter_b117 N k79 x2 x4 x5 x6 x7 (76 : Int32) v_o_at_90 v_o_wrong_90 v_o_moveIsDue v_o_text_length c_o_text_characters c_o_numbers_90 v_o_pen_x v_o_pen_y v_o_pen_startX v_o_pen_startY v_o_pen_controlX v_o_pen_controlY v_o_pen_controlFor c_o_pen_points v_o_pen_matrices_depth c_o_pen_matrices_rows c_o_pen_drawn v_p3_count c_p3_numbers c_p3_kinds
          else
            xReader_takeLetter_b115 N k79 x2 x4 x5 x6 x7 v_o_at_90 v_o_wrong_90 v_o_moveIsDue v_o_text_length c_o_text_characters c_o_numbers_90 v_o_pen_x v_o_pen_y v_o_pen_startX v_o_pen_startY v_o_pen_controlX v_o_pen_controlY v_o_pen_controlFor c_o_pen_points v_o_pen_matrices_depth c_o_pen_matrices_rows c_o_pen_drawn v_p3_count c_p3_numbers c_p3_kinds
def xReader_takeLetter_L79 (N : Nat) : Nat → Int32 → Int32 → Int32 → Int32 → Int32 → Int32 → Int32 → Int32 → Int32 → (Nat → Int32) → (Nat → Int64) → Int64 → Int64 → Int64 → Int64 → Int64 → Int64 → Int32 → (Nat → Int64) → Int32 → (Nat → Int64) → (Nat → Int64) → Int32 → (Nat → Int32) → (Nat → Int32) → Option (Int32 × Int32 × Int32 × Int32 × (Nat → Int64) × Int64 × Int64 × Int64 × Int64 × Int64 × Int64 × Int32 × (Nat → Int64) × (Nat → Int64) × Int32 × (Nat → Int32) × (Nat → Int32))
  | 0 => fun _ _ _ _ _ _ _ _ _ _ _ _ _ _ _ _ _ _ _ _ _ _ _ _ _ => none
  | n + 1 => fun x2 x4 x5 x6 x7 v_o_at v_o_wrong v_o_moveIsDue v_o_text_length c_o_text_characters c_o_numbers v_o_pen_x v_o_pen_y v_o_pen_startX v_o_pen_startY v_o_pen_controlX v_o_pen_controlY v_o_pen_controlFor c_o_pen_points v_o_pen_matrices_depth c_o_pen_matrices_rows c_o_pen_drawn v_p3_count c_p3_numbers c_p3_kinds => xReader_takeLetter_B79 N (xReader_takeLetter_L79 N n) x2 x4 x5 x6 x7 v_o_at v_o_wrong v_o_moveIsDue v_o_text_length c_o_text_characters c_o_numbers v_o_pen_x v_o_pen_y v_o_pen_startX v_o_pen_startY v_o_pen_controlX v_o_pen_controlY v_o_pen_controlFor c_o_pen_points v_o_pen_matrices_depth c_o_pen_matrices_rows c_o_pen_drawn v_p3_count c_p3_numbers c_p3_kinds
def xReader_takeLetter_b71 (N : Nat) (x2 : Int32) (x4 : Int32) (x5 : Int32) (x6 : Int32) (v_o_at : Int32) (v_o_wrong : Int32) (v_o_text_length : Int32) (c_o_text_characters : (Nat → Int32)) (c_o_numbers : (Nat → Int64)) (v_o_pen_x : Int64) (v_o_pen_y : Int64) (v_o_pen_startX : Int64) (v_o_pen_startY : Int64) (v_o_pen_controlX : Int64) (v_o_pen_controlY : Int64) (v_o_pen_controlFor : Int32) (c_o_pen_points : (Nat → Int64)) (v_o_pen_matrices_depth : Int32) (c_o_pen_matrices_rows : (Nat → Int64)) (c_o_pen_drawn : (Nat → Int64)) (v_p3_count : Int32) (c_p3_numbers : (Nat → Int32)) (c_p3_kinds : (Nat → Int32)) : Option (Int32 × Int32 × Int32 × Int32 × (Nat → Int64) × Int64 × Int64 × Int64 × Int64 × Int64 × Int64 × Int32 × (Nat → Int64) × (Nat → Int64) × Int32 × (Nat → Int32) × (Nat → Int32)) :=
  xReader_takeLetter_L79 N N x2 x4 x5 x6 (0 : Int32) v_o_at v_o_wrong (0 : Int32) v_o_text_length c_o_text_characters c_o_numbers v_o_pen_x v_o_pen_y v_o_pen_startX v_o_pen_startY v_o_pen_controlX v_o_pen_controlY v_o_pen_controlFor c_o_pen_points v_o_pen_matrices_depth c_o_pen_matrices_rows c_o_pen_drawn v_p3_count c_p3_numbers c_p3_kinds
def xReader_takeLetter_b36 (N : Nat) (x2 : Int32) (x4 : Int32) (s0 : Int32) (v_o_at : Int32) (v_o_wrong : Int32) (v_o_moveIsDue : Int32) (v_o_text_length : Int32) (c_o_text_characters : (Nat → Int32)) (c_o_numbers : (Nat → Int64)) (v_o_pen_x : Int64) (v_o_pen_y : Int64) (v_o_pen_startX : Int64) (v_o_pen_startY : Int64) (v_o_pen_controlX : Int64) (v_o_pen_controlY : Int64) (v_o_pen_controlFor : Int32) (c_o_pen_points : (Nat → Int64)) (v_o_pen_matrices_depth : Int32) (c_o_pen_matrices_rows : (Nat → Int64)) (c_o_pen_drawn : (Nat → Int64)) (v_p3_count : Int32) (c_p3_numbers : (Nat → Int32)) (c_p3_kinds : (Nat → Int32)) : Option (Int32 × Int32 × Int32 × Int32 × (Nat → Int64) × Int64 × Int64 × Int64 × Int64 × Int64 × Int64 × Int32 × (Nat → Int64) × (Nat → Int64) × Int32 × (Nat → Int32) × (Nat → Int32)) :=
  kb1 (xReader_numbersBehind s0) fun r40 =>
  if r40 = (-1 : Int32) then
    xReader_takeLetter_b65 N x2 v_o_at v_o_moveIsDue c_o_numbers v_o_pen_x v_o_pen_y v_o_pen_startX v_o_pen_startY v_o_pen_controlX v_o_pen_controlY v_o_pen_controlFor c_o_pen_points c_o_pen_drawn v_p3_count c_p3_numbers c_p3_kinds
  else
    if v_o_moveIsDue = (0 : Int32) then
        xReader_takeLetter_b71 N x2 x4 s0 r40 v_o_at v_o_wrong v_o_text_length c_o_text_characters c_o_numbers v_o_pen_x v_o_pen_y v_o_pen_startX v_o_pen_startY v_o_pen_controlX v_o_pen_controlY v_o_pen_controlFor c_o_pen_points v_o_pen_matrices_depth c_o_pen_matrices_rows c_o_pen_drawn v_p3_count c_p3_numbers c_p3_kinds
      else
        if s0 = (77 : Int32) then
            xReader_takeLetter_b71 N x2 x4 s0 r40 v_o_at v_o_wrong v_o_text_length c_o_text_characters c_o_numbers v_o_pen_x v_o_pen_y v_o_pen_startX v_o_pen_startY v_o_pen_controlX v_o_pen_controlY v_o_pen_controlFor c_o_pen_points v_o_pen_matrices_depth c_o_pen_matrices_rows c_o_pen_drawn v_p3_count c_p3_numbers c_p3_kinds
          else
            xReader_takeLetter_b65 N x2 v_o_at v_o_moveIsDue c_o_numbers v_o_pen_x v_o_pen_y v_o_pen_startX v_o_pen_startY v_o_pen_controlX v_o_pen_controlY v_o_pen_controlFor c_o_pen_points c_o_pen_drawn v_p3_count c_p3_numbers c_p3_kinds
def xReader_takeLetter_b17 (N : Nat) (x1 : Int32) (x2 : Int32) (s0 : Int32) (v_o_at : Int32) (v_o_wrong : Int32) (v_o_moveIsDue : Int32) (v_o_text_length : Int32) (c_o_text_characters : (Nat → Int32)) (c_o_numbers : (Nat → Int64)) (v_o_pen_x : Int64) (v_o_pen_y : Int64) (v_o_pen_startX : Int64) (v_o_pen_startY : Int64) (v_o_pen_controlX : Int64) (v_o_pen_controlY : Int64) (v_o_pen_controlFor : Int32) (c_o_pen_points : (Nat → Int64)) (v_o_pen_matrices_depth : Int32) (c_o_pen_matrices_rows : (Nat → Int64)) (c_o_pen_drawn : (Nat → Int64)) (v_p3_count : Int32) (c_p3_numbers : (Nat → Int32)) (c_p3_kinds : (Nat → Int32)) : Option (Int32 × Int32 × Int32 × Int32 × (Nat → Int64) × Int64 × Int64 × Int64 × Int64 × Int64 × Int64 × Int32 × (Nat → Int64) × (Nat → Int64) × Int32 × (Nat → Int32) × (Nat → Int32)) :=
  if s0 = (0 : Int32) then
    xReader_takeLetter_b36 N x2 s0 x1 v_o_at v_o_wrong v_o_moveIsDue v_o_text_length c_o_text_characters c_o_numbers v_o_pen_x v_o_pen_y v_o_pen_startX v_o_pen_startY v_o_pen_controlX v_o_pen_controlY v_o_pen_controlFor c_o_pen_points v_o_pen_matrices_depth c_o_pen_matrices_rows c_o_pen_drawn v_p3_count c_p3_numbers c_p3_kinds
  else
    xReader_takeLetter_b36 N x2 s0 (k2c ((x1 - (97 : Int32)) + (65 : Int32))) v_o_at v_o_wrong v_o_moveIsDue v_o_text_length c_o_text_characters c_o_numbers v_o_pen_x v_o_pen_y v_o_pen_startX v_o_pen_startY v_o_pen_controlX v_o_pen_controlY v_o_pen_controlFor c_o_pen_points v_o_pen_matrices_depth c_o_pen_matrices_rows c_o_pen_drawn v_p3_count c_p3_numbers c_p3_kinds
def xReader_takeLetter_b16 (N : Nat) (x1 : Int32) (x2 : Int32) (v_o_at : Int32) (v_o_wrong : Int32) (v_o_moveIsDue : Int32) (v_o_text_length : Int32) (c_o_text_characters : (Nat → Int32)) (c_o_numbers : (Nat → Int64)) (v_o_pen_x : Int64) (v_o_pen_y : Int64) (v_o_pen_startX : Int64) (v_o_pen_startY : Int64) (v_o_pen_controlX : Int64) (v_o_pen_controlY : Int64) (v_o_pen_controlFor : Int32) (c_o_pen_points : (Nat → Int64)) (v_o_pen_matrices_depth : Int32) (c_o_pen_matrices_rows : (Nat → Int64)) (c_o_pen_drawn : (Nat → Int64)) (v_p3_count : Int32) (c_p3_numbers : (Nat → Int32)) (c_p3_kinds : (Nat → Int32)) : Option (Int32 × Int32 × Int32 × Int32 × (Nat → Int64) × Int64 × Int64 × Int64 × Int64 × Int64 × Int64 × Int32 × (Nat → Int64) × (Nat → Int64) × Int32 × (Nat → Int32) × (Nat → Int32)) :=
  xReader_takeLetter_b17 N x1 x2 (0 : Int32) v_o_at v_o_wrong v_o_moveIsDue v_o_text_length c_o_text_characters c_o_numbers v_o_pen_x v_o_pen_y v_o_pen_startX v_o_pen_startY v_o_pen_controlX v_o_pen_controlY v_o_pen_controlFor c_o_pen_points v_o_pen_matrices_depth c_o_pen_matrices_rows c_o_pen_drawn v_p3_count c_p3_numbers c_p3_kinds
def xReader_takeLetter (N : Nat) (x1 : Int32) (x2 : Int32) (v_o_at : Int32) (v_o_wrong : Int32) (v_o_moveIsDue : Int32) (v_o_text_length : Int32) (c_o_text_characters : (Nat → Int32)) (c_o_numbers : (Nat → Int64)) (v_o_pen_x : Int64) (v_o_pen_y : Int64) (v_o_pen_startX : Int64) (v_o_pen_startY : Int64) (v_o_pen_controlX : Int64) (v_o_pen_controlY : Int64) (v_o_pen_controlFor : Int32) (c_o_pen_points : (Nat → Int64)) (v_o_pen_matrices_depth : Int32) (c_o_pen_matrices_rows : (Nat → Int64)) (c_o_pen_drawn : (Nat → Int64)) (v_p3_count : Int32) (c_p3_numbers : (Nat → Int32)) (c_p3_kinds : (Nat → Int32)) : Option (Int32 × Int32 × Int32 × Int32 × (Nat → Int64) × Int64 × Int64 × Int64 × Int64 × Int64 × Int64 × Int32 × (Nat → Int64) × (Nat → Int64) × Int32 × (Nat → Int32) × (Nat → Int32)) :=
  if x1 < (97 : Int32) then
    xReader_takeLetter_b16 N x1 x2 v_o_at v_o_wrong v_o_moveIsDue v_o_text_length c_o_text_characters c_o_numbers v_o_pen_x v_o_pen_y v_o_pen_startX v_o_pen_startY v_o_pen_controlX v_o_pen_controlY v_o_pen_controlFor c_o_pen_points v_o_pen_matrices_depth c_o_pen_matrices_rows c_o_pen_drawn v_p3_count c_p3_numbers c_p3_kinds
  else
    if (122 : Int32) < x1 then
        xReader_takeLetter_b16 N x1 x2 v_o_at v_o_wrong v_o_moveIsDue v_o_text_length c_o_text_characters c_o_numbers v_o_pen_x v_o_pen_y v_o_pen_startX v_o_pen_startY v_o_pen_controlX v_o_pen_controlY v_o_pen_controlFor c_o_pen_points v_o_pen_matrices_depth c_o_pen_matrices_rows c_o_pen_drawn v_p3_count c_p3_numbers c_p3_kinds
      else
        xReader_takeLetter_b17 N x1 x2 (1 : Int32) v_o_at v_o_wrong v_o_moveIsDue v_o_text_length c_o_text_characters c_o_numbers v_o_pen_x v_o_pen_y v_o_pen_startX v_o_pen_startY v_o_pen_controlX v_o_pen_controlY v_o_pen_controlFor c_o_pen_points v_o_pen_matrices_depth c_o_pen_matrices_rows c_o_pen_drawn v_p3_count c_p3_numbers c_p3_kinds
def xWriter_writeNumeral_b123 (N : Nat) (n_p4_characters : Nat) (x6 : Int32) (v_p4_length : Int32) (c_p4_characters : (Nat → Int32)) : Option (Int32 × Int32 × (Nat → Int32)) :=
  if x6 ≤ (0 : Int32) then
    some ((0 : Int32), v_p4_length, c_p4_characters)
  else
    some ((1 : Int32), v_p4_length, c_p4_characters)
def xWriter_writeNumeral_b104 (N : Nat) (n_p4_characters : Nat) (x6 : Int32) (x7 : Int64) (v_p4_length : Int32) (c_p4_characters : (Nat → Int32)) : Option (Int32 × Int32 × (Nat → Int32)) :=
  if x6 ≤ (0 : Int32) then
    xWriter_writeNumeral_b123 N n_p4_characters x6 v_p4_length c_p4_characters
  else
    kb2 (xRow_put n_p4_characters (46 : Int32) v_p4_length c_p4_characters) fun v_p4_length_112 c_p4_characters_112 =>
      kb2 (xWriter_putDigits N n_p4_characters x7 x6 v_p4_length_112 c_p4_characters_112) fun v_p4_length_120 c_p4_characters_120 =>
      xWriter_writeNumeral_b123 N n_p4_characters x6 v_p4_length_120 c_p4_characters_120
def xWriter_writeNumeral_b93 (N : Nat) (n_p4_characters : Nat) (x6 : Int32) (x7 : Int64) (x9 : Int64) (x11 : Int32) (v_p4_length : Int32) (c_p4_characters : (Nat → Int32)) : Option (Int32 × Int32 × (Nat → Int32)) :=
  if x11 = (0 : Int32) then
    kb2 (xWriter_putWhole N n_p4_characters x9 v_p4_length c_p4_characters) fun v_p4_length_101 c_p4_characters_101 =>
      xWriter_writeNumeral_b104 N n_p4_characters x6 x7 v_p4_length_101 c_p4_characters_101
  else
    xWriter_writeNumeral_b104 N n_p4_characters x6 x7 v_p4_length c_p4_characters
def xWriter_writeNumeral_b83 (N : Nat) (n_p4_characters : Nat) (x0 : Int32) (x6 : Int32) (x7 : Int64) (x9 : Int64) (x11 : Int32) (v_p4_length : Int32) (c_p4_characters : (Nat → Int32)) : Option (Int32 × Int32 × (Nat → Int32)) :=
  if (0 : Int32) ≤ x0 then
    xWriter_writeNumeral_b93 N n_p4_characters x6 x7 x9 x11 v_p4_length c_p4_characters
  else
    kb2 (xRow_put n_p4_characters (45 : Int32) v_p4_length c_p4_characters) fun v_p4_length_90 c_p4_characters_90 =>
      xWriter_writeNumeral_b93 N n_p4_characters x6 x7 x9 x11 v_p4_length_90 c_p4_characters_90
def xWriter_writeNumeral_b77 (N : Nat) (n_p4_characters : Nat) (x0 : Int32) (x6 : Int32) (x7 : Int64) (x9 : Int64) (x11 : Int32) (v_p4_length : Int32) (c_p4_characters : (Nat → Int32)) : Option (Int32 × Int32 × (Nat → Int32)) :=
  kb2 (xRow_put n_p4_characters (32 : Int32) v_p4_length c_p4_characters) fun v_p4_length_80 c_p4_characters_80 =>
  xWriter_writeNumeral_b83 N n_p4_characters x0 x6 x7 x9 x11 v_p4_length_80 c_p4_characters_80
def xWriter_writeNumeral_b58 (N : Nat) (n_p4_characters : Nat) (x0 : Int32) (x1 : Int32) (x2 : Int32) (x6 : Int32) (x7 : Int64) (x9 : Int64) (s0 : Int32) (v_p4_length : Int32) (c_p4_characters : (Nat → Int32)) : Option (Int32 × Int32 × (Nat → Int32)) :=
  if x1 = (0 : Int32) then
    if x0 < (0 : Int32) then
        xWriter_writeNumeral_b83 N n_p4_characters x0 x6 x7 x9 s0 v_p4_length c_p4_characters
      else
        if s0 = (0 : Int32) then
            xWriter_writeNumeral_b77 N n_p4_characters x0 x6 x7 x9 s0 v_p4_length c_p4_characters
          else
            if x2 = (0 : Int32) then
                xWriter_writeNumeral_b77 N n_p4_characters x0 x6 x7 x9 s0 v_p4_length c_p4_characters
              else
                xWriter_writeNumeral_b83 N n_p4_characters x0 x6 x7 x9 s0 v_p4_length c_p4_characters
  else
    xWriter_writeNumeral_b83 N n_p4_characters x0 x6 x7 x9 s0 v_p4_length c_p4_characters
def xWriter_writeNumeral_b57 (N : Nat) (n_p4_characters : Nat) (x0 : Int32) (x1 : Int32) (x2 : Int32) (x6 : Int32) (x7 : Int64) (x9 : Int64) (v_p4_length : Int32) (c_p4_characters : (Nat → Int32)) : Option (Int32 × Int32 × (Nat → Int32)) :=
  xWriter_writeNumeral_b58 N n_p4_characters x0 x1 x2 x6 x7 x9 (0 : Int32) v_p4_length c_p4_characters
def xWriter_writeNumeral_b12 (N : Nat) (n_p4_characters : Nat) (x0 : Int32) (x1 : Int32) (x2 : Int32) (s0 : Int64) (v_p4_length : Int32) (c_p4_characters : (Nat → Int32)) : Option (Int32 × Int32 × (Nat → Int32)) :=
  kb1 (xWriter_leastDigitsBehind N x0 s0) fun r17 =>
  kb1 (xWriter_decimalNextTo s0 r17) fun r26 =>
  kb1 (xWriter_tens r17) fun r35 =>
  kg (knl r35) (
  if r17 ≤ (0 : Int32) then
    xWriter_writeNumeral_b57 N n_p4_characters x0 x1 x2 r17 r26 (r26 / r35) v_p4_length c_p4_characters
  else
    if (r26 / r35) = (0 : Int64) then
        xWriter_writeNumeral_b58 N n_p4_characters x0 x1 x2 r17 r26 (r26 / r35) (1 : Int32) v_p4_length c_p4_characters
      else
        xWriter_writeNumeral_b57 N n_p4_characters x0 x1 x2 r17 r26 (r26 / r35) v_p4_length c_p4_characters)
def xWriter_writeNumeral (N : Nat) (n_p4_characters : Nat) (x0 : Int32) (x1 : Int32) (x2 : Int32) (v_p4_length : Int32) (c_p4_characters : (Nat → Int32)) : Option (Int32 × Int32 × (Nat → Int32)) :=
  if (0 : Int32) ≤ x0 then
    xWriter_writeNumeral_b12 N n_p4_characters x0 x1 x2 (Int32.toInt64 x0) v_p4_length c_p4_characters
  else
    xWriter_writeNumeral_b12 N n_p4_characters x0 x1 x2 (-(Int32.toInt64 x0)) v_p4_length c_p4_characters
def xCover_addCubicI_B28 (N : Nat) (k28 : Int32 → Int64 → Int64 → Int32 → Int64 → Int64 → Int64 → (Nat → Int32) → (Nat → Int32) → Option (Int64 × Int64 × (Nat → Int32))) (x2 : Int32) (x3 : Int64) (x5 : Int64) (x7 : Int32) (v_o_top : Int64) (v_o_x : Int64) (v_o_y : Int64) (c_o_changes : (Nat → Int32)) (c_p1 : (Nat → Int32)) : Option (Int64 × Int64 × (Nat → Int32)) :=
  if (16 : Int32) < x7 then
    some (v_o_x, v_o_y, c_o_changes)
  else
    kg (ki x2 900) (
      kg (ki (x2 + (2 : Int32)) 900) (
      kg (ki (x2 + (4 : Int32)) 900) (
      kb1 (xCover_onCurve x3 (Int32.toInt64 (c_p1 (x2).toNatClampNeg)) (Int32.toInt64 (c_p1 ((x2 + (2 : Int32))).toNatClampNeg)) (Int32.toInt64 (c_p1 ((x2 + (4 : Int32))).toNatClampNeg)) (Int32.toInt64 x7)) fun r55 =>
      kg (ki (x2 + (1 : Int32)) 900) (
      kg (ki (x2 + (3 : Int32)) 900) (
      kg (ki (x2 + (5 : Int32)) 900) (
      kb1 (xCover_onCurve x5 (Int32.toInt64 (c_p1 ((x2 + (1 : Int32))).toNatClampNeg)) (Int32.toInt64 (c_p1 ((x2 + (3 : Int32))).toNatClampNeg)) (Int32.toInt64 (c_p1 ((x2 + (5 : Int32))).toNatClampNeg)) (Int32.toInt64 x7)) fun r83 =>
      kb3 (xCover_addEdge N r55 r83 v_o_top v_o_x v_o_y c_o_changes) fun v_o_x_93 v_o_y_93 c_o_changes_93 =>
      k28 x2 x3 x5 (x7 + (1 : Int32)) v_o_top v_o_x_93 v_o_y_93 c_o_changes_93 c_p1))))))
def xCover_addCubicI_L28 (N : Nat) : Nat → Int32 → Int64 → Int64 → Int32 → Int64 → Int64 → Int64 → (Nat → Int32) → (Nat → Int32) → Option (Int64 × Int64 × (Nat → Int32))
  | 0 => fun _ _ _ _ _ _ _ _ _ => none
  | n + 1 => fun x2 x3 x5 x7 v_o_top v_o_x v_o_y c_o_changes c_p1 => xCover_addCubicI_B28 N (xCover_addCubicI_L28 N n) x2 x3 x5 x7 v_o_top v_o_x v_o_y c_o_changes c_p1
def xCover_addCubicI (N : Nat) (x2 : Int32) (v_o_top : Int64) (v_o_x : Int64) (v_o_y : Int64) (c_o_changes : (Nat → Int32)) (c_p1 : (Nat → Int32)) : Option (Int64 × Int64 × (Nat → Int32)) :=
  if x2 < (0 : Int32) then
    some (v_o_x, v_o_y, c_o_changes)
  else
    if (x2 + (6 : Int32)) ≤ (900 : Int32) then
        xCover_addCubicI_L28 N N x2 v_o_x v_o_y (1 : Int32) v_o_top v_o_x v_o_y c_o_changes c_p1
      else
        some (v_o_x, v_o_y, c_o_changes)
def xReader_placeOfWrong_b147 (N : Nat) (k34 : Int32 → Int32 → Int32 → Int32 → Int64 → Int64 → Int64 → Int64 → Int64 → Int64 → Int32 → Int32 → (Nat → Int64) → Int32 → (Nat → Int32) → (Nat → Int64) → (Nat → Int64) → (Nat → Int64) → Int32 → (Nat → Int32) → (Nat → Int32) → Option (Int32 × Int32 × Int32 × Int32 × Int64 × Int64 × Int64 × Int64 × Int64 × Int64 × Int32 × Int32 × (Nat → Int64) × (Nat → Int64) × (Nat → Int64) × (Nat → Int64) × Int32 × (Nat → Int32) × (Nat → Int32))) (x2 : Int32) (s0 : Int32) (v_o_at : Int32) (v_o_wrong : Int32) (v_o_moveIsDue : Int32) (v_o_pen_x : Int64) (v_o_pen_y : Int64) (v_o_pen_startX : Int64) (v_o_pen_startY : Int64) (v_o_pen_controlX : Int64) (v_o_pen_controlY : Int64) (v_o_pen_controlFor : Int32) (v_o_pen_matrices_depth : Int32) (c_o_pen_matrices_rows : (Nat → Int64)) (v_o_text_length : Int32) (c_o_text_characters : (Nat → Int32)) (c_o_numbers : (Nat → Int64)) (c_o_pen_points : (Nat → Int64)) (c_o_pen_drawn : (Nat → Int64)) (v_p1_count : Int32) (c_p1_numbers : (Nat → Int32)) (c_p1_kinds : (Nat → Int32)) : Option (Int32 × Int32 × Int32 × Int32 × Int64 × Int64 × Int64 × Int64 × Int64 × Int64 × Int32 × Int32 × (Nat → Int64) × (Nat → Int64) × (Nat → Int64) × (Nat → Int64) × Int32 × (Nat → Int32) × (Nat → Int32)) :=
  if s0 = (0 : Int32) then
    some (v_o_wrong, v_o_at, v_o_wrong, v_o_moveIsDue, v_o_pen_x, v_o_pen_y, v_o_pen_startX, v_o_pen_startY, v_o_pen_controlX, v_o_pen_controlY, v_o_pen_controlFor, v_o_pen_matrices_depth, c_o_pen_matrices_rows, c_o_numbers, c_o_pen_points, c_o_pen_drawn, v_p1_count, c_p1_numbers, c_p1_kinds)
  else
    k34 (x2 + (1 : Int32)) v_o_at v_o_wrong v_o_moveIsDue v_o_pen_x v_o_pen_y v_o_pen_startX v_o_pen_startY v_o_pen_controlX v_o_pen_controlY v_o_pen_controlFor v_o_pen_matrices_depth c_o_pen_matrices_rows v_o_text_length c_o_text_characters c_o_numbers c_o_pen_points c_o_pen_drawn v_p1_count c_p1_numbers c_p1_kinds
def xReader_placeOfWrong_B34 (N : Nat) (k34 : Int32 → Int32 → Int32 → Int32 → Int64 → Int64 → Int64 → Int64 → Int64 → Int64 → Int32 → Int32 → (Nat → Int64) → Int32 → (Nat → Int32) → (Nat → Int64) → (Nat → Int64) → (Nat → Int64) → Int32 → (Nat → Int32) → (Nat → Int32) → Option (Int32 × Int32 × Int32 × Int32 × Int64 × Int64 × Int64 × Int64 × Int64 × Int64 × Int32 × Int32 × (Nat → Int64) × (Nat → Int64) × (Nat → Int64) × (Nat → Int64) × Int32 × (Nat → Int32) × (Nat → Int32))) (x2 : Int32) (v_o_at : Int32) (v_o_wrong : Int32) (v_o_moveIsDue : Int32) (v_o_pen_x : Int64) (v_o_pen_y : Int64) (v_o_pen_startX : Int64) (v_o_pen_startY : Int64) (v_o_pen_controlX : Int64) (v_o_pen_controlY : Int64) (v_o_pen_controlFor : Int32) (v_o_pen_matrices_depth : Int32) (c_o_pen_matrices_rows : (Nat → Int64)) (v_o_text_length : Int32) (c_o_text_characters : (Nat → Int32)) (c_o_numbers : (Nat → Int64)) (c_o_pen_points : (Nat → Int64)) (c_o_pen_drawn : (Nat → Int64)) (v_p1_count : Int32) (c_p1_numbers : (Nat → Int32)) (c_p1_kinds : (Nat → Int32)) : Option (Int32 × Int32 × Int32 × Int32 × Int64 × Int64 × Int64 × Int64 × Int64 × Int64 × Int32 × Int32 × (Nat → Int64) × (Nat → Int64) × (Nat → Int64) × (Nat → Int64) × Int32 × (Nat → Int32) × (Nat → Int32)) :=
  if (1200 : Int32) < x2 then
    some (v_o_at, v_o_at, v_o_wrong, v_o_moveIsDue, v_o_pen_x, v_o_pen_y, v_o_pen_startX, v_o_pen_startY, v_o_pen_controlX, v_o_pen_controlY, v_o_pen_controlFor, v_o_pen_matrices_depth, c_o_pen_matrices_rows, c_o_numbers, c_o_pen_points, c_o_pen_drawn, v_p1_count, c_p1_numbers, c_p1_kinds)
  else
    kb1 (xReader_passBlanks N v_o_at v_o_text_length c_o_text_characters) fun v_o_at_42 =>
      if v_o_at_42 < v_o_text_length then
        kb1 (xRow_at 1200 v_o_at_42 v_o_text_length c_o_text_characters) fun r94 =>
          if r94 = (40 : Int32) then
            kb10 (xReader_takeOpening N v_o_at_42 (v_o_at_42 + (1 : Int32)) v_o_wrong v_o_moveIsDue v_o_pen_x v_o_pen_y v_o_pen_controlFor v_o_pen_matrices_depth v_o_text_length c_o_text_characters c_o_numbers c_o_pen_matrices_rows) fun r118 v_o_at_118 v_o_wrong_118 v_o_moveIsDue_118 v_o_pen_x_118 v_o_pen_y_118 v_o_pen_controlFor_118 v_o_pen_matrices_depth_118 c_o_numbers_118 c_o_pen_matrices_rows_118 =>
              xReader_placeOfWrong_b147 N k34 x2 r118 v_o_at_118 v_o_wrong_118 v_o_moveIsDue_118 v_o_pen_x_118 v_o_pen_y_118 v_o_pen_startX v_o_pen_startY v_o_pen_controlX v_o_pen_controlY v_o_pen_controlFor_118 v_o_pen_matrices_depth_118 c_o_pen_matrices_rows_118 v_o_text_length c_o_text_characters c_o_numbers_118 c_o_pen_points c_o_pen_drawn v_p1_count c_p1_numbers c_p1_kinds
          else
            if r94 = (41 : Int32) then
                kb7 (xReader_takeClosing v_o_at_42 v_o_wrong v_o_moveIsDue v_o_pen_x v_o_pen_y v_o_pen_controlFor v_o_pen_matrices_depth) fun r133 v_o_wrong_133 v_o_moveIsDue_133 v_o_pen_x_133 v_o_pen_y_133 v_o_pen_controlFor_133 v_o_pen_matrices_depth_133 =>
                  xReader_placeOfWrong_b147 N k34 x2 r133 (v_o_at_42 + (1 : Int32)) v_o_wrong_133 v_o_moveIsDue_133 v_o_pen_x_133 v_o_pen_y_133 v_o_pen_startX v_o_pen_startY v_o_pen_controlX v_o_pen_controlY v_o_pen_controlFor_133 v_o_pen_matrices_depth_133 c_o_pen_matrices_rows v_o_text_length c_o_text_characters c_o_numbers c_o_pen_points c_o_pen_drawn v_p1_count c_p1_numbers c_p1_kinds
              else
                kb17 (xReader_takeLetter N r94 v_o_at_42 (v_o_at_42 + (1 : Int32)) v_o_wrong v_o_moveIsDue v_o_text_length c_o_text_characters c_o_numbers v_o_pen_x v_o_pen_y v_o_pen_startX v_o_pen_startY v_o_pen_controlX v_o_pen_controlY v_o_pen_controlFor c_o_pen_points v_o_pen_matrices_depth c_o_pen_matrices_rows c_o_pen_drawn v_p1_count c_p1_numbers c_p1_kinds) fun r144 v_o_at_144 v_o_wrong_144 v_o_moveIsDue_144 c_o_numbers_144 v_o_pen_x_144 v_o_pen_y_144 v_o_pen_startX_144 v_o_pen_startY_144 v_o_pen_controlX_144 v_o_pen_controlY_144 v_o_pen_controlFor_144 c_o_pen_points_144 c_o_pen_drawn_144 v_p1_count_144 c_p1_numbers_144 c_p1_kinds_144 =>
                  xReader_placeOfWrong_b147 N k34 x2 r144 v_o_at_144 v_o_wrong_144 v_o_moveIsDue_144 v_o_pen_x_144 v_o_pen_y_144 v_o_pen_startX_144 v_o_pen_startY_144 v_o_pen_controlX_144 v_o_pen_controlY_144 v_o_pen_controlFor_144 v_o_pen_matrices_depth c_o_pen_matrices_rows v_o_text_length c_o_text_characters c_o_numbers_144 c_o_pen_points_144 c_o_pen_drawn_144 v_p1_count_144 c_p1_numbers_144 c_p1_kinds_144
      else
        if v_o_pen_matrices_depth = (0 : Int32) then
            some ((-1 : Int32), v_o_at_42, v_o_wrong, v_o_moveIsDue, v_o_pen_x, v_o_pen_y, v_o_pen_startX, v_o_pen_startY, v_o_pen_controlX, v_o_pen_controlY, v_o_pen_controlFor, v_o_pen_matrices_depth, c_o_pen_matrices_rows, c_o_numbers, c_o_pen_points, c_o_pen_drawn, v_p1_count, c_p1_numbers, c_p1_kinds)
          else
            some (v_o_text_length, v_o_at_42, v_o_wrong, v_o_moveIsDue, v_o_pen_x, v_o_pen_y, v_o_pen_startX, v_o_pen_startY, v_o_pen_controlX, v_o_pen_controlY, v_o_pen_controlFor, v_o_pen_matrices_depth, c_o_pen_matrices_rows, c_o_numbers, c_o_pen_points, c_o_pen_drawn, v_p1_count, c_p1_numbers, c_p1_kinds)
def xReader_placeOfWrong_L34 (N : Nat) : Nat → Int32 → Int32 → Int32 → Int32 → Int64 → Int64 → Int64 → Int64 → Int64 → Int64 → Int32 → Int32 → (Nat → Int64) → Int32 → (Nat → Int32) → (Nat → Int64) → (Nat → Int64) → (Nat → Int64) → Int32 → (Nat → Int32) → (Nat → Int32) → Option (Int32 × Int32 × Int32 × Int32 × Int64 × Int64 × Int64 × Int64 × Int64 × Int64 × Int32 × Int32 × (Nat → Int64) × (Nat → Int64) × (Nat → Int64) × (Nat → Int64) × Int32 × (Nat → Int32) × (Nat → Int32))
  | 0 => fun _ _ _ _ _ _ _ _ _ _ _ _ _ _ _ _ _ _ _ _ _ => none
  | n + 1 => fun x2 v_o_at v_o_wrong v_o_moveIsDue v_o_pen_x v_o_pen_y v_o_pen_startX v_o_pen_startY v_o_pen_controlX v_o_pen_controlY v_o_pen_controlFor v_o_pen_matrices_depth c_o_pen_matrices_rows v_o_text_length c_o_text_characters c_o_numbers c_o_pen_points c_o_pen_drawn v_p1_count c_p1_numbers c_p1_kinds => xReader_placeOfWrong_B34 N (xReader_placeOfWrong_L34 N n) x2 v_o_at v_o_wrong v_o_moveIsDue v_o_pen_x v_o_pen_y v_o_pen_startX v_o_pen_startY v_o_pen_controlX v_o_pen_controlY v_o_pen_controlFor v_o_pen_matrices_depth c_o_pen_matrices_rows v_o_text_length c_o_text_characters c_o_numbers c_o_pen_points c_o_pen_drawn v_p1_count c_p1_numbers c_p1_kinds
def xReader_placeOfWrong (N : Nat) (v_o_wrong : Int32) (v_o_pen_startX : Int64) (v_o_pen_startY : Int64) (v_o_pen_controlX : Int64) (v_o_pen_controlY : Int64) (c_o_pen_matrices_rows : (Nat → Int64)) (v_o_text_length : Int32) (c_o_text_characters : (Nat → Int32)) (c_o_numbers : (Nat → Int64)) (c_o_pen_points : (Nat → Int64)) (c_o_pen_drawn : (Nat → Int64)) (c_p1_numbers : (Nat → Int32)) (c_p1_kinds : (Nat → Int32)) : Option (Int32 × Int32 × Int32 × Int32 × Int64 × Int64 × Int64 × Int64 × Int64 × Int64 × Int32 × Int32 × (Nat → Int64) × (Nat → Int64) × (Nat → Int64) × (Nat → Int64) × Int32 × (Nat → Int32) × (Nat → Int32)) :=
  kb2 (xMatrices_startOver N c_o_pen_matrices_rows) fun v_o_pen_matrices_depth_12 c_o_pen_matrices_rows_12 =>
  kb3 (xPen_standAtZero) fun v_o_pen_x_19 v_o_pen_y_19 v_o_pen_controlFor_19 =>
  xReader_placeOfWrong_L34 N N (0 : Int32) (0 : Int32) v_o_wrong (1 : Int32) v_o_pen_x_19 v_o_pen_y_19 v_o_pen_startX v_o_pen_startY v_o_pen_controlX v_o_pen_controlY v_o_pen_controlFor_19 v_o_pen_matrices_depth_12 c_o_pen_matrices_rows_12 v_o_text_length c_o_text_characters c_o_numbers c_o_pen_points c_o_pen_drawn (0 : Int32) c_p1_numbers c_p1_kinds
def xWriter_writeDrawing_b76 (N : Nat) (n_p2_characters : Nat) (k7 : Int32 → Int32 → (Nat → Int32) → (Nat → Int32) → Int32 → (Nat → Int32) → Option (Int32 × (Nat → Int32))) (k40 : Int32 → Int32 → Int32 → Int32 → (Nat → Int32) → (Nat → Int32) → Int32 → (Nat → Int32) → Option (Int32 × (Nat → Int32))) (x2 : Int32) (x3 : Int32) (x4 : Int32) (s0 : Int32) (s1 : Int32) (v_p1_count : Int32) (c_p1_kinds : (Nat → Int32)) (c_p1_numbers : (Nat → Int32)) (v_p2_length : Int32) (c_p2_characters : (Nat → Int32)) : Option (Int32 × (Nat → Int32)) :=
  kb3 (xWriter_writeNumeral N n_p2_characters s0 s1 x3 v_p2_length c_p2_characters) fun r78 v_p2_length_78 c_p2_characters_78 =>
  k40 x2 r78 (x4 + (1 : Int32)) v_p1_count c_p1_kinds c_p1_numbers v_p2_length_78 c_p2_characters_78
def xWriter_writeDrawing_B40 (N : Nat) (n_p2_characters : Nat) (k7 : Int32 → Int32 → (Nat → Int32) → (Nat → Int32) → Int32 → (Nat → Int32) → Option (Int32 × (Nat → Int32))) (k40 : Int32 → Int32 → Int32 → Int32 → (Nat → Int32) → (Nat → Int32) → Int32 → (Nat → Int32) → Option (Int32 × (Nat → Int32))) (x2 : Int32) (x3 : Int32) (x4 : Int32) (v_p1_count : Int32) (c_p1_kinds : (Nat → Int32)) (c_p1_numbers : (Nat → Int32)) (v_p2_length : Int32) (c_p2_characters : (Nat → Int32)) : Option (Int32 × (Nat → Int32)) :=
  kg (ki x2 150) (
  kb1 (xP_numbersOf (c_p1_kinds (x2).toNatClampNeg)) fun r48 =>
  if r48 ≤ x4 then
    k7 (x2 + (1 : Int32)) v_p1_count c_p1_kinds c_p1_numbers v_p2_length c_p2_characters
  else
    kg (ki ((x2 * (6 : Int32)) + x4) 900) (
      if x4 = (0 : Int32) then
        xWriter_writeDrawing_b76 N n_p2_characters k7 k40 x2 x3 x4 (c_p1_numbers (((x2 * (6 : Int32)) + x4)).toNatClampNeg) (1 : Int32) v_p1_count c_p1_kinds c_p1_numbers v_p2_length c_p2_characters
      else
        xWriter_writeDrawing_b76 N n_p2_characters k7 k40 x2 x3 x4 (c_p1_numbers (((x2 * (6 : Int32)) + x4)).toNatClampNeg) (0 : Int32) v_p1_count c_p1_kinds c_p1_numbers v_p2_length c_p2_characters))
def xWriter_writeDrawing_L40 (N : Nat) (n_p2_characters : Nat) (k7 : Int32 → Int32 → (Nat → Int32) → (Nat → Int32) → Int32 → (Nat → Int32) → Option (Int32 × (Nat → Int32))) : Nat → Int32 → Int32 → Int32 → Int32 → (Nat → Int32) → (Nat → Int32) → Int32 → (Nat → Int32) → Option (Int32 × (Nat → Int32))
  | 0 => fun _ _ _ _ _ _ _ _ => none
  | n + 1 => fun x2 x3 x4 v_p1_count c_p1_kinds c_p1_numbers v_p2_length c_p2_characters => xWriter_writeDrawing_B40 N n_p2_characters k7 (xWriter_writeDrawing_L40 N n_p2_characters k7 n) x2 x3 x4 v_p1_count c_p1_kinds c_p1_numbers v_p2_length c_p2_characters
def xWriter_writeDrawing_B7 (N : Nat) (n_p2_characters : Nat) (k7 : Int32 → Int32 → (Nat → Int32) → (Nat → Int32) → Int32 → (Nat → Int32) → Option (Int32 × (Nat → Int32))) (x2 : Int32) (v_p1_count : Int32) (c_p1_kinds : (Nat → Int32)) (c_p1_numbers : (Nat → Int32)) (v_p2_length : Int32) (c_p2_characters : (Nat → Int32)) : Option (Int32 × (Nat → Int32)) :=
  if (150 : Int32) ≤ x2 then
    some (v_p2_length, c_p2_characters)
  else
    if v_p1_count ≤ x2 then
        some (v_p2_length, c_p2_characters)
      else
        kg (ki x2 150) (
          kb1 (xWriter_letterOf (c_p1_kinds (x2).toNatClampNeg)) fun r29 =>
          kb2 (xRow_put n_p2_characters r29 v_p2_length c_p2_characters) fun v_p2_length_32 c_p2_characters_32 =>
          xWriter_writeDrawing_L40 N n_p2_characters k7 N x2 (0 : Int32) (0 : Int32) v_p1_count c_p1_kinds c_p1_numbers v_p2_length_32 c_p2_characters_32)
def xWriter_writeDrawing_L7 (N : Nat) (n_p2_characters : Nat) : Nat → Int32 → Int32 → (Nat → Int32) → (Nat → Int32) → Int32 → (Nat → Int32) → Option (Int32 × (Nat → Int32))
  | 0 => fun _ _ _ _ _ _ => none
  | n + 1 => fun x2 v_p1_count c_p1_kinds c_p1_numbers v_p2_length c_p2_characters => xWriter_writeDrawing_B7 N n_p2_characters (xWriter_writeDrawing_L7 N n_p2_characters n) x2 v_p1_count c_p1_kinds c_p1_numbers v_p2_length c_p2_characters
def xWriter_writeDrawing (N : Nat) (n_p2_characters : Nat) (v_p1_count : Int32) (c_p1_kinds : (Nat → Int32)) (c_p1_numbers : (Nat → Int32)) (c_p2_characters : (Nat → Int32)) : Option (Int32 × (Nat → Int32)) :=
  xWriter_writeDrawing_L7 N n_p2_characters N (0 : Int32) v_p1_count c_p1_kinds c_p1_numbers (0 : Int32) c_p2_characters
def xCover_addDrawing_b164 (N : Nat) (v_o_top : Int64) (v_o_x : Int64) (v_o_y : Int64) (v_o_startX : Int64) (v_o_startY : Int64) (c_o_changes : (Nat → Int32)) : Option (Int64 × Int64 × Int64 × Int64 × (Nat → Int32)) :=
  kb3 (xCover_addEdge N v_o_startX v_o_startY v_o_top v_o_x v_o_y c_o_changes) fun v_o_x_173 v_o_y_173 c_o_changes_173 =>
  some (v_o_x_173, v_o_y_173, v_o_startX, v_o_startY, c_o_changes_173)
def xCover_addDrawing_B2 (N : Nat) (k2 : Int32 → Int64 → Int64 → Int64 → Int64 → Int64 → (Nat → Int32) → Int32 → (Nat → Int32) → (Nat → Int32) → Option (Int64 × Int64 × Int64 × Int64 × (Nat → Int32))) (x2 : Int32) (v_o_top : Int64) (v_o_x : Int64) (v_o_y : Int64) (v_o_startX : Int64) (v_o_startY : Int64) (c_o_changes : (Nat → Int32)) (v_p1_count : Int32) (c_p1_kinds : (Nat → Int32)) (c_p1_numbers : (Nat → Int32)) : Option (Int64 × Int64 × Int64 × Int64 × (Nat → Int32)) :=
  if (150 : Int32) ≤ x2 then
    xCover_addDrawing_b164 N v_o_top v_o_x v_o_y v_o_startX v_o_startY c_o_changes
  else
    if v_p1_count ≤ x2 then
        xCover_addDrawing_b164 N v_o_top v_o_x v_o_y v_o_startX v_o_startY c_o_changes
      else
        kg (ki x2 150) (
          if (c_p1_kinds (x2).toNatClampNeg) = (0 : Int32) then
            kb3 (xCover_addEdge N v_o_startX v_o_startY v_o_top v_o_x v_o_y c_o_changes) fun v_o_x_65 v_o_y_65 c_o_changes_65 =>
              kg (ki (x2 * (6 : Int32)) 900) (
              kg (ki ((x2 * (6 : Int32)) + (1 : Int32)) 900) (
              k2 (x2 + (1 : Int32)) v_o_top (Int32.toInt64 (c_p1_numbers ((x2 * (6 : Int32))).toNatClampNeg)) (Int32.toInt64 (c_p1_numbers (((x2 * (6 : Int32)) + (1 : Int32))).toNatClampNeg)) (Int32.toInt64 (c_p1_numbers ((x2 * (6 : Int32))).toNatClampNeg)) (Int32.toInt64 (c_p1_numbers (((x2 * (6 : Int32)) + (1 : Int32))).toNatClampNeg)) c_o_changes_65 v_p1_count c_p1_kinds c_p1_numbers))
          else if (c_p1_kinds (x2).toNatClampNeg) = (1 : Int32) then
            kg (ki (x2 * (6 : Int32)) 900) (
              kg (ki ((x2 * (6 : Int32)) + (1 : Int32)) 900) (
              kb3 (xCover_addEdge N (Int32.toInt64 (c_p1_numbers ((x2 * (6 : Int32))).toNatClampNeg)) (Int32.toInt64 (c_p1_numbers (((x2 * (6 : Int32)) + (1 : Int32))).toNatClampNeg)) v_o_top v_o_x v_o_y c_o_changes) fun v_o_x_128 v_o_y_128 c_o_changes_128 =>
              k2 (x2 + (1 : Int32)) v_o_top v_o_x_128 v_o_y_128 v_o_startX v_o_startY c_o_changes_128 v_p1_count c_p1_kinds c_p1_numbers))
          else if (c_p1_kinds (x2).toNatClampNeg) = (2 : Int32) then
            kb3 (xCover_addCubicI N (x2 * (6 : Int32)) v_o_top v_o_x v_o_y c_o_changes c_p1_numbers) fun v_o_x_140 v_o_y_140 c_o_changes_140 =>
              k2 (x2 + (1 : Int32)) v_o_top v_o_x_140 v_o_y_140 v_o_startX v_o_startY c_o_changes_140 v_p1_count c_p1_kinds c_p1_numbers
          else 
            kb3 (xCover_addEdge N v_o_startX v_o_startY v_o_top v_o_x v_o_y c_o_changes) fun v_o_x_155 v_o_y_155 c_o_changes_155 =>
              k2 (x2 + (1 : Int32)) v_o_top v_o_x_155 v_o_y_155 v_o_startX v_o_startY c_o_changes_155 v_p1_count c_p1_kinds c_p1_numbers)
def xCover_addDrawing_L2 (N : Nat) : Nat → Int32 → Int64 → Int64 → Int64 → Int64 → Int64 → (Nat → Int32) → Int32 → (Nat → Int32) → (Nat → Int32) → Option (Int64 × Int64 × Int64 × Int64 × (Nat → Int32))
  | 0 => fun _ _ _ _ _ _ _ _ _ _ => none
  | n + 1 => fun x2 v_o_top v_o_x v_o_y v_o_startX v_o_startY c_o_changes v_p1_count c_p1_kinds c_p1_numbers => xCover_addDrawing_B2 N (xCover_addDrawing_L2 N n) x2 v_o_top v_o_x v_o_y v_o_startX v_o_startY c_o_changes v_p1_count c_p1_kinds c_p1_numbers
def xCover_addDrawing (N : Nat) (v_o_top : Int64) (v_o_x : Int64) (v_o_y : Int64) (v_o_startX : Int64) (v_o_startY : Int64) (c_o_changes : (Nat → Int32)) (v_p1_count : Int32) (c_p1_kinds : (Nat → Int32)) (c_p1_numbers : (Nat → Int32)) : Option (Int64 × Int64 × Int64 × Int64 × (Nat → Int32)) :=
  xCover_addDrawing_L2 N N (0 : Int32) v_o_top v_o_x v_o_y v_o_startX v_o_startY c_o_changes v_p1_count c_p1_kinds c_p1_numbers
def xP_read (N : Nat) (v_o_reader_wrong : Int32) (v_o_reader_pen_startX : Int64) (v_o_reader_pen_startY : Int64) (v_o_reader_pen_controlX : Int64) (v_o_reader_pen_controlY : Int64) (c_o_reader_pen_matrices_rows : (Nat → Int64)) (v_o_text_length : Int32) (c_o_text_characters : (Nat → Int32)) (c_o_reader_numbers : (Nat → Int64)) (c_o_reader_pen_points : (Nat → Int64)) (c_o_reader_pen_drawn : (Nat → Int64)) (c_o_spare_numbers : (Nat → Int32)) (c_o_spare_kinds : (Nat → Int32)) (v_o_drawing_count : Int32) (c_o_drawing_kinds : (Nat → Int32)) (c_o_drawing_numbers : (Nat → Int32)) : Option (Int32 × Int32 × Int32 × Int32 × Int64 × Int64 × Int64 × Int64 × Int64 × Int64 × Int32 × Int32 × (Nat → Int64) × Int32 × (Nat → Int64) × (Nat → Int64) × (Nat → Int64) × Int32 × (Nat → Int32) × (Nat → Int32) × Int32 × (Nat → Int32) × (Nat → Int32)) :=
  kb19 (xReader_placeOfWrong N v_o_reader_wrong v_o_reader_pen_startX v_o_reader_pen_startY v_o_reader_pen_controlX v_o_reader_pen_controlY c_o_reader_pen_matrices_rows v_o_text_length c_o_text_characters c_o_reader_numbers c_o_reader_pen_points c_o_reader_pen_drawn c_o_spare_numbers c_o_spare_kinds) fun r8 v_o_reader_at_8 v_o_reader_wrong_8 v_o_reader_moveIsDue_8 v_o_reader_pen_x_8 v_o_reader_pen_y_8 v_o_reader_pen_startX_8 v_o_reader_pen_startY_8 v_o_reader_pen_controlX_8 v_o_reader_pen_controlY_8 v_o_reader_pen_controlFor_8 v_o_reader_pen_matrices_depth_8 c_o_reader_pen_matrices_rows_8 c_o_reader_numbers_8 c_o_reader_pen_points_8 c_o_reader_pen_drawn_8 v_o_spare_count_8 c_o_spare_numbers_8 c_o_spare_kinds_8 =>
  if r8 = (-1 : Int32) then
    some (v_o_spare_count_8, v_o_reader_at_8, v_o_reader_wrong_8, v_o_reader_moveIsDue_8, v_o_reader_pen_x_8, v_o_reader_pen_y_8, v_o_reader_pen_startX_8, v_o_reader_pen_startY_8, v_o_reader_pen_controlX_8, v_o_reader_pen_controlY_8, v_o_reader_pen_controlFor_8, v_o_reader_pen_matrices_depth_8, c_o_reader_pen_matrices_rows_8, (0 : Int32), c_o_reader_numbers_8, c_o_reader_pen_points_8, c_o_reader_pen_drawn_8, v_o_drawing_count, c_o_drawing_numbers, c_o_drawing_kinds, v_o_spare_count_8, c_o_spare_kinds_8, c_o_spare_numbers_8)
  else
    some (((-1 : Int32) - r8), v_o_reader_at_8, v_o_reader_wrong_8, v_o_reader_moveIsDue_8, v_o_reader_pen_x_8, v_o_reader_pen_y_8, v_o_reader_pen_startX_8, v_o_reader_pen_startY_8, v_o_reader_pen_controlX_8, v_o_reader_pen_controlY_8, v_o_reader_pen_controlFor_8, v_o_reader_pen_matrices_depth_8, c_o_reader_pen_matrices_rows_8, (0 : Int32), c_o_reader_numbers_8, c_o_reader_pen_points_8, c_o_reader_pen_drawn_8, v_o_spare_count_8, c_o_spare_numbers_8, c_o_spare_kinds_8, v_o_drawing_count, c_o_drawing_kinds, c_o_drawing_numbers)
def xP_write (N : Nat) (v_o_drawing_count : Int32) (c_o_drawing_kinds : (Nat → Int32)) (c_o_drawing_numbers : (Nat → Int32)) (c_o_written_characters : (Nat → Int32)) : Option (Int32 × Int32 × (Nat → Int32)) :=
  kb2 (xWriter_writeDrawing N 8250 v_o_drawing_count c_o_drawing_kinds c_o_drawing_numbers c_o_written_characters) fun v_o_written_length_8 c_o_written_characters_8 =>
  some (v_o_written_length_8, v_o_written_length_8, c_o_written_characters_8)
def xCover_coverSquares_B24 (N : Nat) (k24 : Int32 → Int32 → Int32 → Int32 → Int32 → Int64 → Int64 → Int64 → Int64 → Int64 → (Nat → Int32) → (Nat → Int32) → Int32 → (Nat → Int32) → (Nat → Int32) → Option (Int32 × Int32 × Int32 × Int64 × Int64 × Int64 × Int64 × Int64 × (Nat → Int32) × (Nat → Int32))) (x4 : Int32) (x5 : Int32) (x6 : Int32) (v_o_width : Int32) (v_o_height : Int32) (v_o_top : Int64) (v_o_x : Int64) (v_o_y : Int64) (v_o_startX : Int64) (v_o_startY : Int64) (c_o_squares : (Nat → Int32)) (c_o_changes : (Nat → Int32)) (v_p1_count : Int32) (c_p1_kinds : (Nat → Int32)) (c_p1_numbers : (Nat → Int32)) : Option (Int32 × Int32 × Int32 × Int64 × Int64 × Int64 × Int64 × Int64 × (Nat → Int32) × (Nat → Int32)) :=
  if v_o_height ≤ x6 then
    some (x5, v_o_width, v_o_height, v_o_top, v_o_x, v_o_y, v_o_startX, v_o_startY, c_o_squares, c_o_changes)
  else
    if (8 : Int32) ≤ x6 then
        some (x5, v_o_width, v_o_height, v_o_top, v_o_x, v_o_y, v_o_startX, v_o_startY, c_o_squares, c_o_changes)
      else
        kb1 (jArrays_fillI N 2048 (0 : Int32) c_o_changes) fun c_o_changes_45 =>
          kb5 (xCover_addDrawing N ((Int32.toInt64 x6) * (256 : Int64)) v_o_x v_o_y v_o_startX v_o_startY c_o_changes_45 v_p1_count c_p1_kinds c_p1_numbers) fun v_o_x_61 v_o_y_61 v_o_startX_61 v_o_startY_61 c_o_changes_61 =>
          kb2 (xCover_countPoints N x6 x4 v_o_width c_o_changes_61 c_o_squares) fun r71 c_o_squares_71 =>
          k24 x4 (x5 + r71) (x6 + (1 : Int32)) v_o_width v_o_height ((Int32.toInt64 x6) * (256 : Int64)) v_o_x_61 v_o_y_61 v_o_startX_61 v_o_startY_61 c_o_squares_71 c_o_changes_61 v_p1_count c_p1_kinds c_p1_numbers
def xCover_coverSquares_L24 (N : Nat) : Nat → Int32 → Int32 → Int32 → Int32 → Int32 → Int64 → Int64 → Int64 → Int64 → Int64 → (Nat → Int32) → (Nat → Int32) → Int32 → (Nat → Int32) → (Nat → Int32) → Option (Int32 × Int32 × Int32 × Int64 × Int64 × Int64 × Int64 × Int64 × (Nat → Int32) × (Nat → Int32))
  | 0 => fun _ _ _ _ _ _ _ _ _ _ _ _ _ _ _ => none
  | n + 1 => fun x4 x5 x6 v_o_width v_o_height v_o_top v_o_x v_o_y v_o_startX v_o_startY c_o_squares c_o_changes v_p1_count c_p1_kinds c_p1_numbers => xCover_coverSquares_B24 N (xCover_coverSquares_L24 N n) x4 x5 x6 v_o_width v_o_height v_o_top v_o_x v_o_y v_o_startX v_o_startY c_o_squares c_o_changes v_p1_count c_p1_kinds c_p1_numbers
def xCover_coverSquares (N : Nat) (x2 : Int32) (x3 : Int32) (x4 : Int32) (v_o_top : Int64) (v_o_x : Int64) (v_o_y : Int64) (v_o_startX : Int64) (v_o_startY : Int64) (c_o_squares : (Nat → Int32)) (c_o_changes : (Nat → Int32)) (v_p1_count : Int32) (c_p1_kinds : (Nat → Int32)) (c_p1_numbers : (Nat → Int32)) : Option (Int32 × Int32 × Int32 × Int64 × Int64 × Int64 × Int64 × Int64 × (Nat → Int32) × (Nat → Int32)) :=
  kb1 (jArrays_fillI N 64 (0 : Int32) c_o_squares) fun c_o_squares_15 =>
  xCover_coverSquares_L24 N N x4 (0 : Int32) (0 : Int32) x2 x3 v_o_top v_o_x v_o_y v_o_startX v_o_startY c_o_squares_15 c_o_changes v_p1_count c_p1_kinds c_p1_numbers
def xP_render_b22 (N : Nat) (v_o_cover_width : Int32) (v_o_cover_height : Int32) (v_o_cover_top : Int64) (v_o_cover_x : Int64) (v_o_cover_y : Int64) (v_o_cover_startX : Int64) (v_o_cover_startY : Int64) (c_o_cover_squares : (Nat → Int32)) (c_o_cover_changes : (Nat → Int32)) : Option (Nat × Int32 × Int32 × Int32 × Int64 × Int64 × Int64 × Int64 × Int64 × (Nat → Int32) × (Nat → Int32)) :=
  some (1, 0, v_o_cover_width, v_o_cover_height, v_o_cover_top, v_o_cover_x, v_o_cover_y, v_o_cover_startX, v_o_cover_startY, c_o_cover_squares, c_o_cover_changes)
def xP_render_b51 (N : Nat) (x1 : Int32) (x2 : Int32) (x3 : Int32) (v_o_cover_top : Int64) (v_o_cover_x : Int64) (v_o_cover_y : Int64) (v_o_cover_startX : Int64) (v_o_cover_startY : Int64) (c_o_cover_squares : (Nat → Int32)) (c_o_cover_changes : (Nat → Int32)) (v_o_drawing_count : Int32) (c_o_drawing_kinds : (Nat → Int32)) (c_o_drawing_numbers : (Nat → Int32)) : Option (Nat × Int32 × Int32 × Int32 × Int64 × Int64 × Int64 × Int64 × Int64 × (Nat → Int32) × (Nat → Int32)) :=
  kb10 (xCover_coverSquares N x1 x2 x3 v_o_cover_top v_o_cover_x v_o_cover_y v_o_cover_startX v_o_cover_startY c_o_cover_squares c_o_cover_changes v_o_drawing_count c_o_drawing_kinds c_o_drawing_numbers) fun r62 v_o_cover_width_62 v_o_cover_height_62 v_o_cover_top_62 v_o_cover_x_62 v_o_cover_y_62 v_o_cover_startX_62 v_o_cover_startY_62 c_o_cover_squares_62 c_o_cover_changes_62 =>
  some (0, r62, v_o_cover_width_62, v_o_cover_height_62, v_o_cover_top_62, v_o_cover_x_62, v_o_cover_y_62, v_o_cover_startX_62, v_o_cover_startY_62, c_o_cover_squares_62, c_o_cover_changes_62)
def xP_render (N : Nat) (x1 : Int32) (x2 : Int32) (x3 : Int32) (v_o_cover_width : Int32) (v_o_cover_height : Int32) (v_o_cover_top : Int64) (v_o_cover_x : Int64) (v_o_cover_y : Int64) (v_o_cover_startX : Int64) (v_o_cover_startY : Int64) (c_o_cover_squares : (Nat → Int32)) (c_o_cover_changes : (Nat → Int32)) (v_o_drawing_count : Int32) (c_o_drawing_kinds : (Nat → Int32)) (c_o_drawing_numbers : (Nat → Int32)) : Option (Nat × Int32 × Int32 × Int32 × Int64 × Int64 × Int64 × Int64 × Int64 × (Nat → Int32) × (Nat → Int32)) :=
  if x1 < (1 : Int32) then
    xP_render_b22 N v_o_cover_width v_o_cover_height v_o_cover_top v_o_cover_x v_o_cover_y v_o_cover_startX v_o_cover_startY c_o_cover_squares c_o_cover_changes
  else
    if (8 : Int32) < x1 then
        xP_render_b22 N v_o_cover_width v_o_cover_height v_o_cover_top v_o_cover_x v_o_cover_y v_o_cover_startX v_o_cover_startY c_o_cover_squares c_o_cover_changes
      else
        if x2 < (1 : Int32) then
            xP_render_b22 N v_o_cover_width v_o_cover_height v_o_cover_top v_o_cover_x v_o_cover_y v_o_cover_startX v_o_cover_startY c_o_cover_squares c_o_cover_changes
          else
            if x2 ≤ (8 : Int32) then
                if x3 = (0 : Int32) then
                    xP_render_b51 N x1 x2 x3 v_o_cover_top v_o_cover_x v_o_cover_y v_o_cover_startX v_o_cover_startY c_o_cover_squares c_o_cover_changes v_o_drawing_count c_o_drawing_kinds c_o_drawing_numbers
                  else
                    if x3 = (1 : Int32) then
                        xP_render_b51 N x1 x2 x3 v_o_cover_top v_o_cover_x v_o_cover_y v_o_cover_startX v_o_cover_startY c_o_cover_squares c_o_cover_changes v_o_drawing_count c_o_drawing_kinds c_o_drawing_numbers
                      else
                        some (1, 0, v_o_cover_width, v_o_cover_height, v_o_cover_top, v_o_cover_x, v_o_cover_y, v_o_cover_startX, v_o_cover_startY, c_o_cover_squares, c_o_cover_changes)
              else
                xP_render_b22 N v_o_cover_width v_o_cover_height v_o_cover_top v_o_cover_x v_o_cover_y v_o_cover_startX v_o_cover_startY c_o_cover_squares c_o_cover_changes
