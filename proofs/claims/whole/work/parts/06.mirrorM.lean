def mM_within_b15  (y0 : Int32) : Option Int32 :=
  mb_ret0 y0
def mM_within_b14   : Option Int32 :=
  mM_within_b15  (0 : Int32)
def mM_within (x0 : Int32) (x1 : Int32) (x2 : Int32) : Option Int32 :=
  if x0 < x1 then
    mM_within_b14
  else
    if x2 < x0 then
      mM_within_b14
    else
      mM_within_b15  (1 : Int32)
def mM_before_b89  (x4 : Int32) (s : mb_S) : Option (Int32 × mb_S) :=
  some (x4, s)
def mM_before_b83 (k6 : Int32 → Int32 → Int32 → Int32 → Int32 → mb_S → Option (Int32 × mb_S)) (x1 : Int32) (x2 : Int32) (x3 : Int32) (x4 : Int32) (x5 : Int32) (s : mb_S) : Option (Int32 × mb_S) :=
  mb_bnd (x5 + (1 : Int32)) fun v1 =>
  k6 x1 x2 x3 x4 v1 s
def mM_before_b74 (k6 : Int32 → Int32 → Int32 → Int32 → Int32 → mb_S → Option (Int32 × mb_S)) (k22 : Int32 → Int32 → Int32 → Int32 → Int32 → Int32 → mb_S → Option (Int32 × mb_S)) (x1 : Int32) (x2 : Int32) (x3 : Int32) (x5 : Int32) (x6 : Int32) (y0 : Int32) (y1 : Int32) (s : mb_S) : Option (Int32 × mb_S) :=
  mb_bnd (y1 + y0) fun v2 =>
  mb_bnd (x6 + (1 : Int32)) fun v3 =>
  k22 x1 x2 x3 v2 x5 v3 s
def mM_before_b69 (k6 : Int32 → Int32 → Int32 → Int32 → Int32 → mb_S → Option (Int32 × mb_S)) (k22 : Int32 → Int32 → Int32 → Int32 → Int32 → Int32 → mb_S → Option (Int32 × mb_S)) (x1 : Int32) (x2 : Int32) (x3 : Int32) (x5 : Int32) (x6 : Int32) (y0 : Int32) (s : mb_S) : Option (Int32 × mb_S) :=
  mM_before_b74 k6 k22 x1 x2 x3 x5 x6 (1 : Int32) y0 s
def mM_before_b46 (k6 : Int32 → Int32 → Int32 → Int32 → Int32 → mb_S → Option (Int32 × mb_S)) (k22 : Int32 → Int32 → Int32 → Int32 → Int32 → Int32 → mb_S → Option (Int32 × mb_S)) (x1 : Int32) (x2 : Int32) (x3 : Int32) (x4 : Int32) (x5 : Int32) (x6 : Int32) (s : mb_S) : Option (Int32 × mb_S) :=
  if x1 < (0 : Int32) then
    mM_before_b69 k6 k22 x1 x2 x3 x5 x6 x4 s
  else
    mb_ld (mb_I s 1) 72 (((12 : Int32) * x5) + x6) fun v4 =>
    if v4 = x1 then
      mM_before_b69 k6 k22 x1 x2 x3 x5 x6 x4 s
    else
      mM_before_b74 k6 k22 x1 x2 x3 x5 x6 (0 : Int32) x4 s
def mM_before_l22 (k6 : Int32 → Int32 → Int32 → Int32 → Int32 → mb_S → Option (Int32 × mb_S)) : Nat → Int32 → Int32 → Int32 → Int32 → Int32 → Int32 → mb_S → Option (Int32 × mb_S)
  | 0 => fun _ _ _ _ _ _ _ => none
  | n + 1 => fun x1 x2 x3 x4 x5 x6 s =>
    mb_ld (mb_I s 0) 6 x5 fun v5 =>
    if v5 ≤ x6 then
      mM_before_b83 k6 x1 x2 x3 x4 x5 s
    else
      if x5 < x2 then
        mM_before_b46 k6 (mM_before_l22 k6 n) x1 x2 x3 x4 x5 x6 s
      else
        if x3 ≤ x6 then
          mM_before_b83 k6 x1 x2 x3 x4 x5 s
        else
          mM_before_b46 k6 (mM_before_l22 k6 n) x1 x2 x3 x4 x5 x6 s
theorem mM_before_l22_s (k6 : Int32 → Int32 → Int32 → Int32 → Int32 → mb_S → Option (Int32 × mb_S)) (n : Nat) (x1 : Int32) (x2 : Int32) (x3 : Int32) (x4 : Int32) (x5 : Int32) (x6 : Int32) (s : mb_S) : mM_before_l22 k6 (n + 1) x1 x2 x3 x4 x5 x6 s =
    mb_ld (mb_I s 0) 6 x5 fun v5 =>
    if v5 ≤ x6 then
      mM_before_b83 k6 x1 x2 x3 x4 x5 s
    else
      if x5 < x2 then
        mM_before_b46 k6 (mM_before_l22 k6 n) x1 x2 x3 x4 x5 x6 s
      else
        if x3 ≤ x6 then
          mM_before_b83 k6 x1 x2 x3 x4 x5 s
        else
          mM_before_b46 k6 (mM_before_l22 k6 n) x1 x2 x3 x4 x5 x6 s
  := rfl
def mM_before_l6  : Nat → Int32 → Int32 → Int32 → Int32 → Int32 → mb_S → Option (Int32 × mb_S)
  | 0 => fun _ _ _ _ _ _ => none
  | n + 1 => fun x1 x2 x3 x4 x5 s =>
    if x2 < x5 then
      mM_before_b89  x4 s
    else
      if (6 : Int32) ≤ x5 then
        mM_before_b89  x4 s
      else
        mM_before_l22 (mM_before_l6  n) mb_fuel x1 x2 x3 x4 x5 (0 : Int32) s
theorem mM_before_l6_s  (n : Nat) (x1 : Int32) (x2 : Int32) (x3 : Int32) (x4 : Int32) (x5 : Int32) (s : mb_S) : mM_before_l6  (n + 1) x1 x2 x3 x4 x5 s =
    if x2 < x5 then
      mM_before_b89  x4 s
    else
      if (6 : Int32) ≤ x5 then
        mM_before_b89  x4 s
      else
        mM_before_l22 (mM_before_l6  n) mb_fuel x1 x2 x3 x4 x5 (0 : Int32) s
  := rfl
def mM_before (x1 : Int32) (x2 : Int32) (x3 : Int32) (s : mb_S) : Option (Int32 × mb_S) :=
  mM_before_l6  mb_fuel x1 x2 x3 (0 : Int32) (0 : Int32) s
def mM_operands_b109  (x4 : Int32) : Option Int32 :=
  mb_ret0 x4
def mM_operands_b107  (y0 : Int32) : Option Int32 :=
  mM_operands_b109  y0
def mM_operands_b106   : Option Int32 :=
  mM_operands_b107  (0 : Int32)
def mM_operands_b96  (y0 : Int32) (y1 : Int32) (y2 : Int32) : Option Int32 :=
  mb_cal0 (mM_within y2 y1 y0) fun v1 =>
  if v1 = (0 : Int32) then
    mM_operands_b106
  else
    mM_operands_b107  (1 : Int32)
def mM_operands_b66  (x0 : Int32) (x3 : Int32) (x4 : Int32) : Option Int32 :=
  if x0 < (5 : Int32) then
    mM_operands_b109  x4
  else
    if (7 : Int32) < x0 then
      mM_operands_b109  x4
    else
      if x4 = (0 : Int32) then
        mM_operands_b106
      else
        if x0 = (7 : Int32) then
          mM_operands_b96  (11 : Int32) (0 : Int32) x3
        else
          mM_operands_b96  (1 : Int32) (0 : Int32) x3
def mM_operands_b64  (x0 : Int32) (x3 : Int32) (y0 : Int32) : Option Int32 :=
  mM_operands_b66  x0 x3 y0
def mM_operands_b63  (x0 : Int32) (x3 : Int32) : Option Int32 :=
  mM_operands_b64  x0 x3 (0 : Int32)
def mM_operands_b45  (x0 : Int32) (x2 : Int32) (x3 : Int32) (x4 : Int32) : Option Int32 :=
  if x4 = (0 : Int32) then
    mM_operands_b63  x0 x3
  else
    mb_cal0 (mM_within x2 (0 : Int32) (3 : Int32)) fun v2 =>
    if v2 = (0 : Int32) then
      mM_operands_b63  x0 x3
    else
      mM_operands_b64  x0 x3 (1 : Int32)
def mM_operands_b28  (x0 : Int32) (x2 : Int32) (x3 : Int32) (y0 : Int32) : Option Int32 :=
  if x0 = (0 : Int32) then
    mM_operands_b45  x0 x2 x3 y0
  else
    if x0 < (4 : Int32) then
      mM_operands_b66  x0 x3 y0
    else
      if (7 : Int32) < x0 then
        mM_operands_b66  x0 x3 y0
      else
        mM_operands_b45  x0 x2 x3 y0
def mM_operands_b12  (x0 : Int32) (x1 : Int32) (x2 : Int32) (x3 : Int32) : Option Int32 :=
  mb_cal0 (mM_within x1 (0 : Int32) (11 : Int32)) fun v3 =>
  mM_operands_b28  x0 x2 x3 v3
def mM_operands (x0 : Int32) (x1 : Int32) (x2 : Int32) (x3 : Int32) : Option Int32 :=
  if x0 = (8 : Int32) then
    mM_operands_b12  x0 x1 x2 x3
  else
    if x0 = (9 : Int32) then
      mM_operands_b12  x0 x1 x2 x3
    else
      mb_cal0 (mM_within x1 (0 : Int32) (3 : Int32)) fun v4 =>
      mM_operands_b28  x0 x2 x3 v4
def mM_change  (s : mb_S) : Option (Unit × mb_S) :=
  mb_putF s 0 (0 : Int32) fun s1 =>
  mb_putF s1 2 (0 : Int32) fun s2 =>
  some ((), s2)
def mM_add_b92   (s : mb_S) : Option (Int32 × mb_S) :=
  some ((-1 : Int32), s)
def mM_add_b53  (x1 : Int32) (x2 : Int32) (x3 : Int32) (x4 : Int32) (x5 : Int32) (y0 : Int32) (s : mb_S) : Option (Int32 × mb_S) :=
  mb_ld (mb_I s 0) 6 x1 fun v1 =>
  if v1 = (12 : Int32) then
    mM_add_b92  s
  else
    mb_cal (mM_before (-1 : Int32) (6 : Int32) (0 : Int32) s) fun v2 s3 =>
    if v2 = (32 : Int32) then
      mM_add_b92  s3
    else
      mb_cal (mM_before x2 (6 : Int32) (0 : Int32) s3) fun v4 s5 =>
      if v4 = y0 then
        mM_add_b92  s5
      else
        mb_ld (mb_I s5 0) 6 x1 fun v6 =>
        mb_bnd (((12 : Int32) * x1) + v6) fun v7 =>
        mb_stI s5 1 72 v7 x2 fun s8 =>
        mb_stI s8 2 72 v7 x3 fun s9 =>
        mb_stI s9 3 72 v7 x4 fun s10 =>
        mb_stI s10 4 72 v7 x5 fun s11 =>
        mb_ld (mb_I s11 0) 6 x1 fun v12 =>
        mb_stI s11 0 6 x1 (v12 + (1 : Int32)) fun s13 =>
        mb_cal (mM_change  s13) fun _u s14 =>
        mb_ld (mb_I s14 0) 6 x1 fun v15 =>
        some (v15 - (1 : Int32), s14)
def mM_add_b31   (s : mb_S) : Option (Int32 × mb_S) :=
  some ((-1 : Int32), s)
def mM_add (x1 : Int32) (x2 : Int32) (x3 : Int32) (x4 : Int32) (x5 : Int32) (s : mb_S) : Option (Int32 × mb_S) :=
  mb_cal0 (mM_within x1 (0 : Int32) (5 : Int32)) fun v16 =>
  if v16 = (0 : Int32) then
    mM_add_b31  s
  else
    mb_cal0 (mM_within x2 (0 : Int32) (10 : Int32)) fun v17 =>
    if v17 = (0 : Int32) then
      mM_add_b31  s
    else
      mb_cal0 (mM_operands x2 x3 x4 x5) fun v18 =>
      if v18 = (0 : Int32) then
        mM_add_b31  s
      else
        if x2 = (0 : Int32) then
          mM_add_b53  x1 x2 x3 x4 x5 (6 : Int32) s
        else
          if (2 : Int32) < x2 then
            mM_add_b53  x1 x2 x3 x4 x5 (32 : Int32) s
          else
            mM_add_b53  x1 x2 x3 x4 x5 (4 : Int32) s
def mM_drop_b18   (s : mb_S) : Option (Int32 × mb_S) :=
  mb_retZ (0 : Int32) s
def mM_drop (x1 : Int32) (s : mb_S) : Option (Int32 × mb_S) :=
  mb_cal0 (mM_within x1 (0 : Int32) (5 : Int32)) fun v1 =>
  if v1 = (0 : Int32) then
    mM_drop_b18  s
  else
    mb_ld (mb_I s 0) 6 x1 fun v2 =>
    if v2 = (0 : Int32) then
      mM_drop_b18  s
    else
      mb_ld (mb_I s 0) 6 x1 fun v3 =>
      mb_stI s 0 6 x1 (v3 - (1 : Int32)) fun s4 =>
      mb_cal (mM_change  s4) fun _u s5 =>
      mb_retZ (1 : Int32) s5
def mM_derive_b20   (s : mb_S) : Option (Int32 × mb_S) :=
  mb_retZ (0 : Int32) s
def mM_derive (x1 : Int32) (x2 : Int32) (s : mb_S) : Option (Int32 × mb_S) :=
  mb_cal0 (mM_within x1 (0 : Int32) (3 : Int32)) fun v1 =>
  if v1 = (0 : Int32) then
    mM_derive_b20  s
  else
    mb_cal0 (mM_within x2 (-1 : Int32) (x1 - (1 : Int32))) fun v2 =>
    if v2 = (0 : Int32) then
      mM_derive_b20  s
    else
      mb_stI s 5 4 x1 x2 fun s3 =>
      mb_cal (mM_change  s3) fun _u s4 =>
      mb_retZ (1 : Int32) s4
def mM_bind_b27   (s : mb_S) : Option (Int32 × mb_S) :=
  mb_retZ (0 : Int32) s
def mM_bind (x1 : Int32) (x2 : Int32) (x3 : Int32) (s : mb_S) : Option (Int32 × mb_S) :=
  mb_cal0 (mM_within x1 (0 : Int32) (3 : Int32)) fun v1 =>
  if v1 = (0 : Int32) then
    mM_bind_b27  s
  else
    mb_cal0 (mM_within x2 (0 : Int32) (2 : Int32)) fun v2 =>
    if v2 = (0 : Int32) then
      mM_bind_b27  s
    else
      mb_cal0 (mM_within x3 (-1 : Int32) (5 : Int32)) fun v3 =>
      if v3 = (0 : Int32) then
        mM_bind_b27  s
      else
        mb_stI s 6 12 (((3 : Int32) * x1) + x2) x3 fun s4 =>
        mb_cal (mM_change  s4) fun _u s5 =>
        mb_retZ (1 : Int32) s5
def mM_target_b72   (s : mb_S) : Option (Int32 × mb_S) :=
  some ((-1 : Int32), s)
def mM_target_l25  : Nat → Int32 → Int32 → Int32 → mb_S → Option (Int32 × mb_S)
  | 0 => fun _ _ _ _ => none
  | n + 1 => fun x2 x3 x4 s =>
    if (4 : Int32) ≤ x4 then
      mM_target_b72  s
    else
      if x3 < (0 : Int32) then
        mM_target_b72  s
      else
        mb_ld (mb_I s 6) 12 (((3 : Int32) * x3) + x2) fun v1 =>
        if v1 < (0 : Int32) then
          mb_ld (mb_I s 5) 4 x3 fun v2 =>
          mb_bnd (x4 + (1 : Int32)) fun v3 =>
          (mM_target_l25  n) x2 v2 v3 s
        else
          mb_ld (mb_I s 6) 12 (((3 : Int32) * x3) + x2) fun v4 =>
          some (v4, s)
theorem mM_target_l25_s  (n : Nat) (x2 : Int32) (x3 : Int32) (x4 : Int32) (s : mb_S) : mM_target_l25  (n + 1) x2 x3 x4 s =
    if (4 : Int32) ≤ x4 then
      mM_target_b72  s
    else
      if x3 < (0 : Int32) then
        mM_target_b72  s
      else
        mb_ld (mb_I s 6) 12 (((3 : Int32) * x3) + x2) fun v1 =>
        if v1 < (0 : Int32) then
          mb_ld (mb_I s 5) 4 x3 fun v2 =>
          mb_bnd (x4 + (1 : Int32)) fun v3 =>
          (mM_target_l25  n) x2 v2 v3 s
        else
          mb_ld (mb_I s 6) 12 (((3 : Int32) * x3) + x2) fun v4 =>
          some (v4, s)
  := rfl
def mM_target_b18   (s : mb_S) : Option (Int32 × mb_S) :=
  some ((-1 : Int32), s)
def mM_target (x1 : Int32) (x2 : Int32) (s : mb_S) : Option (Int32 × mb_S) :=
  mb_cal0 (mM_within x1 (0 : Int32) (3 : Int32)) fun v5 =>
  if v5 = (0 : Int32) then
    mM_target_b18  s
  else
    mb_cal0 (mM_within x2 (0 : Int32) (2 : Int32)) fun v6 =>
    if v6 = (0 : Int32) then
      mM_target_b18  s
    else
      mM_target_l25  mb_fuel x2 x1 (0 : Int32) s
def mM_size_b19  (y0 : Int32) (s : mb_S) : Option (Int32 × mb_S) :=
  some (y0, s)
def mM_size (x1 : Int32) (s : mb_S) : Option (Int32 × mb_S) :=
  mb_cal0 (mM_within x1 (0 : Int32) (5 : Int32)) fun v1 =>
  if v1 = (0 : Int32) then
    mM_size_b19  (0 : Int32) s
  else
    mb_ld (mb_I s 0) 6 x1 fun v2 =>
    mM_size_b19  v2 s
def mM_classOf_b68 (k2 : Int32 → Int32 → mb_S → Option (Int32 × mb_S)) (x1 : Int32) (x2 : Int32) (s : mb_S) : Option (Int32 × mb_S) :=
  mb_bnd (x2 + (1 : Int32)) fun v1 =>
  k2 x1 v1 s
def mM_classOf_b40 (k2 : Int32 → Int32 → mb_S → Option (Int32 × mb_S)) (x1 : Int32) (x2 : Int32) (x3 : Int32) (y0 : Int32) (s : mb_S) : Option (Int32 × mb_S) :=
  if y0 = (0 : Int32) then
    mM_classOf_b68 k2 x1 x2 s
  else
    mb_cal (mM_before (0 : Int32) x3 (x2 - x2 / (12 : Int32) * (12 : Int32)) s) fun v2 s3 =>
    if v2 = x1 then
      mb_ld (mb_I s3 3) 72 x2 fun v4 =>
      some (v4, s3)
    else
      mM_classOf_b68 k2 x1 x2 s3
def mM_classOf_b39 (k2 : Int32 → Int32 → mb_S → Option (Int32 × mb_S)) (x1 : Int32) (x2 : Int32) (x3 : Int32) (s : mb_S) : Option (Int32 × mb_S) :=
  mM_classOf_b40 k2 x1 x2 x3 (0 : Int32) s
def mM_classOf_l2  : Nat → Int32 → Int32 → mb_S → Option (Int32 × mb_S)
  | 0 => fun _ _ _ => none
  | n + 1 => fun x1 x2 s =>
    if (72 : Int32) ≤ x2 then
      some ((-1 : Int32), s)
    else
      mb_bnd (x2 / (12 : Int32)) fun v5 =>
      mb_ld (mb_I s 0) 6 v5 fun v6 =>
      if v6 ≤ (x2 - x2 / (12 : Int32) * (12 : Int32)) then
        mM_classOf_b39 (mM_classOf_l2  n) x1 x2 v5 s
      else
        mb_ld (mb_I s 1) 72 x2 fun v7 =>
        if v7 = (0 : Int32) then
          mM_classOf_b40 (mM_classOf_l2  n) x1 x2 v5 (1 : Int32) s
        else
          mM_classOf_b39 (mM_classOf_l2  n) x1 x2 v5 s
theorem mM_classOf_l2_s  (n : Nat) (x1 : Int32) (x2 : Int32) (s : mb_S) : mM_classOf_l2  (n + 1) x1 x2 s =
    if (72 : Int32) ≤ x2 then
      some ((-1 : Int32), s)
    else
      mb_bnd (x2 / (12 : Int32)) fun v5 =>
      mb_ld (mb_I s 0) 6 v5 fun v6 =>
      if v6 ≤ (x2 - x2 / (12 : Int32) * (12 : Int32)) then
        mM_classOf_b39 (mM_classOf_l2  n) x1 x2 v5 s
      else
        mb_ld (mb_I s 1) 72 x2 fun v7 =>
        if v7 = (0 : Int32) then
          mM_classOf_b40 (mM_classOf_l2  n) x1 x2 v5 (1 : Int32) s
        else
          mM_classOf_b39 (mM_classOf_l2  n) x1 x2 v5 s
  := rfl
def mM_classOf (x1 : Int32) (s : mb_S) : Option (Int32 × mb_S) :=
  mM_classOf_l2  mb_fuel x1 (0 : Int32) s
def mM_calls_b61  (y0 : Int32) (s : mb_S) : Option (Int32 × mb_S) :=
  mb_retZ y0 s
def mM_calls (x1 : Int32) (x2 : Int32) (x3 : Int32) (s : mb_S) : Option (Int32 × mb_S) :=
  mb_ld (mb_I s 3) 72 x1 fun v1 =>
  mb_ld (mb_I s 7) 24 (((4 : Int32) * (x1 / (12 : Int32))) + v1) fun v2 =>
  if ((v2 >>> (x2 &&& 31)) &&& (1 : Int32)) = (0 : Int32) then
    mb_retZ (0 : Int32) s
  else
    mb_cal (mM_classOf x2 s) fun v3 s4 =>
    mb_ld (mb_I s4 4) 72 x1 fun v5 =>
    mb_cal (mM_target v3 (v5 / (4 : Int32)) s4) fun v6 s7 =>
    if v6 = x3 then
      mM_calls_b61  (1 : Int32) s7
    else
      mM_calls_b61  (0 : Int32) s7
def mM_grow_b48  (y0 : Int32) (s : mb_S) : Option (Unit × mb_S) :=
  mb_putZ s 1 y0 fun s1 =>
  some ((), s1)
def mM_grow_b43   (s : mb_S) : Option (Unit × mb_S) :=
  mM_grow_b48  (1 : Int32) s
def mM_grow (x1 : Int32) (x2 : Int32) (x3 : Int32) (s : mb_S) : Option (Unit × mb_S) :=
  mb_ld (mb_I s 7) 24 (((4 : Int32) * x1) + x2) fun v2 =>
  mb_stI s 7 24 (((4 : Int32) * x1) + x2) (v2 ||| x3) fun s3 =>
  if (mb_F s3 1) = (0 : Int32) then
    if (v2 ||| x3) = v2 then
      mM_grow_b48  (0 : Int32) s3
    else
      mM_grow_b43  s3
  else
    mM_grow_b43  s3
def mM_callPoints_b170 (k2 : Int32 → Int32 → Int32 → mb_S → Option (Unit × mb_S)) (k11 : Int32 → Int32 → Int32 → Int32 → mb_S → Option (Unit × mb_S)) (x1 : Int32) (x2 : Int32) (x3 : Int32) (x4 : Int32) (s : mb_S) : Option (Unit × mb_S) :=
  mb_bnd (x4 + (1 : Int32)) fun v1 =>
  k11 x1 x2 x3 v1 s
def mM_callPoints_b164 (k2 : Int32 → Int32 → Int32 → mb_S → Option (Unit × mb_S)) (k11 : Int32 → Int32 → Int32 → Int32 → mb_S → Option (Unit × mb_S)) (k100 : Int32 → Int32 → Int32 → Int32 → Int32 → mb_S → Option (Unit × mb_S)) (x1 : Int32) (x2 : Int32) (x3 : Int32) (x4 : Int32) (x5 : Int32) (s : mb_S) : Option (Unit × mb_S) :=
  mb_bnd (x5 + (1 : Int32)) fun v2 =>
  k100 x1 x2 x3 x4 v2 s
def mM_callPoints_l100 (k2 : Int32 → Int32 → Int32 → mb_S → Option (Unit × mb_S)) (k11 : Int32 → Int32 → Int32 → Int32 → mb_S → Option (Unit × mb_S)) : Nat → Int32 → Int32 → Int32 → Int32 → Int32 → mb_S → Option (Unit × mb_S)
  | 0 => fun _ _ _ _ _ _ => none
  | n + 1 => fun x1 x2 x3 x4 x5 s =>
    mb_ld (mb_I s 0) 6 x4 fun v3 =>
    if v3 ≤ x5 then
      mM_callPoints_b170 k2 k11 x1 x2 x3 x4 s
    else
      mb_ld (mb_I s 1) 72 (((12 : Int32) * x4) + x5) fun v4 =>
      if v4 = (10 : Int32) then
        mb_ld (mb_I s 2) 72 x2 fun v5 =>
        mb_ld (mb_I s 2) 72 (((12 : Int32) * x4) + x5) fun v6 =>
        mb_ld (mb_I s 7) 24 (((4 : Int32) * x4) + v6) fun v7 =>
        mb_cal (mM_grow x1 v5 v7 s) fun _u s8 =>
        mM_callPoints_b164 k2 k11 (mM_callPoints_l100 k2 k11 n) x1 x2 x3 x4 x5 s8
      else
        mM_callPoints_b164 k2 k11 (mM_callPoints_l100 k2 k11 n) x1 x2 x3 x4 x5 s
theorem mM_callPoints_l100_s (k2 : Int32 → Int32 → Int32 → mb_S → Option (Unit × mb_S)) (k11 : Int32 → Int32 → Int32 → Int32 → mb_S → Option (Unit × mb_S)) (n : Nat) (x1 : Int32) (x2 : Int32) (x3 : Int32) (x4 : Int32) (x5 : Int32) (s : mb_S) : mM_callPoints_l100 k2 k11 (n + 1) x1 x2 x3 x4 x5 s =
    mb_ld (mb_I s 0) 6 x4 fun v3 =>
    if v3 ≤ x5 then
      mM_callPoints_b170 k2 k11 x1 x2 x3 x4 s
    else
      mb_ld (mb_I s 1) 72 (((12 : Int32) * x4) + x5) fun v4 =>
      if v4 = (10 : Int32) then
        mb_ld (mb_I s 2) 72 x2 fun v5 =>
        mb_ld (mb_I s 2) 72 (((12 : Int32) * x4) + x5) fun v6 =>
        mb_ld (mb_I s 7) 24 (((4 : Int32) * x4) + v6) fun v7 =>
        mb_cal (mM_grow x1 v5 v7 s) fun _u s8 =>
        mM_callPoints_b164 k2 k11 (mM_callPoints_l100 k2 k11 n) x1 x2 x3 x4 x5 s8
      else
        mM_callPoints_b164 k2 k11 (mM_callPoints_l100 k2 k11 n) x1 x2 x3 x4 x5 s
  := rfl
def mM_callPoints_b52 (k2 : Int32 → Int32 → Int32 → mb_S → Option (Unit × mb_S)) (k11 : Int32 → Int32 → Int32 → Int32 → mb_S → Option (Unit × mb_S)) (x1 : Int32) (x2 : Int32) (x3 : Int32) (x4 : Int32) (y0 : Int32) (s : mb_S) : Option (Unit × mb_S) :=
  mb_putZ s 1 y0 fun s9 =>
  mb_stZ s9 9 6 x4 (1 : Int32) fun s10 =>
  mb_cal (mM_grow x4 (0 : Int32) ((1 : Int32) <<< (x3 &&& 31)) s10) fun _u s11 =>
  mb_ld (mb_I s11 4) 72 x2 fun v12 =>
  mb_ld (mb_I s11 7) 24 (((4 : Int32) * x1) + (v12 - v12 / (4 : Int32) * (4 : Int32))) fun v13 =>
  mb_cal (mM_grow x4 (1 : Int32) v13 s11) fun _u s14 =>
  mM_callPoints_l100 k2 k11 mb_fuel x1 x2 x3 x4 (0 : Int32) s14
def mM_callPoints_b47 (k2 : Int32 → Int32 → Int32 → mb_S → Option (Unit × mb_S)) (k11 : Int32 → Int32 → Int32 → Int32 → mb_S → Option (Unit × mb_S)) (x1 : Int32) (x2 : Int32) (x3 : Int32) (x4 : Int32) (s : mb_S) : Option (Unit × mb_S) :=
  mM_callPoints_b52 k2 k11 x1 x2 x3 x4 (1 : Int32) s
def mM_callPoints_l11 (k2 : Int32 → Int32 → Int32 → mb_S → Option (Unit × mb_S)) : Nat → Int32 → Int32 → Int32 → Int32 → mb_S → Option (Unit × mb_S)
  | 0 => fun _ _ _ _ _ => none
  | n + 1 => fun x1 x2 x3 x4 s =>
    if (6 : Int32) ≤ x4 then
      mb_bnd (x3 + (1 : Int32)) fun v15 =>
      k2 x1 x2 v15 s
    else
      mb_cal (mM_calls x2 x3 x4 s) fun v16 s17 =>
      if v16 = (0 : Int32) then
        mM_callPoints_b170 k2 (mM_callPoints_l11 k2 n) x1 x2 x3 x4 s17
      else
        if (mb_F s17 1) = (0 : Int32) then
          mb_ld (mb_I s17 9) 6 x4 fun v18 =>
          if v18 = (0 : Int32) then
            mM_callPoints_b47 k2 (mM_callPoints_l11 k2 n) x1 x2 x3 x4 s17
          else
            mM_callPoints_b52 k2 (mM_callPoints_l11 k2 n) x1 x2 x3 x4 (0 : Int32) s17
        else
          mM_callPoints_b47 k2 (mM_callPoints_l11 k2 n) x1 x2 x3 x4 s17
theorem mM_callPoints_l11_s (k2 : Int32 → Int32 → Int32 → mb_S → Option (Unit × mb_S)) (n : Nat) (x1 : Int32) (x2 : Int32) (x3 : Int32) (x4 : Int32) (s : mb_S) : mM_callPoints_l11 k2 (n + 1) x1 x2 x3 x4 s =
    if (6 : Int32) ≤ x4 then
      mb_bnd (x3 + (1 : Int32)) fun v15 =>
      k2 x1 x2 v15 s
    else
      mb_cal (mM_calls x2 x3 x4 s) fun v16 s17 =>
      if v16 = (0 : Int32) then
        mM_callPoints_b170 k2 (mM_callPoints_l11 k2 n) x1 x2 x3 x4 s17
      else
        if (mb_F s17 1) = (0 : Int32) then
          mb_ld (mb_I s17 9) 6 x4 fun v18 =>
          if v18 = (0 : Int32) then
            mM_callPoints_b47 k2 (mM_callPoints_l11 k2 n) x1 x2 x3 x4 s17
          else
            mM_callPoints_b52 k2 (mM_callPoints_l11 k2 n) x1 x2 x3 x4 (0 : Int32) s17
        else
          mM_callPoints_b47 k2 (mM_callPoints_l11 k2 n) x1 x2 x3 x4 s17
  := rfl
def mM_callPoints_l2  : Nat → Int32 → Int32 → Int32 → mb_S → Option (Unit × mb_S)
  | 0 => fun _ _ _ _ => none
  | n + 1 => fun x1 x2 x3 s =>
    if (6 : Int32) ≤ x3 then
      some ((), s)
    else
      mM_callPoints_l11 (mM_callPoints_l2  n) mb_fuel x1 x2 x3 (0 : Int32) s
theorem mM_callPoints_l2_s  (n : Nat) (x1 : Int32) (x2 : Int32) (x3 : Int32) (s : mb_S) : mM_callPoints_l2  (n + 1) x1 x2 x3 s =
    if (6 : Int32) ≤ x3 then
      some ((), s)
    else
      mM_callPoints_l11 (mM_callPoints_l2  n) mb_fuel x1 x2 x3 (0 : Int32) s
  := rfl
def mM_callPoints (x1 : Int32) (x2 : Int32) (s : mb_S) : Option (Unit × mb_S) :=
  mM_callPoints_l2  mb_fuel x1 x2 (0 : Int32) s
def mM_pointsOf_b269   (s : mb_S) : Option (Unit × mb_S) :=
  some ((), s)
def mM_pointsOf_b263 (k118 : Int32 → Int32 → Int32 → Int32 → Int32 → Int32 → mb_S → Option (Unit × mb_S)) (x1 : Int32) (x3 : Int32) (x4 : Int32) (x5 : Int32) (x6 : Int32) (x7 : Int32) (s : mb_S) : Option (Unit × mb_S) :=
  mb_bnd (x7 + (1 : Int32)) fun v1 =>
  k118 x1 x3 x4 x5 x6 v1 s
def mM_pointsOf_b260 (k118 : Int32 → Int32 → Int32 → Int32 → Int32 → Int32 → mb_S → Option (Unit × mb_S)) (x1 : Int32) (x3 : Int32) (x4 : Int32) (x5 : Int32) (x6 : Int32) (x7 : Int32) (y0 : Int32) (s : mb_S) : Option (Unit × mb_S) :=
  mb_putZ s 1 y0 fun s2 =>
  mM_pointsOf_b263 k118 x1 x3 x4 x5 x6 x7 s2
def mM_pointsOf_b255 (k118 : Int32 → Int32 → Int32 → Int32 → Int32 → Int32 → mb_S → Option (Unit × mb_S)) (x1 : Int32) (x3 : Int32) (x4 : Int32) (x5 : Int32) (x6 : Int32) (x7 : Int32) (s : mb_S) : Option (Unit × mb_S) :=
  mM_pointsOf_b260 k118 x1 x3 x4 x5 x6 x7 (1 : Int32) s
def mM_pointsOf_b178 (k118 : Int32 → Int32 → Int32 → Int32 → Int32 → Int32 → mb_S → Option (Unit × mb_S)) (x1 : Int32) (x3 : Int32) (x4 : Int32) (x5 : Int32) (x6 : Int32) (x7 : Int32) (x8 : Int32) (s : mb_S) : Option (Unit × mb_S) :=
  if x4 = (6 : Int32) then
    mb_ld (mb_I s 7) 24 (((4 : Int32) * x1) + x5) fun v3 =>
    if ((v3 >>> (x7 &&& 31)) &&& (1 : Int32)) = (1 : Int32) then
      mb_ld (mb_I s 8) 12 x8 fun v4 =>
      mb_ld (mb_I s 7) 24 (((4 : Int32) * x1) + x6) fun v5 =>
      mb_stI s 8 12 x8 (v4 ||| v5) fun s6 =>
      if (mb_F s6 1) = (0 : Int32) then
        mb_ld (mb_I s6 8) 12 x8 fun v7 =>
        if v7 = v4 then
          mM_pointsOf_b260 k118 x1 x3 x4 x5 x6 x7 (0 : Int32) s6
        else
          mM_pointsOf_b255 k118 x1 x3 x4 x5 x6 x7 s6
      else
        mM_pointsOf_b255 k118 x1 x3 x4 x5 x6 x7 s6
    else
      mM_pointsOf_b263 k118 x1 x3 x4 x5 x6 x7 s
  else
    mM_pointsOf_b263 k118 x1 x3 x4 x5 x6 x7 s
def mM_pointsOf_l118  : Nat → Int32 → Int32 → Int32 → Int32 → Int32 → Int32 → mb_S → Option (Unit × mb_S)
  | 0 => fun _ _ _ _ _ _ _ => none
  | n + 1 => fun x1 x3 x4 x5 x6 x7 s =>
    if (6 : Int32) ≤ x7 then
      mM_pointsOf_b269  s
    else
      mb_ld (mb_I s 4) 72 x3 fun v8 =>
      mb_bnd (((2 : Int32) * x7) + v8) fun v9 =>
      if x4 = (5 : Int32) then
        mb_ld (mb_I s 7) 24 (((4 : Int32) * x1) + x6) fun v10 =>
        if ((v10 >>> (x7 &&& 31)) &&& (1 : Int32)) = (1 : Int32) then
          mb_ld (mb_I s 8) 12 v9 fun v11 =>
          mb_cal (mM_grow x1 x5 v11 s) fun _u s12 =>
          mM_pointsOf_b178 (mM_pointsOf_l118  n) x1 x3 x4 x5 x6 x7 v9 s12
        else
          mM_pointsOf_b178 (mM_pointsOf_l118  n) x1 x3 x4 x5 x6 x7 v9 s
      else
        mM_pointsOf_b178 (mM_pointsOf_l118  n) x1 x3 x4 x5 x6 x7 v9 s
theorem mM_pointsOf_l118_s  (n : Nat) (x1 : Int32) (x3 : Int32) (x4 : Int32) (x5 : Int32) (x6 : Int32) (x7 : Int32) (s : mb_S) : mM_pointsOf_l118  (n + 1) x1 x3 x4 x5 x6 x7 s =
    if (6 : Int32) ≤ x7 then
      mM_pointsOf_b269  s
    else
      mb_ld (mb_I s 4) 72 x3 fun v8 =>
      mb_bnd (((2 : Int32) * x7) + v8) fun v9 =>
      if x4 = (5 : Int32) then
        mb_ld (mb_I s 7) 24 (((4 : Int32) * x1) + x6) fun v10 =>
        if ((v10 >>> (x7 &&& 31)) &&& (1 : Int32)) = (1 : Int32) then
          mb_ld (mb_I s 8) 12 v9 fun v11 =>
          mb_cal (mM_grow x1 x5 v11 s) fun _u s12 =>
          mM_pointsOf_b178 (mM_pointsOf_l118  n) x1 x3 x4 x5 x6 x7 v9 s12
        else
          mM_pointsOf_b178 (mM_pointsOf_l118  n) x1 x3 x4 x5 x6 x7 v9 s
      else
        mM_pointsOf_b178 (mM_pointsOf_l118  n) x1 x3 x4 x5 x6 x7 v9 s
  := rfl
def mM_pointsOf_b115  (x1 : Int32) (x3 : Int32) (x4 : Int32) (x5 : Int32) (x6 : Int32) (s : mb_S) : Option (Unit × mb_S) :=
  mM_pointsOf_l118  mb_fuel x1 x3 x4 x5 x6 (0 : Int32) s
def mM_pointsOf (x1 : Int32) (x2 : Int32) (s : mb_S) : Option (Unit × mb_S) :=
  mb_bnd (((12 : Int32) * x1) + x2) fun v13 =>
  mb_ld (mb_I s 1) 72 v13 fun v14 =>
  mb_ld (mb_I s 2) 72 v13 fun v15 =>
  mb_ld (mb_I s 3) 72 v13 fun v16 =>
  if v14 = (0 : Int32) then
    mb_cal (mM_before (0 : Int32) x1 x2 s) fun v20 s21 =>
    mb_cal (mM_grow x1 v15 ((1 : Int32) <<< (v20 &&& 31)) s21) fun _u s22 =>
    mM_pointsOf_b269  s22
  else
    if v14 = (4 : Int32) then
      mb_ld (mb_I s 7) 24 (((4 : Int32) * x1) + v16) fun v18 =>
      mb_cal (mM_grow x1 v15 v18 s) fun _u s19 =>
      mM_pointsOf_b269  s19
    else
      if v14 = (7 : Int32) then
        mb_cal (mM_callPoints x1 v13 s) fun _u s17 =>
        mM_pointsOf_b269  s17
      else
        if v14 = (5 : Int32) then
          mM_pointsOf_b115  x1 v13 v14 v15 v16 s
        else
          if v14 = (6 : Int32) then
            mM_pointsOf_b115  x1 v13 v14 v15 v16 s
          else
            mM_pointsOf_b269  s
def mM_workPoints_b126   (s : mb_S) : Option (Unit × mb_S) :=
  some ((), s)
def mM_workPoints_b114 (k55 : Int32 → mb_S → Option (Unit × mb_S)) (k75 : Int32 → Int32 → mb_S → Option (Unit × mb_S)) (x1 : Int32) (x2 : Int32) (s : mb_S) : Option (Unit × mb_S) :=
  mb_bnd (x2 + (1 : Int32)) fun v1 =>
  k75 x1 v1 s
def mM_workPoints_l83 (k55 : Int32 → mb_S → Option (Unit × mb_S)) (k75 : Int32 → Int32 → mb_S → Option (Unit × mb_S)) : Nat → Int32 → Int32 → Int32 → mb_S → Option (Unit × mb_S)
  | 0 => fun _ _ _ _ => none
  | n + 1 => fun x1 x2 x3 s =>
    mb_ld (mb_I s 0) 6 x2 fun v2 =>
    if v2 ≤ x3 then
      mM_workPoints_b114 k55 k75 x1 x2 s
    else
      mb_ld (mb_I s 9) 6 x2 fun v3 =>
      if v3 = (0 : Int32) then
        mM_workPoints_b114 k55 k75 x1 x2 s
      else
        mb_cal (mM_pointsOf x2 x3 s) fun _u s4 =>
        mb_bnd (x3 + (1 : Int32)) fun v5 =>
        (mM_workPoints_l83 k55 k75 n) x1 x2 v5 s4
theorem mM_workPoints_l83_s (k55 : Int32 → mb_S → Option (Unit × mb_S)) (k75 : Int32 → Int32 → mb_S → Option (Unit × mb_S)) (n : Nat) (x1 : Int32) (x2 : Int32) (x3 : Int32) (s : mb_S) : mM_workPoints_l83 k55 k75 (n + 1) x1 x2 x3 s =
    mb_ld (mb_I s 0) 6 x2 fun v2 =>
    if v2 ≤ x3 then
      mM_workPoints_b114 k55 k75 x1 x2 s
    else
      mb_ld (mb_I s 9) 6 x2 fun v3 =>
      if v3 = (0 : Int32) then
        mM_workPoints_b114 k55 k75 x1 x2 s
      else
        mb_cal (mM_pointsOf x2 x3 s) fun _u s4 =>
        mb_bnd (x3 + (1 : Int32)) fun v5 =>
        (mM_workPoints_l83 k55 k75 n) x1 x2 v5 s4
  := rfl
def mM_workPoints_l75 (k55 : Int32 → mb_S → Option (Unit × mb_S)) : Nat → Int32 → Int32 → mb_S → Option (Unit × mb_S)
  | 0 => fun _ _ _ => none
  | n + 1 => fun x1 x2 s =>
    if (6 : Int32) ≤ x2 then
      mb_bnd (x1 + (1 : Int32)) fun v6 =>
      k55 v6 s
    else
      mM_workPoints_l83 k55 (mM_workPoints_l75 k55 n) mb_fuel x1 x2 (0 : Int32) s
theorem mM_workPoints_l75_s (k55 : Int32 → mb_S → Option (Unit × mb_S)) (n : Nat) (x1 : Int32) (x2 : Int32) (s : mb_S) : mM_workPoints_l75 k55 (n + 1) x1 x2 s =
    if (6 : Int32) ≤ x2 then
      mb_bnd (x1 + (1 : Int32)) fun v6 =>
      k55 v6 s
    else
      mM_workPoints_l83 k55 (mM_workPoints_l75 k55 n) mb_fuel x1 x2 (0 : Int32) s
  := rfl
def mM_workPoints_l55  : Nat → Int32 → mb_S → Option (Unit × mb_S)
  | 0 => fun _ _ => none
  | n + 1 => fun x1 s =>
    if (100000 : Int32) ≤ x1 then
      mM_workPoints_b126  s
    else
      if (mb_F s 1) = (0 : Int32) then
        mM_workPoints_b126  s
      else
        mb_putZ s 1 (0 : Int32) fun s7 =>
        mM_workPoints_l75 (mM_workPoints_l55  n) mb_fuel x1 (0 : Int32) s7
theorem mM_workPoints_l55_s  (n : Nat) (x1 : Int32) (s : mb_S) : mM_workPoints_l55  (n + 1) x1 s =
    if (100000 : Int32) ≤ x1 then
      mM_workPoints_b126  s
    else
      if (mb_F s 1) = (0 : Int32) then
        mM_workPoints_b126  s
      else
        mb_putZ s 1 (0 : Int32) fun s7 =>
        mM_workPoints_l75 (mM_workPoints_l55  n) mb_fuel x1 (0 : Int32) s7
  := rfl
def mM_workPoints_b41 (k2 : Int32 → mb_S → Option (Unit × mb_S)) (x1 : Int32) (y0 : Int32) (y1 : Int32) (s : mb_S) : Option (Unit × mb_S) :=
  mb_stZ s 9 6 y1 y0 fun s8 =>
  mb_bnd (x1 + (1 : Int32)) fun v9 =>
  k2 v9 s8
def mM_workPoints_l2  : Nat → Int32 → mb_S → Option (Unit × mb_S)
  | 0 => fun _ _ => none
  | n + 1 => fun x1 s =>
    if (24 : Int32) ≤ x1 then
      mb_putZ s 1 (1 : Int32) fun s10 =>
      mM_workPoints_l55  mb_fuel (0 : Int32) s10
    else
      mb_stI s 7 24 x1 (0 : Int32) fun s11 =>
      mb_stI s11 8 12 (x1 / (2 : Int32)) (0 : Int32) fun s12 =>
      if (4 : Int32) ≤ x1 then
        mM_workPoints_b41 (mM_workPoints_l2  n) x1 (0 : Int32) (x1 / (4 : Int32)) s12
      else
        mM_workPoints_b41 (mM_workPoints_l2  n) x1 (1 : Int32) (x1 / (4 : Int32)) s12
theorem mM_workPoints_l2_s  (n : Nat) (x1 : Int32) (s : mb_S) : mM_workPoints_l2  (n + 1) x1 s =
    if (24 : Int32) ≤ x1 then
      mb_putZ s 1 (1 : Int32) fun s10 =>
      mM_workPoints_l55  mb_fuel (0 : Int32) s10
    else
      mb_stI s 7 24 x1 (0 : Int32) fun s11 =>
      mb_stI s11 8 12 (x1 / (2 : Int32)) (0 : Int32) fun s12 =>
      if (4 : Int32) ≤ x1 then
        mM_workPoints_b41 (mM_workPoints_l2  n) x1 (0 : Int32) (x1 / (4 : Int32)) s12
      else
        mM_workPoints_b41 (mM_workPoints_l2  n) x1 (1 : Int32) (x1 / (4 : Int32)) s12
  := rfl
def mM_workPoints  (s : mb_S) : Option (Unit × mb_S) :=
  mM_workPoints_l2  mb_fuel (0 : Int32) s
def mM_workTargets_b97 (k2 : Int32 → mb_S → Option (Unit × mb_S)) (x1 : Int32) (s : mb_S) : Option (Unit × mb_S) :=
  mb_bnd (x1 + (1 : Int32)) fun v1 =>
  k2 v1 s
def mM_workTargets_b91 (k2 : Int32 → mb_S → Option (Unit × mb_S)) (k50 : Int32 → Int32 → Int32 → mb_S → Option (Unit × mb_S)) (x1 : Int32) (x2 : Int32) (x3 : Int32) (s : mb_S) : Option (Unit × mb_S) :=
  mb_bnd (x3 + (1 : Int32)) fun v2 =>
  k50 x1 x2 v2 s
def mM_workTargets_l50 (k2 : Int32 → mb_S → Option (Unit × mb_S)) : Nat → Int32 → Int32 → Int32 → mb_S → Option (Unit × mb_S)
  | 0 => fun _ _ _ _ => none
  | n + 1 => fun x1 x2 x3 s =>
    if (36 : Int32) ≤ x3 then
      mM_workTargets_b97 k2 x1 s
    else
      if x2 = (0 : Int32) then
        mM_workTargets_b97 k2 x1 s
      else
        mb_cal (mM_calls x1 (x3 / (6 : Int32)) (x3 - x3 / (6 : Int32) * (6 : Int32)) s) fun v3 s4 =>
        if v3 = (0 : Int32) then
          mM_workTargets_b91 k2 (mM_workTargets_l50 k2 n) x1 x2 x3 s4
        else
          mb_ld (mb_I s4 10) 72 x1 fun v5 =>
          mb_stI s4 10 72 x1 (v5 ||| ((1 : Int32) <<< ((x3 - x3 / (6 : Int32) * (6 : Int32)) &&& 31))) fun s6 =>
          mM_workTargets_b91 k2 (mM_workTargets_l50 k2 n) x1 x2 x3 s6
theorem mM_workTargets_l50_s (k2 : Int32 → mb_S → Option (Unit × mb_S)) (n : Nat) (x1 : Int32) (x2 : Int32) (x3 : Int32) (s : mb_S) : mM_workTargets_l50 k2 (n + 1) x1 x2 x3 s =
    if (36 : Int32) ≤ x3 then
      mM_workTargets_b97 k2 x1 s
    else
      if x2 = (0 : Int32) then
        mM_workTargets_b97 k2 x1 s
      else
        mb_cal (mM_calls x1 (x3 / (6 : Int32)) (x3 - x3 / (6 : Int32) * (6 : Int32)) s) fun v3 s4 =>
        if v3 = (0 : Int32) then
          mM_workTargets_b91 k2 (mM_workTargets_l50 k2 n) x1 x2 x3 s4
        else
          mb_ld (mb_I s4 10) 72 x1 fun v5 =>
          mb_stI s4 10 72 x1 (v5 ||| ((1 : Int32) <<< ((x3 - x3 / (6 : Int32) * (6 : Int32)) &&& 31))) fun s6 =>
          mM_workTargets_b91 k2 (mM_workTargets_l50 k2 n) x1 x2 x3 s6
  := rfl
def mM_workTargets_b47 (k2 : Int32 → mb_S → Option (Unit × mb_S)) (x1 : Int32) (y0 : Int32) (s : mb_S) : Option (Unit × mb_S) :=
  mM_workTargets_l50 k2 mb_fuel x1 y0 (0 : Int32) s
def mM_workTargets_b46 (k2 : Int32 → mb_S → Option (Unit × mb_S)) (x1 : Int32) (s : mb_S) : Option (Unit × mb_S) :=
  mM_workTargets_b47 k2 x1 (0 : Int32) s
def mM_workTargets_l2  : Nat → Int32 → mb_S → Option (Unit × mb_S)
  | 0 => fun _ _ => none
  | n + 1 => fun x1 s =>
    if (72 : Int32) ≤ x1 then
      some ((), s)
    else
      mb_stI s 10 72 x1 (0 : Int32) fun s7 =>
      mb_ld (mb_I s7 0) 6 (x1 / (12 : Int32)) fun v8 =>
      if v8 ≤ (x1 - x1 / (12 : Int32) * (12 : Int32)) then
        mM_workTargets_b46 (mM_workTargets_l2  n) x1 s7
      else
        mb_ld (mb_I s7 1) 72 x1 fun v9 =>
        if v9 = (7 : Int32) then
          mM_workTargets_b47 (mM_workTargets_l2  n) x1 (1 : Int32) s7
        else
          mM_workTargets_b46 (mM_workTargets_l2  n) x1 s7
theorem mM_workTargets_l2_s  (n : Nat) (x1 : Int32) (s : mb_S) : mM_workTargets_l2  (n + 1) x1 s =
    if (72 : Int32) ≤ x1 then
      some ((), s)
    else
      mb_stI s 10 72 x1 (0 : Int32) fun s7 =>
      mb_ld (mb_I s7 0) 6 (x1 / (12 : Int32)) fun v8 =>
      if v8 ≤ (x1 - x1 / (12 : Int32) * (12 : Int32)) then
        mM_workTargets_b46 (mM_workTargets_l2  n) x1 s7
      else
        mb_ld (mb_I s7 1) 72 x1 fun v9 =>
        if v9 = (7 : Int32) then
          mM_workTargets_b47 (mM_workTargets_l2  n) x1 (1 : Int32) s7
        else
          mM_workTargets_b46 (mM_workTargets_l2  n) x1 s7
  := rfl
def mM_workTargets  (s : mb_S) : Option (Unit × mb_S) :=
  mM_workTargets_l2  mb_fuel (0 : Int32) s
def mM_cellOf (x1 : Int32) (x2 : Int32) (x3 : Int32) (s : mb_S) : Option (Int32 × mb_S) :=
  some (((((13 : Int32) * x1) + x2) * (65 : Int32)) + x3, s)
def mM_put_b79  (y0 : Int32) (s : mb_S) : Option (Unit × mb_S) :=
  mb_putZ s 1 y0 fun s1 =>
  some ((), s1)
def mM_put_b74   (s : mb_S) : Option (Unit × mb_S) :=
  mM_put_b79  (1 : Int32) s
def mM_put_b20  (x1 : Int32) (x3 : Int32) (x4 : Int64) (y0 : Int32) (s : mb_S) : Option (Unit × mb_S) :=
  mb_cal (mM_cellOf x1 y0 x3 s) fun v2 s3 =>
  mb_ldL (mb_L s3 0) 5070 v2 fun v4 =>
  mb_stL s3 0 5070 v2 (v4 ||| x4) fun s5 =>
  if (mb_F s5 1) = (0 : Int32) then
    mb_ldL (mb_L s5 0) 5070 v2 fun v6 =>
    if (lg_cmp v6 v4) = (0 : Int32) then
      mM_put_b79  (0 : Int32) s5
    else
      mM_put_b74  s5
  else
    mM_put_b74  s5
def mM_put (x1 : Int32) (x2 : Int32) (x3 : Int32) (x4 : Int64) (s : mb_S) : Option (Unit × mb_S) :=
  mb_ld (mb_I s 0) 6 x1 fun v7 =>
  if x2 ≤ v7 then
    mM_put_b20  x1 x3 x4 x2 s
  else
    mb_ld (mb_I s 0) 6 x1 fun v8 =>
    mM_put_b20  x1 x3 x4 v8 s
def mM_putZero_b48  (x1 : Int32) (x3 : Int32) (y0 : Int32) (s : mb_S) : Option (Unit × mb_S) :=
  mb_putZ s 1 y0 fun s1 =>
  mb_stZ s1 11 78 (((13 : Int32) * x1) + x3) (1 : Int32) fun s2 =>
  some ((), s2)
def mM_putZero_b43  (x1 : Int32) (x3 : Int32) (s : mb_S) : Option (Unit × mb_S) :=
  mM_putZero_b48  x1 x3 (1 : Int32) s
def mM_putZero_b20  (x1 : Int32) (y0 : Int32) (s : mb_S) : Option (Unit × mb_S) :=
  if (mb_F s 1) = (0 : Int32) then
    mb_ld (mb_I s 11) 78 (((13 : Int32) * x1) + y0) fun v3 =>
    if v3 = (0 : Int32) then
      mM_putZero_b43  x1 y0 s
    else
      mM_putZero_b48  x1 y0 (0 : Int32) s
  else
    mM_putZero_b43  x1 y0 s
def mM_putZero (x1 : Int32) (x2 : Int32) (s : mb_S) : Option (Unit × mb_S) :=
  mb_ld (mb_I s 0) 6 x1 fun v4 =>
  if x2 ≤ v4 then
    mM_putZero_b20  x1 x2 s
  else
    mb_ld (mb_I s 0) 6 x1 fun v5 =>
    mM_putZero_b20  x1 v5 s
def mM_onwards_b107   (s : mb_S) : Option (Unit × mb_S) :=
  some ((), s)
def mM_onwards_b69  (x1 : Int32) (x2 : Int32) (x3 : Int32) (x4 : Int32) (x5 : Int32) (s : mb_S) : Option (Unit × mb_S) :=
  if x5 = (9 : Int32) then
    mM_onwards_b107  s
  else
    if x4 = (64 : Int32) then
      mb_cal (mM_putZero x1 (x2 + (1 : Int32)) s) fun _u s2 =>
      mM_onwards_b107  s2
    else
      mb_cal (mM_put x1 (x2 + (1 : Int32)) x3 ((1 : Int64) <<< (Int32.toInt64 x4 &&& 63)) s) fun _u s1 =>
      mM_onwards_b107  s1
def mM_onwards_b40  (x1 : Int32) (x2 : Int32) (x3 : Int32) (x4 : Int32) (x5 : Int32) (x6 : Int32) (s : mb_S) : Option (Unit × mb_S) :=
  if x4 = (64 : Int32) then
    mb_cal (mM_putZero x1 x6 s) fun _u s4 =>
    mM_onwards_b69  x1 x2 x3 x4 x5 s4
  else
    mb_cal (mM_put x1 x6 x3 ((1 : Int64) <<< (Int32.toInt64 x4 &&& 63)) s) fun _u s3 =>
    mM_onwards_b69  x1 x2 x3 x4 x5 s3
def mM_onwards (x1 : Int32) (x2 : Int32) (x3 : Int32) (x4 : Int32) (s : mb_S) : Option (Unit × mb_S) :=
  mb_ld (mb_I s 1) 72 (((12 : Int32) * x1) + x2) fun v5 =>
  mb_ld (mb_I s 2) 72 (((12 : Int32) * x1) + x2) fun v6 =>
  if v5 = (8 : Int32) then
    mM_onwards_b40  x1 x2 x3 x4 v5 v6 s
  else
    if v5 = (9 : Int32) then
      mM_onwards_b40  x1 x2 x3 x4 v5 v6 s
    else
      mM_onwards_b69  x1 x2 x3 x4 v5 s
def mM_back_b191 (k16 : Int32 → Int32 → Int32 → Int32 → Int32 → Int32 → Int32 → mb_S → Option (Unit × mb_S)) (x1 : Int32) (x2 : Int32) (x3 : Int32) (x4 : Int32) (x5 : Int32) (x6 : Int32) (x7 : Int32) (s : mb_S) : Option (Unit × mb_S) :=
  mb_bnd (x7 + (1 : Int32)) fun v1 =>
  k16 x1 x2 x3 x4 x5 x6 v1 s
def mM_back_b185 (k16 : Int32 → Int32 → Int32 → Int32 → Int32 → Int32 → Int32 → mb_S → Option (Unit × mb_S)) (k122 : Int32 → Int32 → Int32 → Int32 → Int32 → Int32 → Int32 → Int64 → Int32 → Int32 → mb_S → Option (Unit × mb_S)) (x1 : Int32) (x2 : Int32) (x3 : Int32) (x4 : Int32) (x5 : Int32) (x6 : Int32) (x7 : Int32) (x8 : Int64) (x11 : Int32) (x12 : Int32) (s : mb_S) : Option (Unit × mb_S) :=
  mb_bnd (x12 + (1 : Int32)) fun v2 =>
  k122 x1 x2 x3 x4 x5 x6 x7 x8 x11 v2 s
def mM_back_l122 (k16 : Int32 → Int32 → Int32 → Int32 → Int32 → Int32 → Int32 → mb_S → Option (Unit × mb_S)) : Nat → Int32 → Int32 → Int32 → Int32 → Int32 → Int32 → Int32 → Int64 → Int32 → Int32 → mb_S → Option (Unit × mb_S)
  | 0 => fun _ _ _ _ _ _ _ _ _ _ _ => none
  | n + 1 => fun x1 x2 x3 x4 x5 x6 x7 x8 x11 x12 s =>
    if (4 : Int32) ≤ x12 then
      mM_back_b191 k16 x1 x2 x3 x4 x5 x6 x7 s
    else
      if x11 = (0 : Int32) then
        mM_back_b191 k16 x1 x2 x3 x4 x5 x6 x7 s
      else
        mb_ld (mb_I s 2) 72 (((12 : Int32) * x4) + x7) fun v3 =>
        if (lg_cmp ((x8 >>> (Int32.toInt64 (((16 : Int32) * x12) + v3) &&& 63)) &&& (1 : Int64)) (1 : Int64)) = (0 : Int32) then
          mb_cal (mM_put x1 (x2 + (1 : Int32)) x3 ((1 : Int64) <<< (Int32.toInt64 (((16 : Int32) * x12) + x6) &&& 63)) s) fun _u s4 =>
          mM_back_b185 k16 (mM_back_l122 k16 n) x1 x2 x3 x4 x5 x6 x7 x8 x11 x12 s4
        else
          mM_back_b185 k16 (mM_back_l122 k16 n) x1 x2 x3 x4 x5 x6 x7 x8 x11 x12 s
theorem mM_back_l122_s (k16 : Int32 → Int32 → Int32 → Int32 → Int32 → Int32 → Int32 → mb_S → Option (Unit × mb_S)) (n : Nat) (x1 : Int32) (x2 : Int32) (x3 : Int32) (x4 : Int32) (x5 : Int32) (x6 : Int32) (x7 : Int32) (x8 : Int64) (x11 : Int32) (x12 : Int32) (s : mb_S) : mM_back_l122 k16 (n + 1) x1 x2 x3 x4 x5 x6 x7 x8 x11 x12 s =
    if (4 : Int32) ≤ x12 then
      mM_back_b191 k16 x1 x2 x3 x4 x5 x6 x7 s
    else
      if x11 = (0 : Int32) then
        mM_back_b191 k16 x1 x2 x3 x4 x5 x6 x7 s
      else
        mb_ld (mb_I s 2) 72 (((12 : Int32) * x4) + x7) fun v3 =>
        if (lg_cmp ((x8 >>> (Int32.toInt64 (((16 : Int32) * x12) + v3) &&& 63)) &&& (1 : Int64)) (1 : Int64)) = (0 : Int32) then
          mb_cal (mM_put x1 (x2 + (1 : Int32)) x3 ((1 : Int64) <<< (Int32.toInt64 (((16 : Int32) * x12) + x6) &&& 63)) s) fun _u s4 =>
          mM_back_b185 k16 (mM_back_l122 k16 n) x1 x2 x3 x4 x5 x6 x7 x8 x11 x12 s4
        else
          mM_back_b185 k16 (mM_back_l122 k16 n) x1 x2 x3 x4 x5 x6 x7 x8 x11 x12 s
  := rfl
def mM_back_b119 (k16 : Int32 → Int32 → Int32 → Int32 → Int32 → Int32 → Int32 → mb_S → Option (Unit × mb_S)) (x1 : Int32) (x2 : Int32) (x3 : Int32) (x4 : Int32) (x5 : Int32) (x6 : Int32) (x7 : Int32) (x8 : Int64) (x11 : Int32) (s : mb_S) : Option (Unit × mb_S) :=
  mM_back_l122 k16 mb_fuel x1 x2 x3 x4 x5 x6 x7 x8 x11 (0 : Int32) s
def mM_back_b104 (k16 : Int32 → Int32 → Int32 → Int32 → Int32 → Int32 → Int32 → mb_S → Option (Unit × mb_S)) (x1 : Int32) (x2 : Int32) (x3 : Int32) (x4 : Int32) (x5 : Int32) (x6 : Int32) (x7 : Int32) (x8 : Int64) (x11 : Int32) (s : mb_S) : Option (Unit × mb_S) :=
  mb_cal (mM_put x1 (x2 + (1 : Int32)) x3 (x8 &&& (-4222189076152336 : Int64)) s) fun _u s5 =>
  mM_back_b119 k16 x1 x2 x3 x4 x5 x6 x7 x8 x11 s5
def mM_back_b92 (k16 : Int32 → Int32 → Int32 → Int32 → Int32 → Int32 → Int32 → mb_S → Option (Unit × mb_S)) (x1 : Int32) (x2 : Int32) (x3 : Int32) (x4 : Int32) (x5 : Int32) (x6 : Int32) (x7 : Int32) (x8 : Int64) (x10 : Int32) (y0 : Int32) (s : mb_S) : Option (Unit × mb_S) :=
  if x10 = (0 : Int32) then
    if y0 = (0 : Int32) then
      mM_back_b119 k16 x1 x2 x3 x4 x5 x6 x7 x8 y0 s
    else
      mM_back_b104 k16 x1 x2 x3 x4 x5 x6 x7 x8 y0 s
  else
    mM_back_b104 k16 x1 x2 x3 x4 x5 x6 x7 x8 y0 s
def mM_back_b91 (k16 : Int32 → Int32 → Int32 → Int32 → Int32 → Int32 → Int32 → mb_S → Option (Unit × mb_S)) (x1 : Int32) (x2 : Int32) (x3 : Int32) (x4 : Int32) (x5 : Int32) (x6 : Int32) (x7 : Int32) (x8 : Int64) (x10 : Int32) (s : mb_S) : Option (Unit × mb_S) :=
  mM_back_b92 k16 x1 x2 x3 x4 x5 x6 x7 x8 x10 (0 : Int32) s
def mM_back_b62 (k16 : Int32 → Int32 → Int32 → Int32 → Int32 → Int32 → Int32 → mb_S → Option (Unit × mb_S)) (x1 : Int32) (x2 : Int32) (x3 : Int32) (x4 : Int32) (x5 : Int32) (x6 : Int32) (x7 : Int32) (x8 : Int64) (y0 : Int32) (s : mb_S) : Option (Unit × mb_S) :=
  if y0 = (0 : Int32) then
    mb_ld (mb_I s 1) 72 (((12 : Int32) * x4) + x7) fun v6 =>
    if v6 = (10 : Int32) then
      mM_back_b92 k16 x1 x2 x3 x4 x5 x6 x7 x8 y0 (1 : Int32) s
    else
      mM_back_b91 k16 x1 x2 x3 x4 x5 x6 x7 x8 y0 s
  else
    mM_back_b91 k16 x1 x2 x3 x4 x5 x6 x7 x8 y0 s
def mM_back_l16  : Nat → Int32 → Int32 → Int32 → Int32 → Int32 → Int32 → Int32 → mb_S → Option (Unit × mb_S)
  | 0 => fun _ _ _ _ _ _ _ _ => none
  | n + 1 => fun x1 x2 x3 x4 x5 x6 x7 s =>
    mb_ld (mb_I s 0) 6 x4 fun v7 =>
    if v7 < x7 then
      some ((), s)
    else
      mb_cal (mM_cellOf x4 x7 x5 s) fun v8 s9 =>
      mb_ldL (mb_L s9 0) 5070 v8 fun v10 =>
      mb_ld (mb_I s9 0) 6 x4 fun v11 =>
      if x7 = v11 then
        mM_back_b62 (mM_back_l16  n) x1 x2 x3 x4 x5 x6 x7 v10 (1 : Int32) s9
      else
        mM_back_b62 (mM_back_l16  n) x1 x2 x3 x4 x5 x6 x7 v10 (0 : Int32) s9
theorem mM_back_l16_s  (n : Nat) (x1 : Int32) (x2 : Int32) (x3 : Int32) (x4 : Int32) (x5 : Int32) (x6 : Int32) (x7 : Int32) (s : mb_S) : mM_back_l16  (n + 1) x1 x2 x3 x4 x5 x6 x7 s =
    mb_ld (mb_I s 0) 6 x4 fun v7 =>
    if v7 < x7 then
      some ((), s)
    else
      mb_cal (mM_cellOf x4 x7 x5 s) fun v8 s9 =>
      mb_ldL (mb_L s9 0) 5070 v8 fun v10 =>
      mb_ld (mb_I s9 0) 6 x4 fun v11 =>
      if x7 = v11 then
        mM_back_b62 (mM_back_l16  n) x1 x2 x3 x4 x5 x6 x7 v10 (1 : Int32) s9
      else
        mM_back_b62 (mM_back_l16  n) x1 x2 x3 x4 x5 x6 x7 v10 (0 : Int32) s9
  := rfl
def mM_back (x1 : Int32) (x2 : Int32) (x3 : Int32) (x4 : Int32) (x5 : Int32) (s : mb_S) : Option (Unit × mb_S) :=
  mb_ld (mb_I s 2) 72 (((12 : Int32) * x1) + x2) fun v12 =>
  mM_back_l16  mb_fuel x1 x2 x3 x4 x5 v12 (0 : Int32) s
def mM_give_b96  (x1 : Int32) (x2 : Int32) (x3 : Int32) (x4 : Int32) (x5 : Int32) (s : mb_S) : Option (Unit × mb_S) :=
  mb_cal (mM_back x1 x2 x3 x4 x5 s) fun _u s1 =>
  some ((), s1)
def mM_give_b93  (x1 : Int32) (x2 : Int32) (x3 : Int32) (x4 : Int32) (x5 : Int32) (y0 : Int32) (s : mb_S) : Option (Unit × mb_S) :=
  mb_putZ s 1 y0 fun s2 =>
  mM_give_b96  x1 x2 x3 x4 x5 s2
def mM_give_b88  (x1 : Int32) (x2 : Int32) (x3 : Int32) (x4 : Int32) (x5 : Int32) (s : mb_S) : Option (Unit × mb_S) :=
  mM_give_b93  x1 x2 x3 x4 x5 (1 : Int32) s
def mM_give_b30  (x1 : Int32) (x2 : Int32) (x3 : Int32) (x4 : Int32) (x5 : Int32) (y0 : Int32) (s : mb_S) : Option (Unit × mb_S) :=
  mb_putZ s 1 y0 fun s3 =>
  mb_stZ s3 12 6 x4 (1 : Int32) fun s4 =>
  mM_give_b96  x1 x2 x3 x4 x5 s4
def mM_give_b25  (x1 : Int32) (x2 : Int32) (x3 : Int32) (x4 : Int32) (x5 : Int32) (s : mb_S) : Option (Unit × mb_S) :=
  mM_give_b30  x1 x2 x3 x4 x5 (1 : Int32) s
def mM_give (x1 : Int32) (x2 : Int32) (x3 : Int32) (x4 : Int32) (x5 : Int32) (s : mb_S) : Option (Unit × mb_S) :=
  if x5 = (64 : Int32) then
    if (mb_F s 1) = (0 : Int32) then
      mb_ld (mb_I s 12) 6 x4 fun v8 =>
      if v8 = (0 : Int32) then
        mM_give_b25  x1 x2 x3 x4 x5 s
      else
        mM_give_b30  x1 x2 x3 x4 x5 (0 : Int32) s
    else
      mM_give_b25  x1 x2 x3 x4 x5 s
  else
    mb_ldL (mb_L s 1) 6 x4 fun v5 =>
    mb_stL s 1 6 x4 (v5 ||| ((1 : Int64) <<< (Int32.toInt64 x5 &&& 63))) fun s6 =>
    if (mb_F s6 1) = (0 : Int32) then
      mb_ldL (mb_L s6 1) 6 x4 fun v7 =>
      if (lg_cmp v7 v5) = (0 : Int32) then
        mM_give_b93  x1 x2 x3 x4 x5 (0 : Int32) s6
      else
        mM_give_b88  x1 x2 x3 x4 x5 s6
    else
      mM_give_b88  x1 x2 x3 x4 x5 s6
def mM_callFacts_b206 (k67 : Int32 → Int32 → Int32 → Int32 → Int32 → Int32 → Int32 → mb_S → Option (Unit × mb_S)) (x1 : Int32) (x2 : Int32) (x3 : Int32) (x4 : Int32) (x5 : Int32) (x6 : Int32) (x7 : Int32) (s : mb_S) : Option (Unit × mb_S) :=
  mb_bnd (x7 + (1 : Int32)) fun v1 =>
  k67 x1 x2 x3 x4 x5 x6 v1 s
def mM_callFacts_b164 (k67 : Int32 → Int32 → Int32 → Int32 → Int32 → Int32 → Int32 → mb_S → Option (Unit × mb_S)) (x1 : Int32) (x2 : Int32) (x3 : Int32) (x4 : Int32) (x5 : Int32) (x6 : Int32) (x7 : Int32) (x8 : Int32) (s : mb_S) : Option (Unit × mb_S) :=
  if x8 = (0 : Int32) then
    mM_callFacts_b206 k67 x1 x2 x3 x4 x5 x6 x7 s
  else
    if x4 = (64 : Int32) then
      mM_callFacts_b206 k67 x1 x2 x3 x4 x5 x6 x7 s
    else
      mb_ld (mb_I s 4) 72 x5 fun v2 =>
      if x6 = (v2 - v2 / (4 : Int32) * (4 : Int32)) then
        mb_cal (mM_give x1 x2 x3 x7 ((x4 - x6) + (1 : Int32)) s) fun _u s3 =>
        mM_callFacts_b206 k67 x1 x2 x3 x4 x5 x6 x7 s3
      else
        mM_callFacts_b206 k67 x1 x2 x3 x4 x5 x6 x7 s
def mM_callFacts_b126 (k67 : Int32 → Int32 → Int32 → Int32 → Int32 → Int32 → Int32 → mb_S → Option (Unit × mb_S)) (x1 : Int32) (x2 : Int32) (x3 : Int32) (x4 : Int32) (x5 : Int32) (x6 : Int32) (x7 : Int32) (x8 : Int32) (s : mb_S) : Option (Unit × mb_S) :=
  if x8 = (0 : Int32) then
    mM_callFacts_b164 k67 x1 x2 x3 x4 x5 x6 x7 x8 s
  else
    if x4 = (64 : Int32) then
      mM_callFacts_b164 k67 x1 x2 x3 x4 x5 x6 x7 x8 s
    else
      mb_ld (mb_I s 3) 72 x5 fun v4 =>
      if x6 = v4 then
        mb_cal (mM_give x1 x2 x3 x7 (x4 - x6) s) fun _u s5 =>
        mM_callFacts_b164 k67 x1 x2 x3 x4 x5 x6 x7 x8 s5
      else
        mM_callFacts_b164 k67 x1 x2 x3 x4 x5 x6 x7 x8 s
def mM_callFacts_b115 (k67 : Int32 → Int32 → Int32 → Int32 → Int32 → Int32 → Int32 → mb_S → Option (Unit × mb_S)) (x1 : Int32) (x2 : Int32) (x3 : Int32) (x4 : Int32) (x5 : Int32) (x6 : Int32) (x7 : Int32) (x8 : Int32) (s : mb_S) : Option (Unit × mb_S) :=
  mb_cal (mM_give x1 x2 x3 x7 x4 s) fun _u s6 =>
  mM_callFacts_b126 k67 x1 x2 x3 x4 x5 x6 x7 x8 s6
def mM_callFacts_b95 (k67 : Int32 → Int32 → Int32 → Int32 → Int32 → Int32 → Int32 → mb_S → Option (Unit × mb_S)) (x1 : Int32) (x2 : Int32) (x3 : Int32) (x4 : Int32) (x5 : Int32) (x6 : Int32) (x7 : Int32) (y0 : Int32) (s : mb_S) : Option (Unit × mb_S) :=
  if y0 = (0 : Int32) then
    mM_callFacts_b126 k67 x1 x2 x3 x4 x5 x6 x7 y0 s
  else
    if x4 = (64 : Int32) then
      mM_callFacts_b115 k67 x1 x2 x3 x4 x5 x6 x7 y0 s
    else
      if x6 < (4 : Int32) then
        mM_callFacts_b126 k67 x1 x2 x3 x4 x5 x6 x7 y0 s
      else
        mM_callFacts_b115 k67 x1 x2 x3 x4 x5 x6 x7 y0 s
def mM_callFacts_l67  : Nat → Int32 → Int32 → Int32 → Int32 → Int32 → Int32 → Int32 → mb_S → Option (Unit × mb_S)
  | 0 => fun _ _ _ _ _ _ _ _ => none
  | n + 1 => fun x1 x2 x3 x4 x5 x6 x7 s =>
    if (6 : Int32) ≤ x7 then
      some ((), s)
    else
      mb_ld (mb_I s 10) 72 x5 fun v7 =>
      if ((v7 >>> (x7 &&& 31)) &&& (1 : Int32)) = (1 : Int32) then
        mM_callFacts_b95 (mM_callFacts_l67  n) x1 x2 x3 x4 x5 x6 x7 (1 : Int32) s
      else
        mM_callFacts_b95 (mM_callFacts_l67  n) x1 x2 x3 x4 x5 x6 x7 (0 : Int32) s
theorem mM_callFacts_l67_s  (n : Nat) (x1 : Int32) (x2 : Int32) (x3 : Int32) (x4 : Int32) (x5 : Int32) (x6 : Int32) (x7 : Int32) (s : mb_S) : mM_callFacts_l67  (n + 1) x1 x2 x3 x4 x5 x6 x7 s =
    if (6 : Int32) ≤ x7 then
      some ((), s)
    else
      mb_ld (mb_I s 10) 72 x5 fun v7 =>
      if ((v7 >>> (x7 &&& 31)) &&& (1 : Int32)) = (1 : Int32) then
        mM_callFacts_b95 (mM_callFacts_l67  n) x1 x2 x3 x4 x5 x6 x7 (1 : Int32) s
      else
        mM_callFacts_b95 (mM_callFacts_l67  n) x1 x2 x3 x4 x5 x6 x7 (0 : Int32) s
  := rfl
def mM_callFacts_b64  (x1 : Int32) (x2 : Int32) (x3 : Int32) (x4 : Int32) (x5 : Int32) (x6 : Int32) (s : mb_S) : Option (Unit × mb_S) :=
  mM_callFacts_l67  mb_fuel x1 x2 x3 x4 x5 x6 (0 : Int32) s
def mM_callFacts (x1 : Int32) (x2 : Int32) (x3 : Int32) (x4 : Int32) (s : mb_S) : Option (Unit × mb_S) :=
  mb_bnd (((12 : Int32) * x1) + x2) fun v8 =>
  mb_bnd (x4 &&& (15 : Int32)) fun v9 =>
  if x4 = (64 : Int32) then
    mb_cal (mM_putZero x1 (x2 + (1 : Int32)) s) fun _u s12 =>
    mM_callFacts_b64  x1 x2 x3 x4 v8 v9 s12
  else
    if (4 : Int32) ≤ v9 then
      mM_callFacts_b64  x1 x2 x3 x4 v8 v9 s
    else
      mb_ld (mb_I s 2) 72 v8 fun v10 =>
      if v9 = v10 then
        mM_callFacts_b64  x1 x2 x3 x4 v8 v9 s
      else
        mb_cal (mM_put x1 (x2 + (1 : Int32)) x3 ((1 : Int64) <<< (Int32.toInt64 x4 &&& 63)) s) fun _u s11 =>
        mM_callFacts_b64  x1 x2 x3 x4 v8 v9 s11
def mM_followFact_b250 (k134 : Int32 → Int32 → Int32 → Int32 → Int32 → Int32 → Int32 → Int32 → Int32 → Int32 → mb_S → Option (Unit × mb_S)) (x1 : Int32) (x2 : Int32) (x3 : Int32) (x5 : Int32) (x6 : Int32) (x7 : Int32) (x8 : Int32) (x9 : Int32) (x10 : Int32) (x12 : Int32) (s : mb_S) : Option (Unit × mb_S) :=
  mb_bnd (x12 + (1 : Int32)) fun v1 =>
  k134 x1 x2 x3 x5 x6 x7 x8 x9 x10 v1 s
def mM_followFact_b205 (k134 : Int32 → Int32 → Int32 → Int32 → Int32 → Int32 → Int32 → Int32 → Int32 → Int32 → mb_S → Option (Unit × mb_S)) (x1 : Int32) (x2 : Int32) (x3 : Int32) (x5 : Int32) (x6 : Int32) (x7 : Int32) (x8 : Int32) (x9 : Int32) (x10 : Int32) (x12 : Int32) (x13 : Int32) (s : mb_S) : Option (Unit × mb_S) :=
  if x6 = (5 : Int32) then
    if x9 = x13 then
      mb_ld (mb_I s 7) 24 (((4 : Int32) * x1) + x8) fun v2 =>
      if ((v2 >>> (x12 &&& 31)) &&& (1 : Int32)) = (1 : Int32) then
        mb_cal (mM_onwards x1 x2 x3 (x10 + x7) s) fun _u s3 =>
        mM_followFact_b250 k134 x1 x2 x3 x5 x6 x7 x8 x9 x10 x12 s3
      else
        mM_followFact_b250 k134 x1 x2 x3 x5 x6 x7 x8 x9 x10 x12 s
    else
      mM_followFact_b250 k134 x1 x2 x3 x5 x6 x7 x8 x9 x10 x12 s
  else
    mM_followFact_b250 k134 x1 x2 x3 x5 x6 x7 x8 x9 x10 x12 s
def mM_followFact_l134  : Nat → Int32 → Int32 → Int32 → Int32 → Int32 → Int32 → Int32 → Int32 → Int32 → Int32 → mb_S → Option (Unit × mb_S)
  | 0 => fun _ _ _ _ _ _ _ _ _ _ _ => none
  | n + 1 => fun x1 x2 x3 x5 x6 x7 x8 x9 x10 x12 s =>
    if (6 : Int32) ≤ x12 then
      some ((), s)
    else
      mb_ld (mb_I s 4) 72 x5 fun v4 =>
      mb_bnd (((4 : Int32) + ((2 : Int32) * x12)) + (v4 &&& (1 : Int32))) fun v5 =>
      if x6 = (6 : Int32) then
        if x9 = x8 then
          mb_ld (mb_I s 7) 24 (((4 : Int32) * x1) + x7) fun v6 =>
          if ((v6 >>> (x12 &&& 31)) &&& (1 : Int32)) = (1 : Int32) then
            mb_cal (mM_onwards x1 x2 x3 (x10 + v5) s) fun _u s7 =>
            mM_followFact_b205 (mM_followFact_l134  n) x1 x2 x3 x5 x6 x7 x8 x9 x10 x12 v5 s7
          else
            mM_followFact_b205 (mM_followFact_l134  n) x1 x2 x3 x5 x6 x7 x8 x9 x10 x12 v5 s
        else
          mM_followFact_b205 (mM_followFact_l134  n) x1 x2 x3 x5 x6 x7 x8 x9 x10 x12 v5 s
      else
        mM_followFact_b205 (mM_followFact_l134  n) x1 x2 x3 x5 x6 x7 x8 x9 x10 x12 v5 s
theorem mM_followFact_l134_s  (n : Nat) (x1 : Int32) (x2 : Int32) (x3 : Int32) (x5 : Int32) (x6 : Int32) (x7 : Int32) (x8 : Int32) (x9 : Int32) (x10 : Int32) (x12 : Int32) (s : mb_S) : mM_followFact_l134  (n + 1) x1 x2 x3 x5 x6 x7 x8 x9 x10 x12 s =
    if (6 : Int32) ≤ x12 then
      some ((), s)
    else
      mb_ld (mb_I s 4) 72 x5 fun v4 =>
      mb_bnd (((4 : Int32) + ((2 : Int32) * x12)) + (v4 &&& (1 : Int32))) fun v5 =>
      if x6 = (6 : Int32) then
        if x9 = x8 then
          mb_ld (mb_I s 7) 24 (((4 : Int32) * x1) + x7) fun v6 =>
          if ((v6 >>> (x12 &&& 31)) &&& (1 : Int32)) = (1 : Int32) then
            mb_cal (mM_onwards x1 x2 x3 (x10 + v5) s) fun _u s7 =>
            mM_followFact_b205 (mM_followFact_l134  n) x1 x2 x3 x5 x6 x7 x8 x9 x10 x12 v5 s7
          else
            mM_followFact_b205 (mM_followFact_l134  n) x1 x2 x3 x5 x6 x7 x8 x9 x10 x12 v5 s
        else
          mM_followFact_b205 (mM_followFact_l134  n) x1 x2 x3 x5 x6 x7 x8 x9 x10 x12 v5 s
      else
        mM_followFact_b205 (mM_followFact_l134  n) x1 x2 x3 x5 x6 x7 x8 x9 x10 x12 v5 s
  := rfl
def mM_followFact_b131  (x1 : Int32) (x2 : Int32) (x3 : Int32) (x5 : Int32) (x6 : Int32) (x7 : Int32) (x8 : Int32) (x9 : Int32) (x10 : Int32) (s : mb_S) : Option (Unit × mb_S) :=
  mM_followFact_l134  mb_fuel x1 x2 x3 x5 x6 x7 x8 x9 x10 (0 : Int32) s
def mM_followFact_b112  (x1 : Int32) (x2 : Int32) (x3 : Int32) (x5 : Int32) (x6 : Int32) (x7 : Int32) (x8 : Int32) (x9 : Int32) (x10 : Int32) (s : mb_S) : Option (Unit × mb_S) :=
  if x9 = x8 then
    mb_cal (mM_onwards x1 x2 x3 (x10 + x7) s) fun _u s8 =>
    mM_followFact_b131  x1 x2 x3 x5 x6 x7 x8 x9 x10 s8
  else
    mM_followFact_b131  x1 x2 x3 x5 x6 x7 x8 x9 x10 s
def mM_followFact_b100  (x1 : Int32) (x2 : Int32) (x3 : Int32) (x5 : Int32) (x6 : Int32) (x7 : Int32) (x8 : Int32) (x9 : Int32) (x10 : Int32) (s : mb_S) : Option (Unit × mb_S) :=
  if x6 = (4 : Int32) then
    mM_followFact_b112  x1 x2 x3 x5 x6 x7 x8 x9 x10 s
  else
    if x6 = (5 : Int32) then
      mM_followFact_b112  x1 x2 x3 x5 x6 x7 x8 x9 x10 s
    else
      mM_followFact_b131  x1 x2 x3 x5 x6 x7 x8 x9 x10 s
def mM_followFact_b91  (x1 : Int32) (x2 : Int32) (x3 : Int32) (x4 : Int32) (x5 : Int32) (x6 : Int32) (x7 : Int32) (x8 : Int32) (x9 : Int32) (x10 : Int32) (s : mb_S) : Option (Unit × mb_S) :=
  mb_cal (mM_onwards x1 x2 x3 x4 s) fun _u s9 =>
  mM_followFact_b100  x1 x2 x3 x5 x6 x7 x8 x9 x10 s9
def mM_followFact_b77  (x1 : Int32) (x2 : Int32) (x3 : Int32) (x4 : Int32) (x5 : Int32) (x6 : Int32) (x7 : Int32) (x8 : Int32) (x9 : Int32) (x10 : Int32) (y0 : Int32) (s : mb_S) : Option (Unit × mb_S) :=
  if y0 = (0 : Int32) then
    mM_followFact_b91  x1 x2 x3 x4 x5 x6 x7 x8 x9 x10 s
  else
    if x9 = x7 then
      mM_followFact_b100  x1 x2 x3 x5 x6 x7 x8 x9 x10 s
    else
      mM_followFact_b91  x1 x2 x3 x4 x5 x6 x7 x8 x9 x10 s
def mM_followFact_b76  (x1 : Int32) (x2 : Int32) (x3 : Int32) (x4 : Int32) (x5 : Int32) (x6 : Int32) (x7 : Int32) (x8 : Int32) (x9 : Int32) (x10 : Int32) (s : mb_S) : Option (Unit × mb_S) :=
  mM_followFact_b77  x1 x2 x3 x4 x5 x6 x7 x8 x9 x10 (0 : Int32) s
def mM_followFact_b72  (x1 : Int32) (x2 : Int32) (x3 : Int32) (x4 : Int32) (x5 : Int32) (x6 : Int32) (x7 : Int32) (x8 : Int32) (x9 : Int32) (x10 : Int32) (s : mb_S) : Option (Unit × mb_S) :=
  mM_followFact_b77  x1 x2 x3 x4 x5 x6 x7 x8 x9 x10 (1 : Int32) s
def mM_followFact (x1 : Int32) (x2 : Int32) (x3 : Int32) (x4 : Int32) (s : mb_S) : Option (Unit × mb_S) :=
  mb_bnd (((12 : Int32) * x1) + x2) fun v10 =>
  mb_ld (mb_I s 1) 72 v10 fun v11 =>
  mb_ld (mb_I s 2) 72 v10 fun v12 =>
  mb_ld (mb_I s 3) 72 v10 fun v13 =>
  mb_bnd (x4 &&& (15 : Int32)) fun v14 =>
  mb_bnd (x4 - v14) fun v15 =>
  if v11 = (0 : Int32) then
    mM_followFact_b72  x1 x2 x3 x4 v10 v11 v12 v13 v14 v15 s
  else
    if v11 = (1 : Int32) then
      mM_followFact_b72  x1 x2 x3 x4 v10 v11 v12 v13 v14 v15 s
    else
      if v11 < (3 : Int32) then
        mM_followFact_b76  x1 x2 x3 x4 v10 v11 v12 v13 v14 v15 s
      else
        if (5 : Int32) < v11 then
          mM_followFact_b76  x1 x2 x3 x4 v10 v11 v12 v13 v14 v15 s
        else
          mM_followFact_b72  x1 x2 x3 x4 v10 v11 v12 v13 v14 v15 s
def mM_follow_b113   (s : mb_S) : Option (Unit × mb_S) :=
  some ((), s)
def mM_follow_b97  (x1 : Int32) (x2 : Int32) (x3 : Int32) (x4 : Int32) (x6 : Int32) (s : mb_S) : Option (Unit × mb_S) :=
  if x6 = (10 : Int32) then
    mM_follow_b113  s
  else
    mb_cal (mM_followFact x1 x2 x3 x4 s) fun _u s1 =>
    mM_follow_b113  s1
def mM_follow (x1 : Int32) (x2 : Int32) (x3 : Int32) (x4 : Int32) (s : mb_S) : Option (Unit × mb_S) :=
  mb_bnd (((12 : Int32) * x1) + x2) fun v2 =>
  mb_ld (mb_I s 1) 72 v2 fun v3 =>
  if v3 = (7 : Int32) then
    mb_cal (mM_callFacts x1 x2 x3 x4 s) fun _u s9 =>
    mM_follow_b113  s9
  else
    if v3 = (10 : Int32) then
      mM_follow_b97  x1 x2 x3 x4 v3 s
    else
      if x4 = (64 : Int32) then
        mb_cal (mM_onwards x1 x2 x3 (64 : Int32) s) fun _u s4 =>
        if v3 = (1 : Int32) then
          mb_cal (mM_before (1 : Int32) x1 x2 s4) fun v5 s6 =>
          mb_ld (mb_I s6 2) 72 v2 fun v7 =>
          mb_cal (mM_onwards x1 x2 x3 (((16 : Int32) * v5) + v7) s6) fun _u s8 =>
          mM_follow_b113  s8
        else
          mM_follow_b113  s4
      else
        mM_follow_b97  x1 x2 x3 x4 v3 s
def mM_isEntry_b35  (y0 : Int32) (s : mb_S) : Option (Int32 × mb_S) :=
  mb_retZ y0 s
def mM_isEntry (x1 : Int32) (x2 : Int32) (s : mb_S) : Option (Int32 × mb_S) :=
  if x2 = (64 : Int32) then
    mb_ld (mb_I s 12) 6 x1 fun v2 =>
    mM_isEntry_b35  v2 s
  else
    mb_ldL (mb_L s 1) 6 x1 fun v1 =>
    if (lg_cmp ((v1 >>> (Int32.toInt64 x2 &&& 63)) &&& (1 : Int64)) (1 : Int64)) = (0 : Int32) then
      mM_isEntry_b35  (1 : Int32) s
    else
      mM_isEntry_b35  (0 : Int32) s
def mM_allFrom_b111 (k27 : Int32 → Int32 → Int32 → mb_S → Option (Unit × mb_S)) (k83 : Int32 → Int32 → Int32 → Int64 → Int32 → mb_S → Option (Unit × mb_S)) (x1 : Int32) (x2 : Int32) (x3 : Int32) (x4 : Int64) (x6 : Int32) (s : mb_S) : Option (Unit × mb_S) :=
  mb_bnd (x6 + (1 : Int32)) fun v1 =>
  k83 x1 x2 x3 x4 v1 s
def mM_allFrom_l83 (k27 : Int32 → Int32 → Int32 → mb_S → Option (Unit × mb_S)) : Nat → Int32 → Int32 → Int32 → Int64 → Int32 → mb_S → Option (Unit × mb_S)
  | 0 => fun _ _ _ _ _ _ => none
  | n + 1 => fun x1 x2 x3 x4 x6 s =>
    if (64 : Int32) ≤ x6 then
      mb_bnd (x3 + (1 : Int32)) fun v2 =>
      k27 x1 x2 v2 s
    else
      if (lg_cmp ((x4 >>> (Int32.toInt64 x6 &&& 63)) &&& (1 : Int64)) (1 : Int64)) = (0 : Int32) then
        mb_cal (mM_follow x1 x3 x2 x6 s) fun _u s3 =>
        mM_allFrom_b111 k27 (mM_allFrom_l83 k27 n) x1 x2 x3 x4 x6 s3
      else
        mM_allFrom_b111 k27 (mM_allFrom_l83 k27 n) x1 x2 x3 x4 x6 s
theorem mM_allFrom_l83_s (k27 : Int32 → Int32 → Int32 → mb_S → Option (Unit × mb_S)) (n : Nat) (x1 : Int32) (x2 : Int32) (x3 : Int32) (x4 : Int64) (x6 : Int32) (s : mb_S) : mM_allFrom_l83 k27 (n + 1) x1 x2 x3 x4 x6 s =
    if (64 : Int32) ≤ x6 then
      mb_bnd (x3 + (1 : Int32)) fun v2 =>
      k27 x1 x2 v2 s
    else
      if (lg_cmp ((x4 >>> (Int32.toInt64 x6 &&& 63)) &&& (1 : Int64)) (1 : Int64)) = (0 : Int32) then
        mb_cal (mM_follow x1 x3 x2 x6 s) fun _u s3 =>
        mM_allFrom_b111 k27 (mM_allFrom_l83 k27 n) x1 x2 x3 x4 x6 s3
      else
        mM_allFrom_b111 k27 (mM_allFrom_l83 k27 n) x1 x2 x3 x4 x6 s
  := rfl
def mM_allFrom_b66 (k27 : Int32 → Int32 → Int32 → mb_S → Option (Unit × mb_S)) (x1 : Int32) (x2 : Int32) (x3 : Int32) (s : mb_S) : Option (Unit × mb_S) :=
  mb_cal (mM_cellOf x1 x3 x2 s) fun v4 s5 =>
  mb_ldL (mb_L s5 0) 5070 v4 fun v6 =>
  mM_allFrom_l83 k27 mb_fuel x1 x2 x3 v6 (0 : Int32) s5
def mM_allFrom_l27  : Nat → Int32 → Int32 → Int32 → mb_S → Option (Unit × mb_S)
  | 0 => fun _ _ _ _ => none
  | n + 1 => fun x1 x2 x3 s =>
    mb_ld (mb_I s 0) 6 x1 fun v7 =>
    if v7 ≤ x3 then
      some ((), s)
    else
      if x2 = (64 : Int32) then
        mb_ld (mb_I s 11) 78 (((13 : Int32) * x1) + x3) fun v8 =>
        if v8 = (0 : Int32) then
          mM_allFrom_b66 (mM_allFrom_l27  n) x1 x2 x3 s
        else
          mb_cal (mM_follow x1 x3 x2 (64 : Int32) s) fun _u s9 =>
          mM_allFrom_b66 (mM_allFrom_l27  n) x1 x2 x3 s9
      else
        mM_allFrom_b66 (mM_allFrom_l27  n) x1 x2 x3 s
theorem mM_allFrom_l27_s  (n : Nat) (x1 : Int32) (x2 : Int32) (x3 : Int32) (s : mb_S) : mM_allFrom_l27  (n + 1) x1 x2 x3 s =
    mb_ld (mb_I s 0) 6 x1 fun v7 =>
    if v7 ≤ x3 then
      some ((), s)
    else
      if x2 = (64 : Int32) then
        mb_ld (mb_I s 11) 78 (((13 : Int32) * x1) + x3) fun v8 =>
        if v8 = (0 : Int32) then
          mM_allFrom_b66 (mM_allFrom_l27  n) x1 x2 x3 s
        else
          mb_cal (mM_follow x1 x3 x2 (64 : Int32) s) fun _u s9 =>
          mM_allFrom_b66 (mM_allFrom_l27  n) x1 x2 x3 s9
      else
        mM_allFrom_b66 (mM_allFrom_l27  n) x1 x2 x3 s
  := rfl
def mM_allFrom_b25  (x1 : Int32) (x2 : Int32) (s : mb_S) : Option (Unit × mb_S) :=
  mM_allFrom_l27  mb_fuel x1 x2 (0 : Int32) s
def mM_allFrom (x1 : Int32) (x2 : Int32) (s : mb_S) : Option (Unit × mb_S) :=
  if x2 = (64 : Int32) then
    mb_cal (mM_putZero x1 (0 : Int32) s) fun _u s11 =>
    mM_allFrom_b25  x1 x2 s11
  else
    mb_cal (mM_put x1 (0 : Int32) x2 ((1 : Int64) <<< (Int32.toInt64 x2 &&& 63)) s) fun _u s10 =>
    mM_allFrom_b25  x1 x2 s10
def mM_workFacts_b153   (s : mb_S) : Option (Unit × mb_S) :=
  some ((), s)
def mM_workFacts_b135 (k86 : Int32 → mb_S → Option (Unit × mb_S)) (k106 : Int32 → Int32 → mb_S → Option (Unit × mb_S)) (k114 : Int32 → Int32 → Int32 → mb_S → Option (Unit × mb_S)) (x1 : Int32) (x2 : Int32) (x3 : Int32) (s : mb_S) : Option (Unit × mb_S) :=
  mb_bnd (x3 + (1 : Int32)) fun v1 =>
  k114 x1 x2 v1 s
def mM_workFacts_l114 (k86 : Int32 → mb_S → Option (Unit × mb_S)) (k106 : Int32 → Int32 → mb_S → Option (Unit × mb_S)) : Nat → Int32 → Int32 → Int32 → mb_S → Option (Unit × mb_S)
  | 0 => fun _ _ _ _ => none
  | n + 1 => fun x1 x2 x3 s =>
    if (64 : Int32) < x3 then
      mb_bnd (x2 + (1 : Int32)) fun v2 =>
      k106 x1 v2 s
    else
      mb_cal (mM_isEntry x2 x3 s) fun v3 s4 =>
      if v3 = (0 : Int32) then
        mM_workFacts_b135 k86 k106 (mM_workFacts_l114 k86 k106 n) x1 x2 x3 s4
      else
        mb_cal (mM_allFrom x2 x3 s4) fun _u s5 =>
        mM_workFacts_b135 k86 k106 (mM_workFacts_l114 k86 k106 n) x1 x2 x3 s5
theorem mM_workFacts_l114_s (k86 : Int32 → mb_S → Option (Unit × mb_S)) (k106 : Int32 → Int32 → mb_S → Option (Unit × mb_S)) (n : Nat) (x1 : Int32) (x2 : Int32) (x3 : Int32) (s : mb_S) : mM_workFacts_l114 k86 k106 (n + 1) x1 x2 x3 s =
    if (64 : Int32) < x3 then
      mb_bnd (x2 + (1 : Int32)) fun v2 =>
      k106 x1 v2 s
    else
      mb_cal (mM_isEntry x2 x3 s) fun v3 s4 =>
      if v3 = (0 : Int32) then
        mM_workFacts_b135 k86 k106 (mM_workFacts_l114 k86 k106 n) x1 x2 x3 s4
      else
        mb_cal (mM_allFrom x2 x3 s4) fun _u s5 =>
        mM_workFacts_b135 k86 k106 (mM_workFacts_l114 k86 k106 n) x1 x2 x3 s5
  := rfl
def mM_workFacts_l106 (k86 : Int32 → mb_S → Option (Unit × mb_S)) : Nat → Int32 → Int32 → mb_S → Option (Unit × mb_S)
  | 0 => fun _ _ _ => none
  | n + 1 => fun x1 x2 s =>
    if (6 : Int32) ≤ x2 then
      mb_bnd (x1 + (1 : Int32)) fun v6 =>
      k86 v6 s
    else
      mM_workFacts_l114 k86 (mM_workFacts_l106 k86 n) mb_fuel x1 x2 (0 : Int32) s
theorem mM_workFacts_l106_s (k86 : Int32 → mb_S → Option (Unit × mb_S)) (n : Nat) (x1 : Int32) (x2 : Int32) (s : mb_S) : mM_workFacts_l106 k86 (n + 1) x1 x2 s =
    if (6 : Int32) ≤ x2 then
      mb_bnd (x1 + (1 : Int32)) fun v6 =>
      k86 v6 s
    else
      mM_workFacts_l114 k86 (mM_workFacts_l106 k86 n) mb_fuel x1 x2 (0 : Int32) s
  := rfl
def mM_workFacts_l86  : Nat → Int32 → mb_S → Option (Unit × mb_S)
  | 0 => fun _ _ => none
  | n + 1 => fun x1 s =>
    if (1000000 : Int32) ≤ x1 then
      mM_workFacts_b153  s
    else
      if (mb_F s 1) = (0 : Int32) then
        mM_workFacts_b153  s
      else
        mb_putZ s 1 (0 : Int32) fun s7 =>
        mM_workFacts_l106 (mM_workFacts_l86  n) mb_fuel x1 (0 : Int32) s7
theorem mM_workFacts_l86_s  (n : Nat) (x1 : Int32) (s : mb_S) : mM_workFacts_l86  (n + 1) x1 s =
    if (1000000 : Int32) ≤ x1 then
      mM_workFacts_b153  s
    else
      if (mb_F s 1) = (0 : Int32) then
        mM_workFacts_b153  s
      else
        mb_putZ s 1 (0 : Int32) fun s7 =>
        mM_workFacts_l106 (mM_workFacts_l86  n) mb_fuel x1 (0 : Int32) s7
  := rfl
def mM_workFacts_b72 (k45 : Int32 → mb_S → Option (Unit × mb_S)) (x1 : Int32) (y0 : Int32) (y1 : Int32) (s : mb_S) : Option (Unit × mb_S) :=
  mb_stZ s 12 6 y1 y0 fun s8 =>
  mb_bnd (x1 + (1 : Int32)) fun v9 =>
  k45 v9 s8
def mM_workFacts_l45  : Nat → Int32 → mb_S → Option (Unit × mb_S)
  | 0 => fun _ _ => none
  | n + 1 => fun x1 s =>
    if (6 : Int32) ≤ x1 then
      mb_putZ s 1 (1 : Int32) fun s10 =>
      mM_workFacts_l86  mb_fuel (0 : Int32) s10
    else
      mb_stL s 1 6 x1 (0 : Int64) fun s11 =>
      if x1 = (0 : Int32) then
        mM_workFacts_b72 (mM_workFacts_l45  n) x1 (1 : Int32) x1 s11
      else
        mM_workFacts_b72 (mM_workFacts_l45  n) x1 (0 : Int32) x1 s11
theorem mM_workFacts_l45_s  (n : Nat) (x1 : Int32) (s : mb_S) : mM_workFacts_l45  (n + 1) x1 s =
    if (6 : Int32) ≤ x1 then
      mb_putZ s 1 (1 : Int32) fun s10 =>
      mM_workFacts_l86  mb_fuel (0 : Int32) s10
    else
      mb_stL s 1 6 x1 (0 : Int64) fun s11 =>
      if x1 = (0 : Int32) then
        mM_workFacts_b72 (mM_workFacts_l45  n) x1 (1 : Int32) x1 s11
      else
        mM_workFacts_b72 (mM_workFacts_l45  n) x1 (0 : Int32) x1 s11
  := rfl
def mM_workFacts_l24  : Nat → Int32 → mb_S → Option (Unit × mb_S)
  | 0 => fun _ _ => none
  | n + 1 => fun x1 s =>
    if (78 : Int32) ≤ x1 then
      mM_workFacts_l45  mb_fuel (0 : Int32) s
    else
      mb_stZ s 11 78 x1 (0 : Int32) fun s12 =>
      mb_bnd (x1 + (1 : Int32)) fun v13 =>
      (mM_workFacts_l24  n) v13 s12
theorem mM_workFacts_l24_s  (n : Nat) (x1 : Int32) (s : mb_S) : mM_workFacts_l24  (n + 1) x1 s =
    if (78 : Int32) ≤ x1 then
      mM_workFacts_l45  mb_fuel (0 : Int32) s
    else
      mb_stZ s 11 78 x1 (0 : Int32) fun s12 =>
      mb_bnd (x1 + (1 : Int32)) fun v13 =>
      (mM_workFacts_l24  n) v13 s12
  := rfl
def mM_workFacts_l2  : Nat → Int32 → mb_S → Option (Unit × mb_S)
  | 0 => fun _ _ => none
  | n + 1 => fun x1 s =>
    if (5070 : Int32) ≤ x1 then
      mM_workFacts_l24  mb_fuel (0 : Int32) s
    else
      mb_stL s 0 5070 x1 (0 : Int64) fun s14 =>
      mb_bnd (x1 + (1 : Int32)) fun v15 =>
      (mM_workFacts_l2  n) v15 s14
theorem mM_workFacts_l2_s  (n : Nat) (x1 : Int32) (s : mb_S) : mM_workFacts_l2  (n + 1) x1 s =
    if (5070 : Int32) ≤ x1 then
      mM_workFacts_l24  mb_fuel (0 : Int32) s
    else
      mb_stL s 0 5070 x1 (0 : Int64) fun s14 =>
      mb_bnd (x1 + (1 : Int32)) fun v15 =>
      (mM_workFacts_l2  n) v15 s14
  := rfl
def mM_workFacts  (s : mb_S) : Option (Unit × mb_S) :=
  mM_workFacts_l2  mb_fuel (0 : Int32) s
def mM_bits_l4  : Nat → Int64 → Int32 → Int32 → Option Int32
  | 0 => fun _ _ _ => none
  | n + 1 => fun x0 x2 x3 =>
    if (64 : Int32) ≤ x3 then
      some x2
    else
      mb_bnd (x2 + (Int64.toInt32 ((x0 >>> (Int32.toInt64 x3 &&& 63)) &&& (1 : Int64)))) fun v1 =>
      mb_bnd (x3 + (1 : Int32)) fun v2 =>
      (mM_bits_l4  n) x0 v1 v2
theorem mM_bits_l4_s  (n : Nat) (x0 : Int64) (x2 : Int32) (x3 : Int32) : mM_bits_l4  (n + 1) x0 x2 x3 =
    if (64 : Int32) ≤ x3 then
      some x2
    else
      mb_bnd (x2 + (Int64.toInt32 ((x0 >>> (Int32.toInt64 x3 &&& 63)) &&& (1 : Int64)))) fun v1 =>
      mb_bnd (x3 + (1 : Int32)) fun v2 =>
      (mM_bits_l4  n) x0 v1 v2
  := rfl
def mM_bits (x0 : Int64) : Option Int32 :=
  mM_bits_l4  mb_fuel x0 (0 : Int32) (0 : Int32)
def mM_analyse_b114  (y0 : Int32) (s : mb_S) : Option (Int32 × mb_S) :=
  some (y0, s)
def mM_analyse_b98  (x2 : Int32) (y0 : Int32) (s : mb_S) : Option (Int32 × mb_S) :=
  mb_putF s 0 y0 fun s1 =>
  if (mb_F s1 0) = (1 : Int32) then
    mM_analyse_b114  x2 s1
  else
    mM_analyse_b114  (-1 : Int32) s1
def mM_analyse_b79 (k58 : Int32 → Int32 → Int32 → mb_S → Option (Int32 × mb_S)) (x1 : Int32) (x3 : Int32) (y0 : Int32) (y1 : Int32) (s : mb_S) : Option (Int32 × mb_S) :=
  mb_bnd (y1 + y0) fun v2 =>
  mb_bnd (x3 + (1 : Int32)) fun v3 =>
  k58 x1 v2 v3 s
def mM_analyse_l58  : Nat → Int32 → Int32 → Int32 → mb_S → Option (Int32 × mb_S)
  | 0 => fun _ _ _ _ => none
  | n + 1 => fun x1 x2 x3 s =>
    if (78 : Int32) ≤ x3 then
      if x1 < x2 then
        mM_analyse_b98  x2 (2 : Int32) s
      else
        mM_analyse_b98  x2 (1 : Int32) s
    else
      mb_ld (mb_I s 11) 78 x3 fun v4 =>
      if v4 = (0 : Int32) then
        mM_analyse_b79 (mM_analyse_l58  n) x1 x3 (0 : Int32) x2 s
      else
        mM_analyse_b79 (mM_analyse_l58  n) x1 x3 (1 : Int32) x2 s
theorem mM_analyse_l58_s  (n : Nat) (x1 : Int32) (x2 : Int32) (x3 : Int32) (s : mb_S) : mM_analyse_l58  (n + 1) x1 x2 x3 s =
    if (78 : Int32) ≤ x3 then
      if x1 < x2 then
        mM_analyse_b98  x2 (2 : Int32) s
      else
        mM_analyse_b98  x2 (1 : Int32) s
    else
      mb_ld (mb_I s 11) 78 x3 fun v4 =>
      if v4 = (0 : Int32) then
        mM_analyse_b79 (mM_analyse_l58  n) x1 x3 (0 : Int32) x2 s
      else
        mM_analyse_b79 (mM_analyse_l58  n) x1 x3 (1 : Int32) x2 s
  := rfl
def mM_analyse_b48 (k16 : Int32 → Int32 → Int32 → mb_S → Option (Int32 × mb_S)) (x1 : Int32) (x3 : Int32) (y0 : Int32) (y1 : Int32) (s : mb_S) : Option (Int32 × mb_S) :=
  mb_bnd (y1 + y0) fun v5 =>
  mb_bnd (x3 + (1 : Int32)) fun v6 =>
  k16 x1 v5 v6 s
def mM_analyse_l16  : Nat → Int32 → Int32 → Int32 → mb_S → Option (Int32 × mb_S)
  | 0 => fun _ _ _ _ => none
  | n + 1 => fun x1 x2 x3 s =>
    if (5070 : Int32) ≤ x3 then
      mM_analyse_l58  mb_fuel x1 x2 (0 : Int32) s
    else
      mb_ldL (mb_L s 0) 5070 x3 fun v7 =>
      if (lg_cmp v7 (0 : Int64)) = (0 : Int32) then
        mM_analyse_b48 (mM_analyse_l16  n) x1 x3 (0 : Int32) x2 s
      else
        mb_ldL (mb_L s 0) 5070 x3 fun v8 =>
        mb_cal0 (mM_bits v8) fun v9 =>
        mM_analyse_b48 (mM_analyse_l16  n) x1 x3 v9 x2 s
theorem mM_analyse_l16_s  (n : Nat) (x1 : Int32) (x2 : Int32) (x3 : Int32) (s : mb_S) : mM_analyse_l16  (n + 1) x1 x2 x3 s =
    if (5070 : Int32) ≤ x3 then
      mM_analyse_l58  mb_fuel x1 x2 (0 : Int32) s
    else
      mb_ldL (mb_L s 0) 5070 x3 fun v7 =>
      if (lg_cmp v7 (0 : Int64)) = (0 : Int32) then
        mM_analyse_b48 (mM_analyse_l16  n) x1 x3 (0 : Int32) x2 s
      else
        mb_ldL (mb_L s 0) 5070 x3 fun v8 =>
        mb_cal0 (mM_bits v8) fun v9 =>
        mM_analyse_b48 (mM_analyse_l16  n) x1 x3 v9 x2 s
  := rfl
def mM_analyse (x1 : Int32) (s : mb_S) : Option (Int32 × mb_S) :=
  mb_cal (mM_workPoints  s) fun _u s10 =>
  mb_cal (mM_workTargets  s10) fun _u s11 =>
  mb_cal (mM_workFacts  s11) fun _u s12 =>
  mM_analyse_l16  mb_fuel x1 (0 : Int32) (0 : Int32) s12
def mM_verdict  (s : mb_S) : Option (Int32 × mb_S) :=
  some (mb_F s 0, s)
def mM_may_b123 (k74 : Int32 → Int32 → Int32 → Int32 → Int32 → Int32 → mb_S → Option (Int32 × mb_S)) (x1 : Int32) (x2 : Int32) (x3 : Int32) (x4 : Int32) (x7 : Int32) (y0 : Int32) (s : mb_S) : Option (Int32 × mb_S) :=
  mb_bnd (x7 + (1 : Int32)) fun v1 =>
  k74 x1 x2 x3 x4 y0 v1 s
def mM_may_b118 (k74 : Int32 → Int32 → Int32 → Int32 → Int32 → Int32 → mb_S → Option (Int32 × mb_S)) (x1 : Int32) (x2 : Int32) (x3 : Int32) (x4 : Int32) (x7 : Int32) (s : mb_S) : Option (Int32 × mb_S) :=
  mM_may_b123 k74 x1 x2 x3 x4 x7 (1 : Int32) s
def mM_may_l74  : Nat → Int32 → Int32 → Int32 → Int32 → Int32 → Int32 → mb_S → Option (Int32 × mb_S)
  | 0 => fun _ _ _ _ _ _ _ => none
  | n + 1 => fun x1 x2 x3 x4 x6 x7 s =>
    if (64 : Int32) < x7 then
      mb_retZ x6 s
    else
      mb_cal (mM_cellOf x1 x2 x7 s) fun v2 s3 =>
      mb_ldL (mb_L s3 0) 5070 v2 fun v4 =>
      if x6 = (0 : Int32) then
        if (lg_cmp ((v4 >>> (Int32.toInt64 (((16 : Int32) * x4) + x3) &&& 63)) &&& (1 : Int64)) (1 : Int64)) = (0 : Int32) then
          mM_may_b118 (mM_may_l74  n) x1 x2 x3 x4 x7 s3
        else
          mM_may_b123 (mM_may_l74  n) x1 x2 x3 x4 x7 (0 : Int32) s3
      else
        mM_may_b118 (mM_may_l74  n) x1 x2 x3 x4 x7 s3
theorem mM_may_l74_s  (n : Nat) (x1 : Int32) (x2 : Int32) (x3 : Int32) (x4 : Int32) (x6 : Int32) (x7 : Int32) (s : mb_S) : mM_may_l74  (n + 1) x1 x2 x3 x4 x6 x7 s =
    if (64 : Int32) < x7 then
      mb_retZ x6 s
    else
      mb_cal (mM_cellOf x1 x2 x7 s) fun v2 s3 =>
      mb_ldL (mb_L s3 0) 5070 v2 fun v4 =>
      if x6 = (0 : Int32) then
        if (lg_cmp ((v4 >>> (Int32.toInt64 (((16 : Int32) * x4) + x3) &&& 63)) &&& (1 : Int64)) (1 : Int64)) = (0 : Int32) then
          mM_may_b118 (mM_may_l74  n) x1 x2 x3 x4 x7 s3
        else
          mM_may_b123 (mM_may_l74  n) x1 x2 x3 x4 x7 (0 : Int32) s3
      else
        mM_may_b118 (mM_may_l74  n) x1 x2 x3 x4 x7 s3
  := rfl
def mM_may_b66   (s : mb_S) : Option (Int32 × mb_S) :=
  mb_retZ (0 : Int32) s
def mM_may_b27   (s : mb_S) : Option (Int32 × mb_S) :=
  mb_retZ (0 : Int32) s
def mM_may (x1 : Int32) (x2 : Int32) (x3 : Int32) (x4 : Int32) (s : mb_S) : Option (Int32 × mb_S) :=
  if (mb_F s 0) = (1 : Int32) then
    mb_cal0 (mM_within x1 (0 : Int32) (5 : Int32)) fun v5 =>
    if v5 = (0 : Int32) then
      mM_may_b27  s
    else
      mb_cal0 (mM_within x3 (0 : Int32) (15 : Int32)) fun v6 =>
      if v6 = (0 : Int32) then
        mM_may_b27  s
      else
        mb_cal (mM_before (1 : Int32) (6 : Int32) (0 : Int32) s) fun v7 s8 =>
        mb_ld (mb_I s8 0) 6 x1 fun v9 =>
        mb_cal0 (mM_within x2 (0 : Int32) v9) fun v10 =>
        if v10 = (0 : Int32) then
          mM_may_b66  s8
        else
          mb_cal0 (mM_within x4 (0 : Int32) (v7 - (1 : Int32))) fun v11 =>
          if v11 = (0 : Int32) then
            mM_may_b66  s8
          else
            mM_may_l74  mb_fuel x1 x2 x3 x4 (0 : Int32) (0 : Int32) s8
  else
    mM_may_b27  s
def mM_finding_b97 (k8 : Int32 → Int32 → Int32 → Int32 → Int32 → mb_S → Option (Int32 × mb_S)) (x1 : Int32) (x2 : Int32) (x4 : Int32) (x5 : Int32) (y0 : Int32) (y1 : Int32) (s : mb_S) : Option (Int32 × mb_S) :=
  mb_bnd (y1 + y0) fun v1 =>
  mb_bnd (x5 + (1 : Int32)) fun v2 =>
  k8 x1 x2 v1 x4 v2 s
def mM_finding_b86 (k8 : Int32 → Int32 → Int32 → Int32 → Int32 → mb_S → Option (Int32 × mb_S)) (x1 : Int32) (x2 : Int32) (x3 : Int32) (x4 : Int32) (x5 : Int32) (x7 : Int32) (s : mb_S) : Option (Int32 × mb_S) :=
  if x7 = (0 : Int32) then
    mM_finding_b97 k8 x1 x2 x4 x5 (0 : Int32) x3 s
  else
    mM_finding_b97 k8 x1 x2 x4 x5 (1 : Int32) x3 s
def mM_finding_b53 (k8 : Int32 → Int32 → Int32 → Int32 → Int32 → mb_S → Option (Int32 × mb_S)) (x1 : Int32) (x2 : Int32) (x3 : Int32) (x4 : Int32) (x5 : Int32) (x6 : Int32) (y0 : Int32) (s : mb_S) : Option (Int32 × mb_S) :=
  if y0 = (0 : Int32) then
    mM_finding_b86 k8 x1 x2 x3 x4 x5 y0 s
  else
    if x3 = x2 then
      mb_ld (mb_I s 2) 72 x5 fun v3 =>
      mb_cal (mM_may x6 (x5 - x5 / (12 : Int32) * (12 : Int32)) v3 x1 s) fun v4 s5 =>
      mM_finding_b86 k8 x1 x2 x3 v4 x5 y0 s5
    else
      mM_finding_b86 k8 x1 x2 x3 x4 x5 y0 s
def mM_finding_b52 (k8 : Int32 → Int32 → Int32 → Int32 → Int32 → mb_S → Option (Int32 × mb_S)) (x1 : Int32) (x2 : Int32) (x3 : Int32) (x4 : Int32) (x5 : Int32) (x6 : Int32) (s : mb_S) : Option (Int32 × mb_S) :=
  mM_finding_b53 k8 x1 x2 x3 x4 x5 x6 (0 : Int32) s
def mM_finding_l8  : Nat → Int32 → Int32 → Int32 → Int32 → Int32 → mb_S → Option (Int32 × mb_S)
  | 0 => fun _ _ _ _ _ _ => none
  | n + 1 => fun x1 x2 x3 x4 x5 s =>
    if (72 : Int32) ≤ x5 then
      mb_retZ x4 s
    else
      mb_bnd (x5 / (12 : Int32)) fun v6 =>
      mb_ld (mb_I s 0) 6 v6 fun v7 =>
      if v7 ≤ (x5 - x5 / (12 : Int32) * (12 : Int32)) then
        mM_finding_b52 (mM_finding_l8  n) x1 x2 x3 x4 x5 v6 s
      else
        mb_ld (mb_I s 1) 72 x5 fun v8 =>
        if v8 = (2 : Int32) then
          mM_finding_b53 (mM_finding_l8  n) x1 x2 x3 x4 x5 v6 (1 : Int32) s
        else
          mM_finding_b52 (mM_finding_l8  n) x1 x2 x3 x4 x5 v6 s
theorem mM_finding_l8_s  (n : Nat) (x1 : Int32) (x2 : Int32) (x3 : Int32) (x4 : Int32) (x5 : Int32) (s : mb_S) : mM_finding_l8  (n + 1) x1 x2 x3 x4 x5 s =
    if (72 : Int32) ≤ x5 then
      mb_retZ x4 s
    else
      mb_bnd (x5 / (12 : Int32)) fun v6 =>
      mb_ld (mb_I s 0) 6 v6 fun v7 =>
      if v7 ≤ (x5 - x5 / (12 : Int32) * (12 : Int32)) then
        mM_finding_b52 (mM_finding_l8  n) x1 x2 x3 x4 x5 v6 s
      else
        mb_ld (mb_I s 1) 72 x5 fun v8 =>
        if v8 = (2 : Int32) then
          mM_finding_b53 (mM_finding_l8  n) x1 x2 x3 x4 x5 v6 (1 : Int32) s
        else
          mM_finding_b52 (mM_finding_l8  n) x1 x2 x3 x4 x5 v6 s
  := rfl
def mM_finding (x1 : Int32) (x2 : Int32) (s : mb_S) : Option (Int32 × mb_S) :=
  mM_finding_l8  mb_fuel x1 x2 (0 : Int32) (0 : Int32) (0 : Int32) s
def mM_entries_b42  (y0 : Int32) (y1 : Int32) (s : mb_S) : Option (Int32 × mb_S) :=
  some (y1 + y0, s)
def mM_entries_b17   (s : mb_S) : Option (Int32 × mb_S) :=
  some ((-1 : Int32), s)
def mM_entries (x1 : Int32) (s : mb_S) : Option (Int32 × mb_S) :=
  if (mb_F s 0) = (1 : Int32) then
    mb_cal0 (mM_within x1 (0 : Int32) (5 : Int32)) fun v1 =>
    if v1 = (0 : Int32) then
      mM_entries_b17  s
    else
      mb_ldL (mb_L s 1) 6 x1 fun v2 =>
      mb_cal0 (mM_bits v2) fun v3 =>
      mb_ld (mb_I s 12) 6 x1 fun v4 =>
      if v4 = (0 : Int32) then
        mM_entries_b42  (0 : Int32) v3 s
      else
        mM_entries_b42  (1 : Int32) v3 s
  else
    mM_entries_b17  s
def mM_points_b40  (y0 : Int32) (s : mb_S) : Option (Int32 × mb_S) :=
  some (y0, s)
def mM_points_b39   (s : mb_S) : Option (Int32 × mb_S) :=
  mM_points_b40  (-1 : Int32) s
def mM_points (x1 : Int32) (x2 : Int32) (s : mb_S) : Option (Int32 × mb_S) :=
  if (mb_F s 0) = (1 : Int32) then
    mb_cal0 (mM_within x1 (0 : Int32) (5 : Int32)) fun v1 =>
    if v1 = (0 : Int32) then
      mM_points_b39  s
    else
      mb_cal0 (mM_within x2 (0 : Int32) (3 : Int32)) fun v2 =>
      if v2 = (0 : Int32) then
        mM_points_b39  s
      else
        mb_ld (mb_I s 7) 24 (((4 : Int32) * x1) + x2) fun v3 =>
        mM_points_b40  v3 s
  else
    mM_points_b39  s
def mM_cell_b40  (y0 : Int32) (s : mb_S) : Option (Int32 × mb_S) :=
  some (y0, s)
def mM_cell_b39   (s : mb_S) : Option (Int32 × mb_S) :=
  mM_cell_b40  (-1 : Int32) s
def mM_cell (x1 : Int32) (x2 : Int32) (s : mb_S) : Option (Int32 × mb_S) :=
  if (mb_F s 0) = (1 : Int32) then
    mb_cal0 (mM_within x1 (0 : Int32) (5 : Int32)) fun v1 =>
    if v1 = (0 : Int32) then
      mM_cell_b39  s
    else
      mb_cal0 (mM_within x2 (0 : Int32) (1 : Int32)) fun v2 =>
      if v2 = (0 : Int32) then
        mM_cell_b39  s
      else
        mb_ld (mb_I s 8) 12 (((2 : Int32) * x1) + x2) fun v3 =>
        mM_cell_b40  v3 s
  else
    mM_cell_b39  s
def mM_assign (x1 : Int32) (x2 : Int32) (x3 : Int32) (s : mb_S) : Option (Unit × mb_S) :=
  mb_stI s 16 24 (((4 : Int32) * ((mb_F s 6) - (1 : Int32))) + x1) x2 fun s1 =>
  mb_stI s1 17 24 (((4 : Int32) * ((mb_F s1 6) - (1 : Int32))) + x1) x3 fun s2 =>
  some ((), s2)
def mM_enter_b62  (x1 : Int32) (x4 : Int32) (x5 : Int32) (x6 : Int32) (y0 : Int32) (s : mb_S) : Option (Unit × mb_S) :=
  mb_stI s 14 6 (mb_F s 6) x1 fun s1 =>
  mb_stI s1 15 6 (mb_F s1 6) (0 : Int32) fun s2 =>
  mb_putF s2 6 ((mb_F s2 6) + (1 : Int32)) fun s3 =>
  mb_cal (mM_assign (0 : Int32) x4 x5 s3) fun _u s4 =>
  mb_cal (mM_assign (1 : Int32) x6 y0 s4) fun _u s5 =>
  mb_cal (mM_assign (2 : Int32) (-1 : Int32) (0 : Int32) s5) fun _u s6 =>
  mb_cal (mM_assign (3 : Int32) (-1 : Int32) (0 : Int32) s6) fun _u s7 =>
  some ((), s7)
def mM_enter_b46  (x1 : Int32) (x3 : Int32) (x4 : Int32) (x5 : Int32) (y0 : Int32) (s : mb_S) : Option (Unit × mb_S) :=
  if (0 : Int32) ≤ x3 then
    mb_ld (mb_I s 17) 24 x3 fun v8 =>
    mM_enter_b62  x1 x4 x5 y0 v8 s
  else
    mM_enter_b62  x1 x4 x5 y0 (0 : Int32) s
def mM_enter_b30  (x1 : Int32) (x3 : Int32) (x4 : Int32) (y0 : Int32) (s : mb_S) : Option (Unit × mb_S) :=
  if (0 : Int32) ≤ x3 then
    mb_ld (mb_I s 16) 24 x3 fun v9 =>
    mM_enter_b46  x1 x3 x4 y0 v9 s
  else
    mM_enter_b46  x1 x3 x4 y0 (-1 : Int32) s
def mM_enter_b14  (x1 : Int32) (x2 : Int32) (x3 : Int32) (y0 : Int32) (s : mb_S) : Option (Unit × mb_S) :=
  if (0 : Int32) ≤ x2 then
    mb_ld (mb_I s 17) 24 x2 fun v10 =>
    mM_enter_b30  x1 x3 y0 v10 s
  else
    mM_enter_b30  x1 x3 y0 (0 : Int32) s
def mM_enter (x1 : Int32) (x2 : Int32) (x3 : Int32) (s : mb_S) : Option (Unit × mb_S) :=
  if (0 : Int32) ≤ x2 then
    mb_ld (mb_I s 16) 24 x2 fun v11 =>
    mM_enter_b14  x1 x2 x3 v11 s
  else
    mM_enter_b14  x1 x2 x3 (-1 : Int32) s
def mM_leave_b121   (s : mb_S) : Option (Unit × mb_S) :=
  some ((), s)
def mM_leave_b47  (x2 : Int32) (y0 : Int32) (s : mb_S) : Option (Unit × mb_S) :=
  mb_putF s 6 ((mb_F s 6) - (1 : Int32)) fun s1 =>
  if (mb_F s1 6) ≤ (0 : Int32) then
    mM_leave_b121  s1
  else
    mb_ld (mb_I s1 14) 6 ((mb_F s1 6) - (1 : Int32)) fun v2 =>
    mb_ld (mb_I s1 15) 6 ((mb_F s1 6) - (1 : Int32)) fun v3 =>
    mb_bnd (((12 : Int32) * v2) + v3) fun v4 =>
    mb_ld (mb_I s1 2) 72 v4 fun v5 =>
    mb_cal (mM_assign v5 x2 y0 s1) fun _u s6 =>
    mb_ld (mb_I s6 15) 6 ((mb_F s6 6) - (1 : Int32)) fun v7 =>
    mb_stI s6 15 6 ((mb_F s6 6) - (1 : Int32)) (v7 + (1 : Int32)) fun s8 =>
    mM_leave_b121  s8
def mM_leave_b23  (x1 : Int32) (y0 : Int32) (s : mb_S) : Option (Unit × mb_S) :=
  if (0 : Int32) ≤ x1 then
    mb_ld (mb_I s 17) 24 (((4 : Int32) * ((mb_F s 6) - (1 : Int32))) + x1) fun v9 =>
    mM_leave_b47  y0 v9 s
  else
    mM_leave_b47  y0 (0 : Int32) s
def mM_leave (x1 : Int32) (s : mb_S) : Option (Unit × mb_S) :=
  if (0 : Int32) ≤ x1 then
    mb_ld (mb_I s 16) 24 (((4 : Int32) * ((mb_F s 6) - (1 : Int32))) + x1) fun v10 =>
    mM_leave_b23  x1 v10 s
  else
    mM_leave_b23  x1 (-1 : Int32) s
def mM_hindrance_b160  (y0 : Int32) (s : mb_S) : Option (Int32 × mb_S) :=
  some (y0, s)
def mM_hindrance_b159   (s : mb_S) : Option (Int32 × mb_S) :=
  mM_hindrance_b160  (0 : Int32) s
def mM_hindrance_b140  (x2 : Int32) (s : mb_S) : Option (Int32 × mb_S) :=
  if x2 = (7 : Int32) then
    if (mb_F s 6) = (6 : Int32) then
      mM_hindrance_b160  (4 : Int32) s
    else
      mM_hindrance_b159  s
  else
    mM_hindrance_b159  s
def mM_hindrance_b138   (s : mb_S) : Option (Int32 × mb_S) :=
  some ((3 : Int32), s)
def mM_hindrance_b101  (x1 : Int32) (x2 : Int32) (y0 : Int32) (y1 : Int32) (s : mb_S) : Option (Int32 × mb_S) :=
  mb_ld (mb_I s 16) 24 (y1 + y0) fun v1 =>
  if v1 < (0 : Int32) then
    mM_hindrance_b138  s
  else
    if x2 = (7 : Int32) then
      mb_ld (mb_I s 18) 12 v1 fun v2 =>
      mb_ld (mb_I s 4) 72 x1 fun v3 =>
      mb_cal (mM_target v2 (v3 / (4 : Int32)) s) fun v4 s5 =>
      if (0 : Int32) ≤ v4 then
        mM_hindrance_b140  x2 s5
      else
        mM_hindrance_b138  s5
    else
      mM_hindrance_b140  x2 s
def mM_hindrance_b73   (s : mb_S) : Option (Int32 × mb_S) :=
  some ((0 : Int32), s)
def mM_hindrance_b61  (y0 : Int32) (s : mb_S) : Option (Int32 × mb_S) :=
  some (y0, s)
def mM_hindrance  (s : mb_S) : Option (Int32 × mb_S) :=
  mb_ld (mb_I s 14) 6 ((mb_F s 6) - (1 : Int32)) fun v6 =>
  mb_ld (mb_I s 15) 6 ((mb_F s 6) - (1 : Int32)) fun v7 =>
  mb_bnd (((12 : Int32) * v6) + v7) fun v8 =>
  mb_ld (mb_I s 1) 72 v8 fun v9 =>
  mb_bnd ((4 : Int32) * ((mb_F s 6) - (1 : Int32))) fun v10 =>
  if v9 = (0 : Int32) then
    if (mb_F s 3) = (12 : Int32) then
      mM_hindrance_b61  (5 : Int32) s
    else
      mM_hindrance_b61  (0 : Int32) s
  else
    if v9 < (5 : Int32) then
      mM_hindrance_b73  s
    else
      if v9 ≤ (7 : Int32) then
        if v9 = (6 : Int32) then
          mb_ld (mb_I s 2) 72 v8 fun v12 =>
          mM_hindrance_b101  v8 v9 v12 v10 s
        else
          mb_ld (mb_I s 3) 72 v8 fun v11 =>
          mM_hindrance_b101  v8 v9 v11 v10 s
      else
        mM_hindrance_b73  s
def mM_plain_b368   (s : mb_S) : Option (Unit × mb_S) :=
  some ((), s)
def mM_plain_l164  : Nat → Int32 → Int32 → Int32 → Int32 → mb_S → Option (Unit × mb_S)
  | 0 => fun _ _ _ _ _ => none
  | n + 1 => fun x2 x4 x7 x8 s =>
    if (4 : Int32) ≤ x8 then
      mM_plain_b368  s
    else
      mb_ld (mb_I s 13) 16 (((4 : Int32) * x8) + x7) fun v1 =>
      mb_ld (mb_I s 17) 24 (x2 + x4) fun v2 =>
      mb_stI s 13 16 (((4 : Int32) * x8) + x7) (v1 + ((v2 >>> (x8 &&& 31)) &&& (1 : Int32))) fun s3 =>
      mb_bnd (x8 + (1 : Int32)) fun v4 =>
      (mM_plain_l164  n) x2 x4 x7 v4 s3
theorem mM_plain_l164_s  (n : Nat) (x2 : Int32) (x4 : Int32) (x7 : Int32) (x8 : Int32) (s : mb_S) : mM_plain_l164  (n + 1) x2 x4 x7 x8 s =
    if (4 : Int32) ≤ x8 then
      mM_plain_b368  s
    else
      mb_ld (mb_I s 13) 16 (((4 : Int32) * x8) + x7) fun v1 =>
      mb_ld (mb_I s 17) 24 (x2 + x4) fun v2 =>
      mb_stI s 13 16 (((4 : Int32) * x8) + x7) (v1 + ((v2 >>> (x8 &&& 31)) &&& (1 : Int32))) fun s3 =>
      mb_bnd (x8 + (1 : Int32)) fun v4 =>
      (mM_plain_l164  n) x2 x4 x7 v4 s3
  := rfl
def mM_plain_l52  : Nat → Int32 → Int32 → mb_S → Option (Unit × mb_S)
  | 0 => fun _ _ _ => none
  | n + 1 => fun x4 x7 s =>
    if (((2 : Int32) * (mb_F s 3)) + (2 : Int32)) ≤ x7 then
      mb_cal (mM_assign x4 (mb_F s 3) (0 : Int32) s) fun _u s5 =>
      mb_putF s5 3 ((mb_F s5 3) + (1 : Int32)) fun s6 =>
      mM_plain_b368  s6
    else
      mb_stI s 19 24 x7 (-1 : Int32) fun s7 =>
      mb_stI s7 20 24 x7 (0 : Int32) fun s8 =>
      mb_bnd (x7 + (1 : Int32)) fun v9 =>
      (mM_plain_l52  n) x4 v9 s8
theorem mM_plain_l52_s  (n : Nat) (x4 : Int32) (x7 : Int32) (s : mb_S) : mM_plain_l52  (n + 1) x4 x7 s =
    if (((2 : Int32) * (mb_F s 3)) + (2 : Int32)) ≤ x7 then
      mb_cal (mM_assign x4 (mb_F s 3) (0 : Int32) s) fun _u s5 =>
      mb_putF s5 3 ((mb_F s5 3) + (1 : Int32)) fun s6 =>
      mM_plain_b368  s6
    else
      mb_stI s 19 24 x7 (-1 : Int32) fun s7 =>
      mb_stI s7 20 24 x7 (0 : Int32) fun s8 =>
      mb_bnd (x7 + (1 : Int32)) fun v9 =>
      (mM_plain_l52  n) x4 v9 s8
  := rfl
def mM_plain (x1 : Int32) (x2 : Int32) (s : mb_S) : Option (Unit × mb_S) :=
  mb_ld (mb_I s 1) 72 x1 fun v10 =>
  mb_ld (mb_I s 2) 72 x1 fun v11 =>
  mb_ld (mb_I s 3) 72 x1 fun v12 =>
  mb_bnd (x1 - x1 / (12 : Int32) * (12 : Int32)) fun v13 =>
  if v10 = (0 : Int32) then
    mb_stI s 18 12 (mb_F s 3) v12 fun s37 =>
    mb_bnd ((2 : Int32) * (mb_F s37 3)) fun v38 =>
    mM_plain_l52  mb_fuel v11 v38 s37
  else
    if v10 = (1 : Int32) then
      mb_cal (mM_before (1 : Int32) (x1 / (12 : Int32)) v13 s) fun v34 s35 =>
      mb_cal (mM_assign v11 (-1 : Int32) ((1 : Int32) <<< (v34 &&& 31)) s35) fun _u s36 =>
      mM_plain_b368  s36
    else
      if v10 = (2 : Int32) then
        mb_cal (mM_before (2 : Int32) (x1 / (12 : Int32)) v13 s) fun v32 s33 =>
        mM_plain_l164  mb_fuel x2 v11 v32 (0 : Int32) s33
      else
        if v10 = (3 : Int32) then
          mb_stI s 17 24 (x2 + v11) (0 : Int32) fun s31 =>
          mM_plain_b368  s31
        else
          if v10 = (4 : Int32) then
            mb_ld (mb_I s 16) 24 (x2 + v12) fun v28 =>
            mb_ld (mb_I s 17) 24 (x2 + v12) fun v29 =>
            mb_cal (mM_assign v11 v28 v29 s) fun _u s30 =>
            mM_plain_b368  s30
          else
            if v10 = (5 : Int32) then
              mb_ld (mb_I s 16) 24 (x2 + v12) fun v21 =>
              mb_ld (mb_I s 4) 72 x1 fun v22 =>
              mb_bnd (((2 : Int32) * v21) + v22) fun v23 =>
              mb_ld (mb_I s 19) 24 v23 fun v24 =>
              mb_ld (mb_I s 20) 24 v23 fun v25 =>
              mb_ld (mb_I s 17) 24 (x2 + v12) fun v26 =>
              mb_cal (mM_assign v11 v24 (v25 ||| v26) s) fun _u s27 =>
              mM_plain_b368  s27
            else
              mb_ld (mb_I s 16) 24 (x2 + v11) fun v14 =>
              mb_ld (mb_I s 4) 72 x1 fun v15 =>
              mb_bnd (((2 : Int32) * v14) + v15) fun v16 =>
              mb_ld (mb_I s 16) 24 (x2 + v12) fun v17 =>
              mb_stI s 19 24 v16 v17 fun s18 =>
              mb_ld (mb_I s18 17) 24 (x2 + v12) fun v19 =>
              mb_stI s18 20 24 v16 v19 fun s20 =>
              mM_plain_b368  s20
def mM_step_b283   (s : mb_S) : Option (Unit × mb_S) :=
  some ((), s)
def mM_step_b256  (y0 : Int32) (y1 : Int32) (s : mb_S) : Option (Unit × mb_S) :=
  mb_stI s 15 6 y1 y0 fun s1 =>
  mM_step_b283  s1
def mM_step_b222  (x2 : Int32) (y0 : Int32) (s : mb_S) : Option (Unit × mb_S) :=
  mb_ld (mb_I s 0) 6 x2 fun v2 =>
  if y0 ≤ v2 then
    mM_step_b256  y0 ((mb_F s 6) - (1 : Int32)) s
  else
    mb_ld (mb_I s 0) 6 x2 fun v3 =>
    mM_step_b256  v3 ((mb_F s 6) - (1 : Int32)) s
def mM_step_b205  (x2 : Int32) (x3 : Int32) (x6 : Int32) (x8 : Int32) (y0 : Int32) (y1 : Int32) (s : mb_S) : Option (Unit × mb_S) :=
  mb_putF s 5 (y1 + y0) fun s4 =>
  if x8 = (0 : Int32) then
    mM_step_b222  x2 (x3 + (1 : Int32)) s4
  else
    mM_step_b222  x2 x6 s4
def mM_step_b186  (x2 : Int32) (x3 : Int32) (x5 : Int32) (x6 : Int32) (y0 : Int32) (s : mb_S) : Option (Unit × mb_S) :=
  if x5 = (8 : Int32) then
    mM_step_b205  x2 x3 x6 y0 (1 : Int32) (mb_F s 5) s
  else
    mM_step_b205  x2 x3 x6 y0 (0 : Int32) (mb_F s 5) s
def mM_step_b181  (x2 : Int32) (x3 : Int32) (x5 : Int32) (x6 : Int32) (s : mb_S) : Option (Unit × mb_S) :=
  mM_step_b186  x2 x3 x5 x6 (1 : Int32) s
def mM_step_b159  (x1 : Int32) (x2 : Int32) (x3 : Int32) (x5 : Int32) (x6 : Int32) (s : mb_S) : Option (Unit × mb_S) :=
  if x5 = (9 : Int32) then
    mM_step_b181  x2 x3 x5 x6 s
  else
    if ((x1 >>> (((mb_F s 5) &&& (31 : Int32)) &&& 31)) &&& (1 : Int32)) = (1 : Int32) then
      mM_step_b181  x2 x3 x5 x6 s
    else
      mM_step_b186  x2 x3 x5 x6 (0 : Int32) s
def mM_step (x1 : Int32) (s : mb_S) : Option (Unit × mb_S) :=
  mb_ld (mb_I s 14) 6 ((mb_F s 6) - (1 : Int32)) fun v5 =>
  mb_ld (mb_I s 15) 6 ((mb_F s 6) - (1 : Int32)) fun v6 =>
  mb_bnd (((12 : Int32) * v5) + v6) fun v7 =>
  mb_ld (mb_I s 1) 72 v7 fun v8 =>
  mb_ld (mb_I s 2) 72 v7 fun v9 =>
  mb_bnd ((4 : Int32) * ((mb_F s 6) - (1 : Int32))) fun v10 =>
  if v8 = (7 : Int32) then
    mb_ld (mb_I s 3) 72 v7 fun v15 =>
    mb_bnd (v10 + v15) fun v16 =>
    mb_ld (mb_I s 16) 24 v16 fun v17 =>
    mb_ld (mb_I s 18) 12 v17 fun v18 =>
    mb_ld (mb_I s 4) 72 v7 fun v19 =>
    mb_cal (mM_target v18 (v19 / (4 : Int32)) s) fun v20 s21 =>
    mb_ld (mb_I s21 4) 72 v7 fun v22 =>
    mb_cal (mM_enter v20 v16 (v10 + (v22 - v22 / (4 : Int32) * (4 : Int32))) s21) fun _u s23 =>
    mM_step_b283  s23
  else
    if v8 = (10 : Int32) then
      mb_cal (mM_leave v9 s) fun _u s14 =>
      mM_step_b283  s14
    else
      if v8 = (8 : Int32) then
        mM_step_b159  x1 v5 v6 v8 v9 s
      else
        if v8 = (9 : Int32) then
          mM_step_b159  x1 v5 v6 v8 v9 s
        else
          mb_cal (mM_plain v7 v10 s) fun _u s11 =>
          mb_ld (mb_I s11 15) 6 ((mb_F s11 6) - (1 : Int32)) fun v12 =>
          mb_stI s11 15 6 ((mb_F s11 6) - (1 : Int32)) (v12 + (1 : Int32)) fun s13 =>
          mM_step_b283  s13
def mM_run_b214   (s : mb_S) : Option (Int32 × mb_S) :=
  some (mb_F s 4, s)
def mM_run_b208 (k82 : Int32 → Int32 → Int32 → mb_S → Option (Int32 × mb_S)) (x1 : Int32) (x3 : Int32) (x4 : Int32) (s : mb_S) : Option (Int32 × mb_S) :=
  mb_bnd (x4 + (1 : Int32)) fun v1 =>
  k82 x1 x3 v1 s
def mM_run_b183 (k82 : Int32 → Int32 → Int32 → mb_S → Option (Int32 × mb_S)) (x1 : Int32) (x3 : Int32) (x4 : Int32) (y0 : Int32) (s : mb_S) : Option (Int32 × mb_S) :=
  mb_putF s 2 y0 fun s2 =>
  if (mb_F s2 2) = (0 : Int32) then
    mb_cal (mM_step x1 s2) fun _u s3 =>
    mb_putF s3 4 ((mb_F s3 4) + (1 : Int32)) fun s4 =>
    mM_run_b208 k82 x1 x3 x4 s4
  else
    mM_run_b208 k82 x1 x3 x4 s2
def mM_run_b149 (k82 : Int32 → Int32 → Int32 → mb_S → Option (Int32 × mb_S)) (k100 : Int32 → Int32 → Int32 → Int32 → mb_S → Option (Int32 × mb_S)) (x1 : Int32) (x3 : Int32) (x4 : Int32) (x5 : Int32) (s : mb_S) : Option (Int32 × mb_S) :=
  mb_bnd (x5 + (1 : Int32)) fun v5 =>
  k100 x1 x3 x4 v5 s
def mM_run_l100 (k82 : Int32 → Int32 → Int32 → mb_S → Option (Int32 × mb_S)) : Nat → Int32 → Int32 → Int32 → Int32 → mb_S → Option (Int32 × mb_S)
  | 0 => fun _ _ _ _ _ => none
  | n + 1 => fun x1 x3 x4 x5 s =>
    if (6 : Int32) ≤ x5 then
      if (mb_F s 6) = (0 : Int32) then
        mM_run_b183 k82 x1 x3 x4 (1 : Int32) s
      else
        if (mb_F s 4) = x3 then
          mM_run_b183 k82 x1 x3 x4 (2 : Int32) s
        else
          mb_cal (mM_hindrance  s) fun v6 s7 =>
          mM_run_b183 k82 x1 x3 x4 v6 s7
    else
      if (mb_F s 6) ≤ (0 : Int32) then
        mM_run_b149 k82 (mM_run_l100 k82 n) x1 x3 x4 x5 s
      else
        mb_ld (mb_I s 15) 6 ((mb_F s 6) - (1 : Int32)) fun v8 =>
        mb_ld (mb_I s 14) 6 ((mb_F s 6) - (1 : Int32)) fun v9 =>
        mb_ld (mb_I s 0) 6 v9 fun v10 =>
        if v8 = v10 then
          mb_cal (mM_leave (-1 : Int32) s) fun _u s11 =>
          mM_run_b149 k82 (mM_run_l100 k82 n) x1 x3 x4 x5 s11
        else
          mM_run_b149 k82 (mM_run_l100 k82 n) x1 x3 x4 x5 s
theorem mM_run_l100_s (k82 : Int32 → Int32 → Int32 → mb_S → Option (Int32 × mb_S)) (n : Nat) (x1 : Int32) (x3 : Int32) (x4 : Int32) (x5 : Int32) (s : mb_S) : mM_run_l100 k82 (n + 1) x1 x3 x4 x5 s =
    if (6 : Int32) ≤ x5 then
      if (mb_F s 6) = (0 : Int32) then
        mM_run_b183 k82 x1 x3 x4 (1 : Int32) s
      else
        if (mb_F s 4) = x3 then
          mM_run_b183 k82 x1 x3 x4 (2 : Int32) s
        else
          mb_cal (mM_hindrance  s) fun v6 s7 =>
          mM_run_b183 k82 x1 x3 x4 v6 s7
    else
      if (mb_F s 6) ≤ (0 : Int32) then
        mM_run_b149 k82 (mM_run_l100 k82 n) x1 x3 x4 x5 s
      else
        mb_ld (mb_I s 15) 6 ((mb_F s 6) - (1 : Int32)) fun v8 =>
        mb_ld (mb_I s 14) 6 ((mb_F s 6) - (1 : Int32)) fun v9 =>
        mb_ld (mb_I s 0) 6 v9 fun v10 =>
        if v8 = v10 then
          mb_cal (mM_leave (-1 : Int32) s) fun _u s11 =>
          mM_run_b149 k82 (mM_run_l100 k82 n) x1 x3 x4 x5 s11
        else
          mM_run_b149 k82 (mM_run_l100 k82 n) x1 x3 x4 x5 s
  := rfl
def mM_run_l82  : Nat → Int32 → Int32 → Int32 → mb_S → Option (Int32 × mb_S)
  | 0 => fun _ _ _ _ => none
  | n + 1 => fun x1 x3 x4 s =>
    if (200 : Int32) < x4 then
      mM_run_b214  s
    else
      if (mb_F s 2) = (0 : Int32) then
        mM_run_l100 (mM_run_l82  n) mb_fuel x1 x3 x4 (0 : Int32) s
      else
        mM_run_b214  s
theorem mM_run_l82_s  (n : Nat) (x1 : Int32) (x3 : Int32) (x4 : Int32) (s : mb_S) : mM_run_l82  (n + 1) x1 x3 x4 s =
    if (200 : Int32) < x4 then
      mM_run_b214  s
    else
      if (mb_F s 2) = (0 : Int32) then
        mM_run_l100 (mM_run_l82  n) mb_fuel x1 x3 x4 (0 : Int32) s
      else
        mM_run_b214  s
  := rfl
def mM_run_l51  : Nat → Int32 → Int32 → Int32 → mb_S → Option (Int32 × mb_S)
  | 0 => fun _ _ _ _ => none
  | n + 1 => fun x1 x3 x4 s =>
    if (16 : Int32) ≤ x4 then
      mb_cal (mM_enter (0 : Int32) (-1 : Int32) (-1 : Int32) s) fun _u s12 =>
      mM_run_l82  mb_fuel x1 x3 (0 : Int32) s12
    else
      mb_stI s 13 16 x4 (0 : Int32) fun s13 =>
      mb_bnd (x4 + (1 : Int32)) fun v14 =>
      (mM_run_l51  n) x1 x3 v14 s13
theorem mM_run_l51_s  (n : Nat) (x1 : Int32) (x3 : Int32) (x4 : Int32) (s : mb_S) : mM_run_l51  (n + 1) x1 x3 x4 s =
    if (16 : Int32) ≤ x4 then
      mb_cal (mM_enter (0 : Int32) (-1 : Int32) (-1 : Int32) s) fun _u s12 =>
      mM_run_l82  mb_fuel x1 x3 (0 : Int32) s12
    else
      mb_stI s 13 16 x4 (0 : Int32) fun s13 =>
      mb_bnd (x4 + (1 : Int32)) fun v14 =>
      (mM_run_l51  n) x1 x3 v14 s13
  := rfl
def mM_run_b22  (x1 : Int32) (y0 : Int32) (s : mb_S) : Option (Int32 × mb_S) :=
  mb_putF s 3 (0 : Int32) fun s15 =>
  mb_putF s15 4 (0 : Int32) fun s16 =>
  mb_putF s16 5 (0 : Int32) fun s17 =>
  mb_putF s17 6 (0 : Int32) fun s18 =>
  mb_putF s18 2 (0 : Int32) fun s19 =>
  mM_run_l51  mb_fuel x1 y0 (0 : Int32) s19
def mM_run (x1 : Int32) (x2 : Int32) (s : mb_S) : Option (Int32 × mb_S) :=
  if (0 : Int32) ≤ x2 then
    if x2 ≤ (200 : Int32) then
      mM_run_b22  x1 x2 s
    else
      mM_run_b22  x1 (200 : Int32) s
  else
    mM_run_b22  x1 (0 : Int32) s
def mM_outcome  (s : mb_S) : Option (Int32 × mb_S) :=
  some (mb_F s 2, s)
def mM_hits_b63  (y0 : Int32) (s : mb_S) : Option (Int32 × mb_S) :=
  some (y0, s)
def mM_hits_b62   (s : mb_S) : Option (Int32 × mb_S) :=
  mM_hits_b63  (0 : Int32) s
def mM_hits (x1 : Int32) (x2 : Int32) (s : mb_S) : Option (Int32 × mb_S) :=
  mb_cal (mM_before (1 : Int32) (6 : Int32) (0 : Int32) s) fun v1 s2 =>
  mb_cal (mM_before (2 : Int32) (6 : Int32) (0 : Int32) s2) fun v3 s4 =>
  if (mb_F s4 2) ≤ (0 : Int32) then
    mM_hits_b62  s4
  else
    mb_cal0 (mM_within x1 (0 : Int32) (v1 - (1 : Int32))) fun v5 =>
    if v5 = (0 : Int32) then
      mM_hits_b62  s4
    else
      mb_cal0 (mM_within x2 (0 : Int32) (v3 - (1 : Int32))) fun v6 =>
      if v6 = (0 : Int32) then
        mM_hits_b62  s4
      else
        mb_ld (mb_I s4 13) 16 (((4 : Int32) * x1) + x2) fun v7 =>
        mM_hits_b63  v7 s4
def mM_made_b15  (y0 : Int32) (s : mb_S) : Option (Int32 × mb_S) :=
  some (y0, s)
def mM_made  (s : mb_S) : Option (Int32 × mb_S) :=
  if (mb_F s 2) ≤ (0 : Int32) then
    mM_made_b15  (0 : Int32) s
  else
    mM_made_b15  (mb_F s 3) s
