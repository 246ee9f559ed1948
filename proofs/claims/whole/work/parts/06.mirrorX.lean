def mX_isBelow_b14  (y0 : Int32) : Option Int32 :=
  mb_ret0 y0
def mX_isBelow_b13   : Option Int32 :=
  mX_isBelow_b14  (0 : Int32)
def mX_isBelow (x0 : Int32) (x1 : Int32) : Option Int32 :=
  if x0 < (0 : Int32) then
    mX_isBelow_b13
  else
    if x1 ≤ x0 then
      mX_isBelow_b13
    else
      mX_isBelow_b14  (1 : Int32)
def mP_takes_b57  (y0 : Int32) (s : mb_S) : Option (Int32 × mb_S) :=
  mb_retZ y0 s
def mP_takes_b56   (s : mb_S) : Option (Int32 × mb_S) :=
  mP_takes_b57  (0 : Int32) s
def mP_takes (x1 : Int32) (x2 : Int32) (s : mb_S) : Option (Int32 × mb_S) :=
  mb_cal0 (mX_isBelow x1 (6 : Int32)) fun v1 =>
  if v1 = (0 : Int32) then
    mP_takes_b56  s
  else
    mb_cal0 (mX_isBelow x2 (11 : Int32)) fun v2 =>
    if v2 = (0 : Int32) then
      mP_takes_b56  s
    else
      mb_ld (mb_I s 5) 6 x1 fun v3 =>
      if (12 : Int32) ≤ v3 then
        mP_takes_b56  s
      else
        if (32 : Int32) ≤ (mb_F s 1) then
          mP_takes_b56  s
        else
          mb_ld (mb_I s 6) 11 x2 fun v4 =>
          mb_ld mb_most 11 x2 fun v5 =>
          if v5 ≤ v4 then
            mP_takes_b56  s
          else
            mP_takes_b57  (1 : Int32) s
def mX_operandsFit_b168  (x1 : Int32) : Option Int32 :=
  mb_cal0 (mX_isBelow x1 (4 : Int32)) fun v1 =>
  mb_ret0 v1
def mX_operandsFit_b161  (x1 : Int32) : Option Int32 :=
  mb_cal0 (mX_isBelow x1 (12 : Int32)) fun v2 =>
  mb_ret0 v2
def mX_operandsFit_b160  (y0 : Int32) : Option Int32 :=
  mb_ret0 y0
def mX_operandsFit_b159   : Option Int32 :=
  mX_operandsFit_b160  (0 : Int32)
def mX_operandsFit_b129  (y0 : Int32) : Option Int32 :=
  mb_ret0 y0
def mX_operandsFit_b128   : Option Int32 :=
  mX_operandsFit_b129  (0 : Int32)
def mX_operandsFit_b100  (x1 : Int32) (x2 : Int32) (x3 : Int32) : Option Int32 :=
  mb_cal0 (mX_isBelow x1 (4 : Int32)) fun v3 =>
  if v3 = (0 : Int32) then
    mX_operandsFit_b128
  else
    mb_cal0 (mX_isBelow x2 (4 : Int32)) fun v4 =>
    if v4 = (0 : Int32) then
      mX_operandsFit_b128
    else
      mb_cal0 (mX_isBelow x3 (2 : Int32)) fun v5 =>
      if v5 = (0 : Int32) then
        mX_operandsFit_b128
      else
        mX_operandsFit_b129  (1 : Int32)
def mX_operandsFit_b99  (y0 : Int32) : Option Int32 :=
  mb_ret0 y0
def mX_operandsFit_b98   : Option Int32 :=
  mX_operandsFit_b99  (0 : Int32)
def mX_operandsFit_b77  (y0 : Int32) : Option Int32 :=
  mb_ret0 y0
def mX_operandsFit_b76   : Option Int32 :=
  mX_operandsFit_b77  (0 : Int32)
def mX_operandsFit (x0 : Int32) (x1 : Int32) (x2 : Int32) (x3 : Int32) : Option Int32 :=
  if x0 = (0 : Int32) then
    mb_cal0 (mX_isBelow x1 (4 : Int32)) fun v6 =>
    if v6 = (0 : Int32) then
      mX_operandsFit_b76
    else
      mb_cal0 (mX_isBelow x2 (4 : Int32)) fun v7 =>
      if v7 = (0 : Int32) then
        mX_operandsFit_b76
      else
        mX_operandsFit_b77  (1 : Int32)
  else
  if x0 = (4 : Int32) then
    mb_cal0 (mX_isBelow x1 (4 : Int32)) fun v8 =>
    if v8 = (0 : Int32) then
      mX_operandsFit_b98
    else
      mb_cal0 (mX_isBelow x2 (4 : Int32)) fun v9 =>
      if v9 = (0 : Int32) then
        mX_operandsFit_b98
      else
        mX_operandsFit_b99  (1 : Int32)
  else
  if x0 = (5 : Int32) then
    mX_operandsFit_b100  x1 x2 x3
  else
  if x0 = (6 : Int32) then
    mX_operandsFit_b100  x1 x2 x3
  else
  if x0 = (7 : Int32) then
    mb_cal0 (mX_isBelow x1 (4 : Int32)) fun v10 =>
    if v10 = (0 : Int32) then
      mX_operandsFit_b159
    else
      mb_cal0 (mX_isBelow x2 (4 : Int32)) fun v11 =>
      if v11 = (0 : Int32) then
        mX_operandsFit_b159
      else
        mb_cal0 (mX_isBelow x3 (12 : Int32)) fun v12 =>
        if v12 = (0 : Int32) then
          mX_operandsFit_b159
        else
          mX_operandsFit_b160  (1 : Int32)
  else
  if x0 = (8 : Int32) then
    mX_operandsFit_b161  x1
  else
  if x0 = (9 : Int32) then
    mX_operandsFit_b161  x1
  else
    mX_operandsFit_b168  x1
def mP_renumber_b106 (k10 : Int32 → mb_S → Option (Unit × mb_S)) (k18 : Int32 → Int32 → mb_S → Option (Unit × mb_S)) (x1 : Int32) (x2 : Int32) (s : mb_S) : Option (Unit × mb_S) :=
  mb_bnd (x2 + (1 : Int32)) fun v1 =>
  k18 x1 v1 s
def mP_renumber_l18 (k10 : Int32 → mb_S → Option (Unit × mb_S)) : Nat → Int32 → Int32 → mb_S → Option (Unit × mb_S)
  | 0 => fun _ _ _ => none
  | n + 1 => fun x1 x2 s =>
    mb_ld (mb_I s 5) 6 x1 fun v2 =>
    if v2 ≤ x2 then
      mb_bnd (x1 + (1 : Int32)) fun v3 =>
      k10 v3 s
    else
      mb_bnd ((x1 * (13 : Int32)) + x2) fun v4 =>
      mb_ld (mb_I s 0) 78 v4 fun v5 =>
      mb_ld (mb_I s 6) 11 v5 fun v6 =>
      mb_ld (mb_I s 6) 11 v5 fun v7 =>
      mb_stI s 6 11 v5 (v7 + (1 : Int32)) fun s8 =>
      mb_stI s8 4 78 v4 v6 fun s9 =>
      if v5 = (0 : Int32) then
        mb_ld (mb_I s9 2) 78 v4 fun v11 =>
        mb_stI s9 7 6 v6 v11 fun s12 =>
        mP_renumber_b106 k10 (mP_renumber_l18 k10 n) x1 x2 s12
      else
        if v5 = (2 : Int32) then
          mb_stI s9 8 4 v6 v4 fun s10 =>
          mP_renumber_b106 k10 (mP_renumber_l18 k10 n) x1 x2 s10
        else
          mP_renumber_b106 k10 (mP_renumber_l18 k10 n) x1 x2 s9
theorem mP_renumber_l18_s (k10 : Int32 → mb_S → Option (Unit × mb_S)) (n : Nat) (x1 : Int32) (x2 : Int32) (s : mb_S) : mP_renumber_l18 k10 (n + 1) x1 x2 s =
    mb_ld (mb_I s 5) 6 x1 fun v2 =>
    if v2 ≤ x2 then
      mb_bnd (x1 + (1 : Int32)) fun v3 =>
      k10 v3 s
    else
      mb_bnd ((x1 * (13 : Int32)) + x2) fun v4 =>
      mb_ld (mb_I s 0) 78 v4 fun v5 =>
      mb_ld (mb_I s 6) 11 v5 fun v6 =>
      mb_ld (mb_I s 6) 11 v5 fun v7 =>
      mb_stI s 6 11 v5 (v7 + (1 : Int32)) fun s8 =>
      mb_stI s8 4 78 v4 v6 fun s9 =>
      if v5 = (0 : Int32) then
        mb_ld (mb_I s9 2) 78 v4 fun v11 =>
        mb_stI s9 7 6 v6 v11 fun s12 =>
        mP_renumber_b106 k10 (mP_renumber_l18 k10 n) x1 x2 s12
      else
        if v5 = (2 : Int32) then
          mb_stI s9 8 4 v6 v4 fun s10 =>
          mP_renumber_b106 k10 (mP_renumber_l18 k10 n) x1 x2 s10
        else
          mP_renumber_b106 k10 (mP_renumber_l18 k10 n) x1 x2 s9
  := rfl
def mP_renumber_l10  : Nat → Int32 → mb_S → Option (Unit × mb_S)
  | 0 => fun _ _ => none
  | n + 1 => fun x1 s =>
    if (6 : Int32) ≤ x1 then
      some ((), s)
    else
      mP_renumber_l18 (mP_renumber_l10  n) mb_fuel x1 (0 : Int32) s
theorem mP_renumber_l10_s  (n : Nat) (x1 : Int32) (s : mb_S) : mP_renumber_l10  (n + 1) x1 s =
    if (6 : Int32) ≤ x1 then
      some ((), s)
    else
      mP_renumber_l18 (mP_renumber_l10  n) mb_fuel x1 (0 : Int32) s
  := rfl
def mP_renumber  (s : mb_S) : Option (Unit × mb_S) :=
  mb_fill s 6 11 (0 : Int32) fun s13 =>
  mP_renumber_l10  mb_fuel (0 : Int32) s13
def mP_append (x1 : Int32) (x2 : Int32) (x3 : Int32) (x4 : Int32) (x5 : Int32) (s : mb_S) : Option (Int32 × mb_S) :=
  mb_ld (mb_I s 5) 6 x1 fun v1 =>
  mb_bnd ((x1 * (13 : Int32)) + v1) fun v2 =>
  mb_stI s 0 78 v2 x2 fun s3 =>
  mb_stI s3 1 78 v2 x3 fun s4 =>
  mb_stI s4 2 78 v2 x4 fun s5 =>
  mb_stI s5 3 78 v2 x5 fun s6 =>
  mb_ld (mb_I s6 5) 6 x1 fun v7 =>
  mb_stI s6 5 6 x1 (v7 + (1 : Int32)) fun s8 =>
  mb_putF s8 1 ((mb_F s8 1) + (1 : Int32)) fun s9 =>
  mb_cal (mP_renumber  s9) fun _u s10 =>
  some (v1, s10)
def mX_forget  (s : mb_S) : Option (Unit × mb_S) :=
  mb_putF s 0 (0 : Int32) fun s1 =>
  mb_putF s1 10 (0 : Int32) fun s2 =>
  some ((), s2)
def mX_add_b24   (s : mb_S) : Option (Int32 × mb_S) :=
  some ((-1 : Int32), s)
def mX_add (x1 : Int32) (x2 : Int32) (x3 : Int32) (x4 : Int32) (x5 : Int32) (s : mb_S) : Option (Int32 × mb_S) :=
  mb_cal (mP_takes x1 x2 s) fun v1 s2 =>
  if v1 = (0 : Int32) then
    mX_add_b24  s2
  else
    mb_cal0 (mX_operandsFit x2 x3 x4 x5) fun v3 =>
    if v3 = (0 : Int32) then
      mX_add_b24  s2
    else
      mb_cal (mP_append x1 x2 x3 x4 x5 s2) fun v4 s5 =>
      mb_cal (mX_forget  s5) fun _u s6 =>
      some (v4, s6)
def mP_cutLast (x1 : Int32) (s : mb_S) : Option (Unit × mb_S) :=
  mb_ld (mb_I s 5) 6 x1 fun v1 =>
  mb_stI s 5 6 x1 (v1 - (1 : Int32)) fun s2 =>
  mb_putF s2 1 ((mb_F s2 1) - (1 : Int32)) fun s3 =>
  mb_cal (mP_renumber  s3) fun _u s4 =>
  some ((), s4)
def mX_drop_b21   (s : mb_S) : Option (Int32 × mb_S) :=
  mb_retZ (0 : Int32) s
def mX_drop (x1 : Int32) (s : mb_S) : Option (Int32 × mb_S) :=
  mb_cal0 (mX_isBelow x1 (6 : Int32)) fun v1 =>
  if v1 = (0 : Int32) then
    mX_drop_b21  s
  else
    mb_ld (mb_I s 5) 6 x1 fun v2 =>
    if v2 = (0 : Int32) then
      mX_drop_b21  s
    else
      mb_cal (mP_cutLast x1 s) fun _u s3 =>
      mb_cal (mX_forget  s3) fun _u s4 =>
      mb_retZ (1 : Int32) s4
def mX_derive_b23  (x1 : Int32) (x2 : Int32) (s : mb_S) : Option (Int32 × mb_S) :=
  mb_stI s 9 4 x1 x2 fun s1 =>
  mb_cal (mX_forget  s1) fun _u s2 =>
  mb_retZ (1 : Int32) s2
def mX_derive_b21   (s : mb_S) : Option (Int32 × mb_S) :=
  mb_retZ (0 : Int32) s
def mX_derive (x1 : Int32) (x2 : Int32) (s : mb_S) : Option (Int32 × mb_S) :=
  mb_cal0 (mX_isBelow x1 (4 : Int32)) fun v3 =>
  if v3 = (0 : Int32) then
    mX_derive_b21  s
  else
    if x2 = (-1 : Int32) then
      mX_derive_b23  x1 x2 s
    else
      mb_cal0 (mX_isBelow x2 x1) fun v4 =>
      if v4 = (0 : Int32) then
        mX_derive_b21  s
      else
        mX_derive_b23  x1 x2 s
def mX_bind_b32  (x1 : Int32) (x2 : Int32) (x3 : Int32) (s : mb_S) : Option (Int32 × mb_S) :=
  mb_stI s 10 12 ((x1 * (3 : Int32)) + x2) x3 fun s1 =>
  mb_cal (mX_forget  s1) fun _u s2 =>
  mb_retZ (1 : Int32) s2
def mX_bind_b30   (s : mb_S) : Option (Int32 × mb_S) :=
  mb_retZ (0 : Int32) s
def mX_bind (x1 : Int32) (x2 : Int32) (x3 : Int32) (s : mb_S) : Option (Int32 × mb_S) :=
  mb_cal0 (mX_isBelow x1 (4 : Int32)) fun v3 =>
  if v3 = (0 : Int32) then
    mX_bind_b30  s
  else
    mb_cal0 (mX_isBelow x2 (3 : Int32)) fun v4 =>
    if v4 = (0 : Int32) then
      mX_bind_b30  s
    else
      if x3 = (-1 : Int32) then
        mX_bind_b32  x1 x2 x3 s
      else
        mb_cal0 (mX_isBelow x3 (6 : Int32)) fun v5 =>
        if v5 = (0 : Int32) then
          mX_bind_b30  s
        else
          mX_bind_b32  x1 x2 x3 s
def mP_targetOf_b50   (s : mb_S) : Option (Int32 × mb_S) :=
  some ((-1 : Int32), s)
def mP_targetOf_l5  : Nat → Int32 → Int32 → Int32 → mb_S → Option (Int32 × mb_S)
  | 0 => fun _ _ _ _ => none
  | n + 1 => fun x2 x3 x4 s =>
    if (4 : Int32) ≤ x4 then
      mP_targetOf_b50  s
    else
      if x3 = (-1 : Int32) then
        mP_targetOf_b50  s
      else
        mb_ld (mb_I s 10) 12 ((x3 * (3 : Int32)) + x2) fun v1 =>
        if v1 = (-1 : Int32) then
          mb_ld (mb_I s 9) 4 x3 fun v2 =>
          mb_bnd (x4 + (1 : Int32)) fun v3 =>
          (mP_targetOf_l5  n) x2 v2 v3 s
        else
          some (v1, s)
theorem mP_targetOf_l5_s  (n : Nat) (x2 : Int32) (x3 : Int32) (x4 : Int32) (s : mb_S) : mP_targetOf_l5  (n + 1) x2 x3 x4 s =
    if (4 : Int32) ≤ x4 then
      mP_targetOf_b50  s
    else
      if x3 = (-1 : Int32) then
        mP_targetOf_b50  s
      else
        mb_ld (mb_I s 10) 12 ((x3 * (3 : Int32)) + x2) fun v1 =>
        if v1 = (-1 : Int32) then
          mb_ld (mb_I s 9) 4 x3 fun v2 =>
          mb_bnd (x4 + (1 : Int32)) fun v3 =>
          (mP_targetOf_l5  n) x2 v2 v3 s
        else
          some (v1, s)
  := rfl
def mP_targetOf (x1 : Int32) (x2 : Int32) (s : mb_S) : Option (Int32 × mb_S) :=
  mP_targetOf_l5  mb_fuel x2 x1 (0 : Int32) s
def mX_target_b16   (s : mb_S) : Option (Int32 × mb_S) :=
  some ((-1 : Int32), s)
def mX_target (x1 : Int32) (x2 : Int32) (s : mb_S) : Option (Int32 × mb_S) :=
  mb_cal0 (mX_isBelow x1 (4 : Int32)) fun v1 =>
  if v1 = (0 : Int32) then
    mX_target_b16  s
  else
    mb_cal0 (mX_isBelow x2 (3 : Int32)) fun v2 =>
    if v2 = (0 : Int32) then
      mX_target_b16  s
    else
      mb_cal (mP_targetOf x1 x2 s) fun v3 s4 =>
      some (v3, s4)
def mX_size_b22  (y0 : Int32) (s : mb_S) : Option (Int32 × mb_S) :=
  some (y0, s)
def mX_size (x1 : Int32) (s : mb_S) : Option (Int32 × mb_S) :=
  mb_cal0 (mX_isBelow x1 (6 : Int32)) fun v1 =>
  if v1 = (0 : Int32) then
    mX_size_b22  (0 : Int32) s
  else
    mb_ld (mb_I s 5) 6 x1 fun v2 =>
    mX_size_b22  v2 s
def mX_has_b13  (y0 : Int32) : Option Int32 :=
  mb_ret0 y0
def mX_has (x0 : Int32) (x1 : Int32) : Option Int32 :=
  if (((Int32.toUInt32 x0 >>> (Int32.toUInt32 x1 &&& Int32.toUInt32 31)).toInt32) &&& (1 : Int32)) = (0 : Int32) then
    mX_has_b13  (0 : Int32)
  else
    mX_has_b13  (1 : Int32)
def mQ_growLocal_b37   (s : mb_S) : Option (Unit × mb_S) :=
  some ((), s)
def mQ_growLocal (x1 : Int32) (x2 : Int32) (x3 : Int32) (s : mb_S) : Option (Unit × mb_S) :=
  mb_bnd ((x1 * (4 : Int32)) + x2) fun v1 =>
  mb_ld (mb_I s 11) 24 v1 fun v2 =>
  if (x3 &&& (v2 ^^^ (-1 : Int32))) = (0 : Int32) then
    mQ_growLocal_b37  s
  else
    mb_ld (mb_I s 11) 24 v1 fun v3 =>
    mb_stI s 11 24 v1 (v3 ||| x3) fun s4 =>
    mb_putZ s4 3 (1 : Int32) fun s5 =>
    mQ_growLocal_b37  s5
def mQ_fieldOfAll_b35 (k5 : Int32 → Int32 → Int32 → Int32 → mb_S → Option (Int32 × mb_S)) (x1 : Int32) (x2 : Int32) (x3 : Int32) (x4 : Int32) (s : mb_S) : Option (Int32 × mb_S) :=
  mb_bnd (x4 + (1 : Int32)) fun v1 =>
  k5 x1 x2 x3 v1 s
def mQ_fieldOfAll_l5  : Nat → Int32 → Int32 → Int32 → Int32 → mb_S → Option (Int32 × mb_S)
  | 0 => fun _ _ _ _ _ => none
  | n + 1 => fun x1 x2 x3 x4 s =>
    if (6 : Int32) ≤ x4 then
      some (x3, s)
    else
      mb_cal0 (mX_has x1 x4) fun v2 =>
      if v2 = (0 : Int32) then
        mQ_fieldOfAll_b35 (mQ_fieldOfAll_l5  n) x1 x2 x3 x4 s
      else
        mb_ld (mb_I s 12) 12 ((x4 * (2 : Int32)) + x2) fun v3 =>
        mb_bnd (x3 ||| v3) fun v4 =>
        mQ_fieldOfAll_b35 (mQ_fieldOfAll_l5  n) x1 x2 v4 x4 s
theorem mQ_fieldOfAll_l5_s  (n : Nat) (x1 : Int32) (x2 : Int32) (x3 : Int32) (x4 : Int32) (s : mb_S) : mQ_fieldOfAll_l5  (n + 1) x1 x2 x3 x4 s =
    if (6 : Int32) ≤ x4 then
      some (x3, s)
    else
      mb_cal0 (mX_has x1 x4) fun v2 =>
      if v2 = (0 : Int32) then
        mQ_fieldOfAll_b35 (mQ_fieldOfAll_l5  n) x1 x2 x3 x4 s
      else
        mb_ld (mb_I s 12) 12 ((x4 * (2 : Int32)) + x2) fun v3 =>
        mb_bnd (x3 ||| v3) fun v4 =>
        mQ_fieldOfAll_b35 (mQ_fieldOfAll_l5  n) x1 x2 v4 x4 s
  := rfl
def mQ_fieldOfAll (x1 : Int32) (x2 : Int32) (s : mb_S) : Option (Int32 × mb_S) :=
  mQ_fieldOfAll_l5  mb_fuel x1 x2 (0 : Int32) (0 : Int32) s
def mQ_growFields_b57 (k3 : Int32 → Int32 → Int32 → Int32 → mb_S → Option (Unit × mb_S)) (x1 : Int32) (x2 : Int32) (x3 : Int32) (x4 : Int32) (s : mb_S) : Option (Unit × mb_S) :=
  mb_bnd (x4 + (1 : Int32)) fun v1 =>
  k3 x1 x2 x3 v1 s
def mQ_growFields_l3  : Nat → Int32 → Int32 → Int32 → Int32 → mb_S → Option (Unit × mb_S)
  | 0 => fun _ _ _ _ _ => none
  | n + 1 => fun x1 x2 x3 x4 s =>
    if (6 : Int32) ≤ x4 then
      some ((), s)
    else
      mb_bnd ((x4 * (2 : Int32)) + x2) fun v2 =>
      mb_cal0 (mX_has x1 x4) fun v3 =>
      if v3 = (0 : Int32) then
        mQ_growFields_b57 (mQ_growFields_l3  n) x1 x2 x3 x4 s
      else
        mb_ld (mb_I s 12) 12 v2 fun v4 =>
        if (x3 &&& (v4 ^^^ (-1 : Int32))) = (0 : Int32) then
          mQ_growFields_b57 (mQ_growFields_l3  n) x1 x2 x3 x4 s
        else
          mb_ld (mb_I s 12) 12 v2 fun v5 =>
          mb_stI s 12 12 v2 (v5 ||| x3) fun s6 =>
          mb_putZ s6 3 (1 : Int32) fun s7 =>
          mQ_growFields_b57 (mQ_growFields_l3  n) x1 x2 x3 x4 s7
theorem mQ_growFields_l3_s  (n : Nat) (x1 : Int32) (x2 : Int32) (x3 : Int32) (x4 : Int32) (s : mb_S) : mQ_growFields_l3  (n + 1) x1 x2 x3 x4 s =
    if (6 : Int32) ≤ x4 then
      some ((), s)
    else
      mb_bnd ((x4 * (2 : Int32)) + x2) fun v2 =>
      mb_cal0 (mX_has x1 x4) fun v3 =>
      if v3 = (0 : Int32) then
        mQ_growFields_b57 (mQ_growFields_l3  n) x1 x2 x3 x4 s
      else
        mb_ld (mb_I s 12) 12 v2 fun v4 =>
        if (x3 &&& (v4 ^^^ (-1 : Int32))) = (0 : Int32) then
          mQ_growFields_b57 (mQ_growFields_l3  n) x1 x2 x3 x4 s
        else
          mb_ld (mb_I s 12) 12 v2 fun v5 =>
          mb_stI s 12 12 v2 (v5 ||| x3) fun s6 =>
          mb_putZ s6 3 (1 : Int32) fun s7 =>
          mQ_growFields_b57 (mQ_growFields_l3  n) x1 x2 x3 x4 s7
  := rfl
def mQ_growFields (x1 : Int32) (x2 : Int32) (x3 : Int32) (s : mb_S) : Option (Unit × mb_S) :=
  mQ_growFields_l3  mb_fuel x1 x2 x3 (0 : Int32) s
def mQ_reach_b40   (s : mb_S) : Option (Unit × mb_S) :=
  some ((), s)
def mQ_reach (x1 : Int32) (x2 : Int32) (s : mb_S) : Option (Unit × mb_S) :=
  mb_ld (mb_I s 13) 78 x1 fun v1 =>
  mb_stI s 13 78 x1 (v1 ||| ((1 : Int32) <<< (x2 &&& 31))) fun s2 =>
  mb_cal0 (mX_has (mb_F s2 2) x2) fun v3 =>
  if v3 = (0 : Int32) then
    mb_putF s2 2 ((mb_F s2 2) ||| ((1 : Int32) <<< (x2 &&& 31))) fun s4 =>
    mb_putZ s4 3 (1 : Int32) fun s5 =>
    mQ_reach_b40  s5
  else
    mQ_reach_b40  s2
def mQ_returned_b62 (k4 : Int32 → Int32 → Int32 → mb_S → Option (Int32 × mb_S)) (x1 : Int32) (x2 : Int32) (x3 : Int32) (s : mb_S) : Option (Int32 × mb_S) :=
  mb_bnd (x3 + (1 : Int32)) fun v1 =>
  k4 x1 x2 v1 s
def mQ_returned_l4  : Nat → Int32 → Int32 → Int32 → mb_S → Option (Int32 × mb_S)
  | 0 => fun _ _ _ _ => none
  | n + 1 => fun x1 x2 x3 s =>
    mb_ld (mb_I s 5) 6 x1 fun v2 =>
    if v2 ≤ x3 then
      some (x2, s)
    else
      mb_bnd ((x1 * (13 : Int32)) + x3) fun v3 =>
      mb_ld (mb_I s 0) 78 v3 fun v4 =>
      if v4 = (10 : Int32) then
        mb_ld (mb_I s 1) 78 v3 fun v5 =>
        mb_ld (mb_I s 11) 24 ((x1 * (4 : Int32)) + v5) fun v6 =>
        mb_bnd (x2 ||| v6) fun v7 =>
        mQ_returned_b62 (mQ_returned_l4  n) x1 v7 x3 s
      else
        mQ_returned_b62 (mQ_returned_l4  n) x1 x2 x3 s
theorem mQ_returned_l4_s  (n : Nat) (x1 : Int32) (x2 : Int32) (x3 : Int32) (s : mb_S) : mQ_returned_l4  (n + 1) x1 x2 x3 s =
    mb_ld (mb_I s 5) 6 x1 fun v2 =>
    if v2 ≤ x3 then
      some (x2, s)
    else
      mb_bnd ((x1 * (13 : Int32)) + x3) fun v3 =>
      mb_ld (mb_I s 0) 78 v3 fun v4 =>
      if v4 = (10 : Int32) then
        mb_ld (mb_I s 1) 78 v3 fun v5 =>
        mb_ld (mb_I s 11) 24 ((x1 * (4 : Int32)) + v5) fun v6 =>
        mb_bnd (x2 ||| v6) fun v7 =>
        mQ_returned_b62 (mQ_returned_l4  n) x1 v7 x3 s
      else
        mQ_returned_b62 (mQ_returned_l4  n) x1 x2 x3 s
  := rfl
def mQ_returned (x1 : Int32) (s : mb_S) : Option (Int32 × mb_S) :=
  mQ_returned_l4  mb_fuel x1 (0 : Int32) (0 : Int32) s
def mQ_followCall_b151 (k48 : Int32 → Int32 → Int32 → Int32 → Int32 → Int32 → mb_S → Option (Unit × mb_S)) (x1 : Int32) (x2 : Int32) (x3 : Int32) (x4 : Int32) (x5 : Int32) (x6 : Int32) (s : mb_S) : Option (Unit × mb_S) :=
  mb_bnd (x6 + (1 : Int32)) fun v1 =>
  k48 x1 x2 x3 x4 x5 v1 s
def mQ_followCall_b87 (k48 : Int32 → Int32 → Int32 → Int32 → Int32 → Int32 → mb_S → Option (Unit × mb_S)) (x1 : Int32) (x2 : Int32) (x3 : Int32) (x4 : Int32) (x5 : Int32) (x6 : Int32) (y0 : Int32) (s : mb_S) : Option (Unit × mb_S) :=
  if y0 = (-1 : Int32) then
    mQ_followCall_b151 k48 x1 x2 x3 x4 x5 x6 s
  else
    mb_cal (mQ_reach x2 y0 s) fun _u s2 =>
    mb_cal (mQ_growLocal y0 (0 : Int32) ((1 : Int32) <<< (x6 &&& 31)) s2) fun _u s3 =>
    mb_ld (mb_I s3 11) 24 ((x1 * (4 : Int32)) + x4) fun v4 =>
    mb_cal (mQ_growLocal y0 (1 : Int32) v4 s3) fun _u s5 =>
    mb_ld (mb_I s5 1) 78 x2 fun v6 =>
    mb_cal (mQ_returned y0 s5) fun v7 s8 =>
    mb_cal (mQ_growLocal x1 v6 v7 s8) fun _u s9 =>
    mQ_followCall_b151 k48 x1 x2 x3 x4 x5 x6 s9
def mQ_followCall_l48  : Nat → Int32 → Int32 → Int32 → Int32 → Int32 → Int32 → mb_S → Option (Unit × mb_S)
  | 0 => fun _ _ _ _ _ _ _ => none
  | n + 1 => fun x1 x2 x3 x4 x5 x6 s =>
    if (6 : Int32) ≤ x6 then
      some ((), s)
    else
      mb_cal0 (mX_has x5 x6) fun v10 =>
      if v10 = (0 : Int32) then
        mQ_followCall_b87 (mQ_followCall_l48  n) x1 x2 x3 x4 x5 x6 (-1 : Int32) s
      else
        mb_ld (mb_I s 7) 6 x6 fun v11 =>
        mb_cal (mP_targetOf v11 x3 s) fun v12 s13 =>
        mQ_followCall_b87 (mQ_followCall_l48  n) x1 x2 x3 x4 x5 x6 v12 s13
theorem mQ_followCall_l48_s  (n : Nat) (x1 : Int32) (x2 : Int32) (x3 : Int32) (x4 : Int32) (x5 : Int32) (x6 : Int32) (s : mb_S) : mQ_followCall_l48  (n + 1) x1 x2 x3 x4 x5 x6 s =
    if (6 : Int32) ≤ x6 then
      some ((), s)
    else
      mb_cal0 (mX_has x5 x6) fun v10 =>
      if v10 = (0 : Int32) then
        mQ_followCall_b87 (mQ_followCall_l48  n) x1 x2 x3 x4 x5 x6 (-1 : Int32) s
      else
        mb_ld (mb_I s 7) 6 x6 fun v11 =>
        mb_cal (mP_targetOf v11 x3 s) fun v12 s13 =>
        mQ_followCall_b87 (mQ_followCall_l48  n) x1 x2 x3 x4 x5 x6 v12 s13
  := rfl
def mQ_followCall (x1 : Int32) (x2 : Int32) (s : mb_S) : Option (Unit × mb_S) :=
  mb_ld (mb_I s 3) 78 x2 fun v14 =>
  mb_bnd (v14 / (4 : Int32)) fun v15 =>
  mb_ld (mb_I s 3) 78 x2 fun v16 =>
  mb_bnd (v16 - v16 / (4 : Int32) * (4 : Int32)) fun v17 =>
  mb_ld (mb_I s 2) 78 x2 fun v18 =>
  mb_ld (mb_I s 11) 24 ((x1 * (4 : Int32)) + v18) fun v19 =>
  mQ_followCall_l48  mb_fuel x1 x2 v15 v17 v19 (0 : Int32) s
def mQ_follow_b193   (s : mb_S) : Option (Unit × mb_S) :=
  some ((), s)
def mQ_follow (x1 : Int32) (x2 : Int32) (s : mb_S) : Option (Unit × mb_S) :=
  mb_ld (mb_I s 1) 78 x2 fun v1 =>
  mb_ld (mb_I s 2) 78 x2 fun v2 =>
  mb_ld (mb_I s 3) 78 x2 fun v3 =>
  mb_ld (mb_I s 0) 78 x2 fun v4 =>
  if v4 = (0 : Int32) then
    mb_ld (mb_I s 4) 78 x2 fun v5 =>
    mb_cal (mQ_growLocal x1 v1 ((1 : Int32) <<< (v5 &&& 31)) s) fun _u s6 =>
    mQ_follow_b193  s6
  else
  if v4 = (4 : Int32) then
    mb_ld (mb_I s 11) 24 ((x1 * (4 : Int32)) + v2) fun v7 =>
    mb_cal (mQ_growLocal x1 v1 v7 s) fun _u s8 =>
    mQ_follow_b193  s8
  else
  if v4 = (5 : Int32) then
    mb_ld (mb_I s 11) 24 ((x1 * (4 : Int32)) + v2) fun v9 =>
    mb_cal (mQ_fieldOfAll v9 v3 s) fun v10 s11 =>
    mb_cal (mQ_growLocal x1 v1 v10 s11) fun _u s12 =>
    mQ_follow_b193  s12
  else
  if v4 = (6 : Int32) then
    mb_ld (mb_I s 11) 24 ((x1 * (4 : Int32)) + v1) fun v13 =>
    mb_ld (mb_I s 11) 24 ((x1 * (4 : Int32)) + v2) fun v14 =>
    mb_cal (mQ_growFields v13 v3 v14 s) fun _u s15 =>
    mQ_follow_b193  s15
  else
  if v4 = (7 : Int32) then
    mb_cal (mQ_followCall x1 x2 s) fun _u s16 =>
    mQ_follow_b193  s16
  else
    mQ_follow_b193  s
def mQ_sweep_b51 (k2 : Int32 → mb_S → Option (Unit × mb_S)) (x1 : Int32) (s : mb_S) : Option (Unit × mb_S) :=
  mb_bnd (x1 + (1 : Int32)) fun v1 =>
  k2 v1 s
def mQ_sweep_l21 (k2 : Int32 → mb_S → Option (Unit × mb_S)) : Nat → Int32 → Int32 → mb_S → Option (Unit × mb_S)
  | 0 => fun _ _ _ => none
  | n + 1 => fun x1 x2 s =>
    mb_ld (mb_I s 5) 6 x1 fun v2 =>
    if v2 ≤ x2 then
      mQ_sweep_b51 k2 x1 s
    else
      mb_cal (mQ_follow x1 ((x1 * (13 : Int32)) + x2) s) fun _u s3 =>
      mb_bnd (x2 + (1 : Int32)) fun v4 =>
      (mQ_sweep_l21 k2 n) x1 v4 s3
theorem mQ_sweep_l21_s (k2 : Int32 → mb_S → Option (Unit × mb_S)) (n : Nat) (x1 : Int32) (x2 : Int32) (s : mb_S) : mQ_sweep_l21 k2 (n + 1) x1 x2 s =
    mb_ld (mb_I s 5) 6 x1 fun v2 =>
    if v2 ≤ x2 then
      mQ_sweep_b51 k2 x1 s
    else
      mb_cal (mQ_follow x1 ((x1 * (13 : Int32)) + x2) s) fun _u s3 =>
      mb_bnd (x2 + (1 : Int32)) fun v4 =>
      (mQ_sweep_l21 k2 n) x1 v4 s3
  := rfl
def mQ_sweep_l2  : Nat → Int32 → mb_S → Option (Unit × mb_S)
  | 0 => fun _ _ => none
  | n + 1 => fun x1 s =>
    if (6 : Int32) ≤ x1 then
      some ((), s)
    else
      mb_cal0 (mX_has (mb_F s 2) x1) fun v5 =>
      if v5 = (0 : Int32) then
        mQ_sweep_b51 (mQ_sweep_l2  n) x1 s
      else
        mQ_sweep_l21 (mQ_sweep_l2  n) mb_fuel x1 (0 : Int32) s
theorem mQ_sweep_l2_s  (n : Nat) (x1 : Int32) (s : mb_S) : mQ_sweep_l2  (n + 1) x1 s =
    if (6 : Int32) ≤ x1 then
      some ((), s)
    else
      mb_cal0 (mX_has (mb_F s 2) x1) fun v5 =>
      if v5 = (0 : Int32) then
        mQ_sweep_b51 (mQ_sweep_l2  n) x1 s
      else
        mQ_sweep_l21 (mQ_sweep_l2  n) mb_fuel x1 (0 : Int32) s
  := rfl
def mQ_sweep  (s : mb_S) : Option (Unit × mb_S) :=
  mQ_sweep_l2  mb_fuel (0 : Int32) s
def mQ_workOut_b64   (s : mb_S) : Option (Unit × mb_S) :=
  some ((), s)
def mQ_workOut_l36  : Nat → Int32 → mb_S → Option (Unit × mb_S)
  | 0 => fun _ _ => none
  | n + 1 => fun x1 s =>
    if (mb_F s 3) = (0 : Int32) then
      mQ_workOut_b64  s
    else
      if (1000000 : Int32) ≤ x1 then
        mQ_workOut_b64  s
      else
        mb_putZ s 3 (0 : Int32) fun s1 =>
        mb_cal (mQ_sweep  s1) fun _u s2 =>
        mb_bnd (x1 + (1 : Int32)) fun v3 =>
        (mQ_workOut_l36  n) v3 s2
theorem mQ_workOut_l36_s  (n : Nat) (x1 : Int32) (s : mb_S) : mQ_workOut_l36  (n + 1) x1 s =
    if (mb_F s 3) = (0 : Int32) then
      mQ_workOut_b64  s
    else
      if (1000000 : Int32) ≤ x1 then
        mQ_workOut_b64  s
      else
        mb_putZ s 3 (0 : Int32) fun s1 =>
        mb_cal (mQ_sweep  s1) fun _u s2 =>
        mb_bnd (x1 + (1 : Int32)) fun v3 =>
        (mQ_workOut_l36  n) v3 s2
  := rfl
def mQ_workOut  (s : mb_S) : Option (Unit × mb_S) :=
  mb_fill s 11 24 (0 : Int32) fun s4 =>
  mb_fill s4 12 12 (0 : Int32) fun s5 =>
  mb_fill s5 13 78 (0 : Int32) fun s6 =>
  mb_putF s6 2 (1 : Int32) fun s7 =>
  mb_putZ s7 3 (1 : Int32) fun s8 =>
  mQ_workOut_l36  mb_fuel (0 : Int32) s8
def mF_clear_l42 (k34 : Int32 → mb_S → Option (Unit × mb_S)) : Nat → Int32 → Int32 → mb_S → Option (Unit × mb_S)
  | 0 => fun _ _ _ => none
  | n + 1 => fun x1 x2 s =>
    if (4 : Int32) ≤ x2 then
      mb_bnd (x1 + (1 : Int32)) fun v1 =>
      k34 v1 s
    else
      mb_stI s 16 120 (((x1 * (20 : Int32)) + (16 : Int32)) + x2) ((1 : Int32) <<< (x2 &&& 31)) fun s2 =>
      mb_bnd (x2 + (1 : Int32)) fun v3 =>
      (mF_clear_l42 k34 n) x1 v3 s2
theorem mF_clear_l42_s (k34 : Int32 → mb_S → Option (Unit × mb_S)) (n : Nat) (x1 : Int32) (x2 : Int32) (s : mb_S) : mF_clear_l42 k34 (n + 1) x1 x2 s =
    if (4 : Int32) ≤ x2 then
      mb_bnd (x1 + (1 : Int32)) fun v1 =>
      k34 v1 s
    else
      mb_stI s 16 120 (((x1 * (20 : Int32)) + (16 : Int32)) + x2) ((1 : Int32) <<< (x2 &&& 31)) fun s2 =>
      mb_bnd (x2 + (1 : Int32)) fun v3 =>
      (mF_clear_l42 k34 n) x1 v3 s2
  := rfl
def mF_clear_l34  : Nat → Int32 → mb_S → Option (Unit × mb_S)
  | 0 => fun _ _ => none
  | n + 1 => fun x1 s =>
    if (6 : Int32) ≤ x1 then
      some ((), s)
    else
      mF_clear_l42 (mF_clear_l34  n) mb_fuel x1 (0 : Int32) s
theorem mF_clear_l34_s  (n : Nat) (x1 : Int32) (s : mb_S) : mF_clear_l34  (n + 1) x1 s =
    if (6 : Int32) ≤ x1 then
      some ((), s)
    else
      mF_clear_l42 (mF_clear_l34  n) mb_fuel x1 (0 : Int32) s
  := rfl
def mF_clear  (s : mb_S) : Option (Unit × mb_S) :=
  mb_fill s 14 1560 (0 : Int32) fun s4 =>
  mb_fill s4 15 120 (0 : Int32) fun s5 =>
  mb_fill s5 16 120 (0 : Int32) fun s6 =>
  mb_fill s6 17 6 (0 : Int32) fun s7 =>
  mF_clear_l34  mb_fuel (0 : Int32) s7
def mF_growZero_b30   (s : mb_S) : Option (Unit × mb_S) :=
  some ((), s)
def mF_growZero (x1 : Int32) (x2 : Int32) (s : mb_S) : Option (Unit × mb_S) :=
  mb_ld (mb_I s 17) 6 x1 fun v1 =>
  mb_cal0 (mX_has v1 x2) fun v2 =>
  if v2 = (0 : Int32) then
    mb_ld (mb_I s 17) 6 x1 fun v3 =>
    mb_stI s 17 6 x1 (v3 ||| ((1 : Int32) <<< (x2 &&& 31))) fun s4 =>
    mb_putZ s4 4 (1 : Int32) fun s5 =>
    mF_growZero_b30  s5
  else
    mF_growZero_b30  s
def mP_jumpSpot (x1 : Int32) (x2 : Int32) (s : mb_S) : Option (Int32 × mb_S) :=
  mb_ld (mb_I s 1) 78 x2 fun v1 =>
  mb_ld (mb_I s 5) 6 x1 fun v2 =>
  some ((x1 * (13 : Int32)) + (mb_min v1 v2), s)
def mF_growHeld_b38   (s : mb_S) : Option (Unit × mb_S) :=
  some ((), s)
def mF_growHeld (x1 : Int32) (x2 : Int32) (x3 : Int32) (s : mb_S) : Option (Unit × mb_S) :=
  mb_bnd ((x1 * (20 : Int32)) + x2) fun v1 =>
  mb_ld (mb_I s 14) 1560 v1 fun v2 =>
  if (x3 &&& (v2 ^^^ (-1 : Int32))) = (0 : Int32) then
    mF_growHeld_b38  s
  else
    mb_ld (mb_I s 14) 1560 v1 fun v3 =>
    mb_stI s 14 1560 v1 (v3 ||| x3) fun s4 =>
    mb_putZ s4 4 (1 : Int32) fun s5 =>
    mF_growHeld_b38  s5
def mF_comeBack_b21  (x1 : Int32) (x2 : Int32) (x3 : Int32) (y0 : Int32) (s : mb_S) : Option (Unit × mb_S) :=
  mb_cal (mF_growHeld (x1 + (1 : Int32)) x2 ((x3 &&& (65520 : Int32)) ||| y0) s) fun _u s1 =>
  some ((), s1)
def mF_comeBack (x1 : Int32) (x2 : Int32) (x3 : Int32) (s : mb_S) : Option (Unit × mb_S) :=
  if (x3 &&& (1 : Int32)) = (0 : Int32) then
    mF_comeBack_b21  x1 x2 x3 (0 : Int32) s
  else
    mb_ld (mb_I s 1) 78 x1 fun v2 =>
    mF_comeBack_b21  x1 x2 x3 ((1 : Int32) <<< (v2 &&& 31)) s
def mF_callZero_b62 (k2 : Int32 → Int32 → mb_S → Option (Unit × mb_S)) (x1 : Int32) (x2 : Int32) (s : mb_S) : Option (Unit × mb_S) :=
  mb_bnd (x2 + (1 : Int32)) fun v1 =>
  k2 x1 v1 s
def mF_callZero_l33 (k2 : Int32 → Int32 → mb_S → Option (Unit × mb_S)) : Nat → Int32 → Int32 → Int32 → mb_S → Option (Unit × mb_S)
  | 0 => fun _ _ _ _ => none
  | n + 1 => fun x1 x2 x3 s =>
    if (20 : Int32) ≤ x3 then
      mF_callZero_b62 k2 x1 x2 s
    else
      mb_ld (mb_I s 15) 120 ((x2 * (20 : Int32)) + x3) fun v2 =>
      mb_cal (mF_comeBack x1 x3 v2 s) fun _u s3 =>
      mb_bnd (x3 + (1 : Int32)) fun v4 =>
      (mF_callZero_l33 k2 n) x1 x2 v4 s3
theorem mF_callZero_l33_s (k2 : Int32 → Int32 → mb_S → Option (Unit × mb_S)) (n : Nat) (x1 : Int32) (x2 : Int32) (x3 : Int32) (s : mb_S) : mF_callZero_l33 k2 (n + 1) x1 x2 x3 s =
    if (20 : Int32) ≤ x3 then
      mF_callZero_b62 k2 x1 x2 s
    else
      mb_ld (mb_I s 15) 120 ((x2 * (20 : Int32)) + x3) fun v2 =>
      mb_cal (mF_comeBack x1 x3 v2 s) fun _u s3 =>
      mb_bnd (x3 + (1 : Int32)) fun v4 =>
      (mF_callZero_l33 k2 n) x1 x2 v4 s3
  := rfl
def mF_callZero_l2  : Nat → Int32 → Int32 → mb_S → Option (Unit × mb_S)
  | 0 => fun _ _ _ => none
  | n + 1 => fun x1 x2 s =>
    if (6 : Int32) ≤ x2 then
      some ((), s)
    else
      mb_ld (mb_I s 13) 78 x1 fun v5 =>
      mb_cal0 (mX_has v5 x2) fun v6 =>
      if v6 = (0 : Int32) then
        mF_callZero_b62 (mF_callZero_l2  n) x1 x2 s
      else
        mb_cal (mF_growZero x2 (0 : Int32) s) fun _u s7 =>
        mF_callZero_l33 (mF_callZero_l2  n) mb_fuel x1 x2 (16 : Int32) s7
theorem mF_callZero_l2_s  (n : Nat) (x1 : Int32) (x2 : Int32) (s : mb_S) : mF_callZero_l2  (n + 1) x1 x2 s =
    if (6 : Int32) ≤ x2 then
      some ((), s)
    else
      mb_ld (mb_I s 13) 78 x1 fun v5 =>
      mb_cal0 (mX_has v5 x2) fun v6 =>
      if v6 = (0 : Int32) then
        mF_callZero_b62 (mF_callZero_l2  n) x1 x2 s
      else
        mb_cal (mF_growZero x2 (0 : Int32) s) fun _u s7 =>
        mF_callZero_l33 (mF_callZero_l2  n) mb_fuel x1 x2 (16 : Int32) s7
  := rfl
def mF_callZero (x1 : Int32) (s : mb_S) : Option (Unit × mb_S) :=
  mF_callZero_l2  mb_fuel x1 (0 : Int32) s
def mF_passZero_b122   (s : mb_S) : Option (Unit × mb_S) :=
  some ((), s)
def mF_passZero_b110  (x3 : Int32) (x4 : Int32) (s : mb_S) : Option (Unit × mb_S) :=
  if x4 = (7 : Int32) then
    mb_cal (mF_callZero x3 s) fun _u s1 =>
    mF_passZero_b122  s1
  else
    mF_passZero_b122  s
def mF_passZero_b74  (x3 : Int32) (x4 : Int32) (s : mb_S) : Option (Unit × mb_S) :=
  if x4 = (1 : Int32) then
    mb_ld (mb_I s 4) 78 x3 fun v2 =>
    mb_ld (mb_I s 1) 78 x3 fun v3 =>
    mb_cal (mF_growHeld (x3 + (1 : Int32)) ((16 : Int32) + v2) ((1 : Int32) <<< (v3 &&& 31)) s) fun _u s4 =>
    mF_passZero_b110  x3 x4 s4
  else
    mF_passZero_b110  x3 x4 s
def mF_passZero_b55  (x1 : Int32) (x3 : Int32) (x4 : Int32) (s : mb_S) : Option (Unit × mb_S) :=
  mb_cal (mP_jumpSpot x1 x3 s) fun v5 s6 =>
  mb_cal (mF_growZero x1 (v5 - (x1 * (13 : Int32))) s6) fun _u s7 =>
  mF_passZero_b74  x3 x4 s7
def mF_passZero_b41  (x1 : Int32) (x3 : Int32) (x4 : Int32) (s : mb_S) : Option (Unit × mb_S) :=
  if x4 = (9 : Int32) then
    mF_passZero_b55  x1 x3 x4 s
  else
    if x4 = (8 : Int32) then
      mF_passZero_b55  x1 x3 x4 s
    else
      mF_passZero_b74  x3 x4 s
def mF_passZero (x1 : Int32) (x2 : Int32) (s : mb_S) : Option (Unit × mb_S) :=
  mb_bnd ((x1 * (13 : Int32)) + x2) fun v8 =>
  mb_ld (mb_I s 0) 78 v8 fun v9 =>
  if v9 = (10 : Int32) then
    some ((), s)
  else
    if v9 = (9 : Int32) then
      mF_passZero_b41  x1 v8 v9 s
    else
      mb_cal (mF_growZero x1 (x2 + (1 : Int32)) s) fun _u s10 =>
      mF_passZero_b41  x1 v8 v9 s10
def mF_enter_b80 (k3 : Int32 → Int32 → Int32 → Int32 → mb_S → Option (Unit × mb_S)) (x1 : Int32) (x2 : Int32) (x3 : Int32) (x4 : Int32) (s : mb_S) : Option (Unit × mb_S) :=
  mb_bnd (x4 + (1 : Int32)) fun v1 =>
  k3 x1 x2 x3 v1 s
def mF_enter_l3  : Nat → Int32 → Int32 → Int32 → Int32 → mb_S → Option (Unit × mb_S)
  | 0 => fun _ _ _ _ _ => none
  | n + 1 => fun x1 x2 x3 x4 s =>
    if (16 : Int32) ≤ x4 then
      some ((), s)
    else
      mb_bnd ((x1 * (20 : Int32)) + x4) fun v2 =>
      mb_cal0 (mX_has x2 x4) fun v3 =>
      if v3 = (0 : Int32) then
        mF_enter_b80 (mF_enter_l3  n) x1 x2 x3 x4 s
      else
        mb_ld (mb_I s 16) 120 v2 fun v4 =>
        if (x3 &&& (v4 ^^^ (-1 : Int32))) = (0 : Int32) then
          mF_enter_b80 (mF_enter_l3  n) x1 x2 x3 x4 s
        else
          mb_ld (mb_I s 16) 120 v2 fun v5 =>
          mb_stI s 16 120 v2 (v5 ||| x3) fun s6 =>
          mb_ld (mb_I s6 14) 1560 (((x1 * (13 : Int32)) * (20 : Int32)) + x4) fun v7 =>
          mb_stI s6 14 1560 (((x1 * (13 : Int32)) * (20 : Int32)) + x4) (v7 ||| ((1 : Int32) <<< (x4 &&& 31))) fun s8 =>
          mb_putZ s8 4 (1 : Int32) fun s9 =>
          mF_enter_b80 (mF_enter_l3  n) x1 x2 x3 x4 s9
theorem mF_enter_l3_s  (n : Nat) (x1 : Int32) (x2 : Int32) (x3 : Int32) (x4 : Int32) (s : mb_S) : mF_enter_l3  (n + 1) x1 x2 x3 x4 s =
    if (16 : Int32) ≤ x4 then
      some ((), s)
    else
      mb_bnd ((x1 * (20 : Int32)) + x4) fun v2 =>
      mb_cal0 (mX_has x2 x4) fun v3 =>
      if v3 = (0 : Int32) then
        mF_enter_b80 (mF_enter_l3  n) x1 x2 x3 x4 s
      else
        mb_ld (mb_I s 16) 120 v2 fun v4 =>
        if (x3 &&& (v4 ^^^ (-1 : Int32))) = (0 : Int32) then
          mF_enter_b80 (mF_enter_l3  n) x1 x2 x3 x4 s
        else
          mb_ld (mb_I s 16) 120 v2 fun v5 =>
          mb_stI s 16 120 v2 (v5 ||| x3) fun s6 =>
          mb_ld (mb_I s6 14) 1560 (((x1 * (13 : Int32)) * (20 : Int32)) + x4) fun v7 =>
          mb_stI s6 14 1560 (((x1 * (13 : Int32)) * (20 : Int32)) + x4) (v7 ||| ((1 : Int32) <<< (x4 &&& 31))) fun s8 =>
          mb_putZ s8 4 (1 : Int32) fun s9 =>
          mF_enter_b80 (mF_enter_l3  n) x1 x2 x3 x4 s9
  := rfl
def mF_enter (x1 : Int32) (x2 : Int32) (x3 : Int32) (s : mb_S) : Option (Unit × mb_S) :=
  mF_enter_l3  mb_fuel x1 x2 x3 (0 : Int32) s
def mF_exitsOfAll_b36 (k5 : Int32 → Int32 → Int32 → Int32 → mb_S → Option (Int32 × mb_S)) (x1 : Int32) (x2 : Int32) (x3 : Int32) (x4 : Int32) (s : mb_S) : Option (Int32 × mb_S) :=
  mb_bnd (x4 + (1 : Int32)) fun v1 =>
  k5 x1 x2 x3 v1 s
def mF_exitsOfAll_l5  : Nat → Int32 → Int32 → Int32 → Int32 → mb_S → Option (Int32 × mb_S)
  | 0 => fun _ _ _ _ _ => none
  | n + 1 => fun x1 x2 x3 x4 s =>
    if (16 : Int32) ≤ x4 then
      some (x3, s)
    else
      mb_cal0 (mX_has x2 x4) fun v2 =>
      if v2 = (0 : Int32) then
        mF_exitsOfAll_b36 (mF_exitsOfAll_l5  n) x1 x2 x3 x4 s
      else
        mb_ld (mb_I s 15) 120 ((x1 * (20 : Int32)) + x4) fun v3 =>
        mb_bnd (x3 ||| v3) fun v4 =>
        mF_exitsOfAll_b36 (mF_exitsOfAll_l5  n) x1 x2 v4 x4 s
theorem mF_exitsOfAll_l5_s  (n : Nat) (x1 : Int32) (x2 : Int32) (x3 : Int32) (x4 : Int32) (s : mb_S) : mF_exitsOfAll_l5  (n + 1) x1 x2 x3 x4 s =
    if (16 : Int32) ≤ x4 then
      some (x3, s)
    else
      mb_cal0 (mX_has x2 x4) fun v2 =>
      if v2 = (0 : Int32) then
        mF_exitsOfAll_b36 (mF_exitsOfAll_l5  n) x1 x2 x3 x4 s
      else
        mb_ld (mb_I s 15) 120 ((x1 * (20 : Int32)) + x4) fun v3 =>
        mb_bnd (x3 ||| v3) fun v4 =>
        mF_exitsOfAll_b36 (mF_exitsOfAll_l5  n) x1 x2 v4 x4 s
  := rfl
def mF_exitsOfAll (x1 : Int32) (x2 : Int32) (s : mb_S) : Option (Int32 × mb_S) :=
  mF_exitsOfAll_l5  mb_fuel x1 x2 (0 : Int32) (0 : Int32) s
def mF_call_b142 (k85 : Int32 → Int32 → Int32 → Int32 → Int32 → mb_S → Option (Unit × mb_S)) (x1 : Int32) (x2 : Int32) (x3 : Int32) (x5 : Int32) (x6 : Int32) (s : mb_S) : Option (Unit × mb_S) :=
  mb_bnd (x6 + (1 : Int32)) fun v1 =>
  k85 x1 x2 x3 x5 v1 s
def mF_call_l85  : Nat → Int32 → Int32 → Int32 → Int32 → Int32 → mb_S → Option (Unit × mb_S)
  | 0 => fun _ _ _ _ _ _ => none
  | n + 1 => fun x1 x2 x3 x5 x6 s =>
    if (6 : Int32) ≤ x6 then
      some ((), s)
    else
      mb_ld (mb_I s 13) 78 x2 fun v2 =>
      mb_cal0 (mX_has v2 x6) fun v3 =>
      if v3 = (0 : Int32) then
        mF_call_b142 (mF_call_l85  n) x1 x2 x3 x5 x6 s
      else
        mb_ld (mb_I s 16) 120 ((x1 * (20 : Int32)) + x3) fun v4 =>
        mb_cal (mF_enter x6 x5 v4 s) fun _u s5 =>
        mb_cal (mF_exitsOfAll x6 x5 s5) fun v6 s7 =>
        mb_cal (mF_comeBack x2 x3 v6 s7) fun _u s8 =>
        mF_call_b142 (mF_call_l85  n) x1 x2 x3 x5 x6 s8
theorem mF_call_l85_s  (n : Nat) (x1 : Int32) (x2 : Int32) (x3 : Int32) (x5 : Int32) (x6 : Int32) (s : mb_S) : mF_call_l85  (n + 1) x1 x2 x3 x5 x6 s =
    if (6 : Int32) ≤ x6 then
      some ((), s)
    else
      mb_ld (mb_I s 13) 78 x2 fun v2 =>
      mb_cal0 (mX_has v2 x6) fun v3 =>
      if v3 = (0 : Int32) then
        mF_call_b142 (mF_call_l85  n) x1 x2 x3 x5 x6 s
      else
        mb_ld (mb_I s 16) 120 ((x1 * (20 : Int32)) + x3) fun v4 =>
        mb_cal (mF_enter x6 x5 v4 s) fun _u s5 =>
        mb_cal (mF_exitsOfAll x6 x5 s5) fun v6 s7 =>
        mb_cal (mF_comeBack x2 x3 v6 s7) fun _u s8 =>
        mF_call_b142 (mF_call_l85  n) x1 x2 x3 x5 x6 s8
  := rfl
def mF_call_b82  (x1 : Int32) (x2 : Int32) (x3 : Int32) (x5 : Int32) (s : mb_S) : Option (Unit × mb_S) :=
  mF_call_l85  mb_fuel x1 x2 x3 x5 (0 : Int32) s
def mF_call_b57  (x1 : Int32) (x2 : Int32) (x3 : Int32) (x4 : Int32) (x5 : Int32) (s : mb_S) : Option (Unit × mb_S) :=
  mb_ld (mb_I s 3) 78 x2 fun v9 =>
  mb_cal0 (mX_has x4 (v9 - v9 / (4 : Int32) * (4 : Int32))) fun v10 =>
  if v10 = (0 : Int32) then
    mF_call_b82  x1 x2 x3 x5 s
  else
    mb_bnd (x5 ||| (2 : Int32)) fun v11 =>
    mF_call_b82  x1 x2 x3 v11 s
def mF_call (x1 : Int32) (x2 : Int32) (x3 : Int32) (x4 : Int32) (s : mb_S) : Option (Unit × mb_S) :=
  mb_ld (mb_I s 1) 78 x2 fun v12 =>
  mb_cal (mF_growHeld (x2 + (1 : Int32)) x3 ((x4 &&& (15 : Int32)) &&& (((1 : Int32) <<< (v12 &&& 31)) ^^^ (-1 : Int32))) s) fun _u s13 =>
  mb_bnd (x4 &&& (65520 : Int32)) fun v14 =>
  mb_ld (mb_I s13 2) 78 x2 fun v15 =>
  mb_cal0 (mX_has x4 v15) fun v16 =>
  if v16 = (0 : Int32) then
    mF_call_b57  x1 x2 x3 x4 v14 s13
  else
    mb_bnd (v14 ||| (1 : Int32)) fun v17 =>
    mF_call_b57  x1 x2 x3 x4 v17 s13
def mF_growExit_b38   (s : mb_S) : Option (Unit × mb_S) :=
  some ((), s)
def mF_growExit (x1 : Int32) (x2 : Int32) (x3 : Int32) (s : mb_S) : Option (Unit × mb_S) :=
  mb_bnd ((x1 * (20 : Int32)) + x2) fun v1 =>
  mb_ld (mb_I s 15) 120 v1 fun v2 =>
  if (x3 &&& (v2 ^^^ (-1 : Int32))) = (0 : Int32) then
    mF_growExit_b38  s
  else
    mb_ld (mb_I s 15) 120 v1 fun v3 =>
    mb_stI s 15 120 v1 (v3 ||| x3) fun s4 =>
    mb_putZ s4 4 (1 : Int32) fun s5 =>
    mF_growExit_b38  s5
def mF_fieldsOf_b30 (k4 : Int32 → Int32 → Int32 → Int32 → Option Int32) (x0 : Int32) (x1 : Int32) (x2 : Int32) (x3 : Int32) : Option Int32 :=
  mb_bnd (x3 + (1 : Int32)) fun v1 =>
  k4 x0 x1 x2 v1
def mF_fieldsOf_l4  : Nat → Int32 → Int32 → Int32 → Int32 → Option Int32
  | 0 => fun _ _ _ _ => none
  | n + 1 => fun x0 x1 x2 x3 =>
    if (6 : Int32) ≤ x3 then
      some x2
    else
      mb_cal0 (mX_has x0 x3) fun v2 =>
      if v2 = (0 : Int32) then
        mF_fieldsOf_b30 (mF_fieldsOf_l4  n) x0 x1 x2 x3
      else
        mb_bnd (x2 ||| ((1 : Int32) <<< ((((4 : Int32) + (x3 * (2 : Int32))) + x1) &&& 31))) fun v3 =>
        mF_fieldsOf_b30 (mF_fieldsOf_l4  n) x0 x1 v3 x3
theorem mF_fieldsOf_l4_s  (n : Nat) (x0 : Int32) (x1 : Int32) (x2 : Int32) (x3 : Int32) : mF_fieldsOf_l4  (n + 1) x0 x1 x2 x3 =
    if (6 : Int32) ≤ x3 then
      some x2
    else
      mb_cal0 (mX_has x0 x3) fun v2 =>
      if v2 = (0 : Int32) then
        mF_fieldsOf_b30 (mF_fieldsOf_l4  n) x0 x1 x2 x3
      else
        mb_bnd (x2 ||| ((1 : Int32) <<< ((((4 : Int32) + (x3 * (2 : Int32))) + x1) &&& 31))) fun v3 =>
        mF_fieldsOf_b30 (mF_fieldsOf_l4  n) x0 x1 v3 x3
  := rfl
def mF_fieldsOf (x0 : Int32) (x1 : Int32) : Option Int32 :=
  mF_fieldsOf_l4  mb_fuel x0 x1 (0 : Int32) (0 : Int32)
def mF_changed_b206  (x3 : Int32) (s : mb_S) : Option (Int32 × mb_S) :=
  some (x3, s)
def mF_changed_b205  (y0 : Int32) (s : mb_S) : Option (Int32 × mb_S) :=
  some (y0, s)
def mF_changed_b166  (y0 : Int32) (s : mb_S) : Option (Int32 × mb_S) :=
  some (y0, s)
def mF_changed_b120  (y0 : Int32) (s : mb_S) : Option (Int32 × mb_S) :=
  some (y0, s)
def mF_changed_b96  (x7 : Int32) (s : mb_S) : Option (Int32 × mb_S) :=
  some (x7, s)
def mF_changed (x1 : Int32) (x2 : Int32) (x3 : Int32) (s : mb_S) : Option (Int32 × mb_S) :=
  mb_ld (mb_I s 1) 78 x2 fun v1 =>
  mb_ld (mb_I s 2) 78 x2 fun v2 =>
  mb_ld (mb_I s 3) 78 x2 fun v3 =>
  mb_bnd (x3 &&& (((1 : Int32) <<< (v1 &&& 31)) ^^^ (-1 : Int32))) fun v4 =>
  mb_ld (mb_I s 0) 78 x2 fun v5 =>
  if v5 = (0 : Int32) then
    mF_changed_b96  v4 s
  else
  if v5 = (1 : Int32) then
    mF_changed_b96  v4 s
  else
  if v5 = (3 : Int32) then
    mF_changed_b96  v4 s
  else
  if v5 = (4 : Int32) then
    mb_cal0 (mX_has x3 v2) fun v6 =>
    if v6 = (0 : Int32) then
      mF_changed_b120  v4 s
    else
      mF_changed_b120  (v4 ||| ((1 : Int32) <<< (v1 &&& 31))) s
  else
  if v5 = (5 : Int32) then
    mb_ld (mb_I s 11) 24 ((x1 * (4 : Int32)) + v2) fun v7 =>
    mb_cal0 (mF_fieldsOf v7 v3) fun v8 =>
    mb_bnd (((1 : Int32) <<< (v2 &&& 31)) ||| v8) fun v9 =>
    if (x3 &&& v9) = (0 : Int32) then
      mF_changed_b166  v4 s
    else
      mF_changed_b166  (v4 ||| ((1 : Int32) <<< (v1 &&& 31))) s
  else
  if v5 = (6 : Int32) then
    mb_ld (mb_I s 11) 24 ((x1 * (4 : Int32)) + v1) fun v10 =>
    mb_cal0 (mX_has x3 v2) fun v11 =>
    if v11 = (0 : Int32) then
      mF_changed_b205  x3 s
    else
      mb_cal0 (mF_fieldsOf v10 v3) fun v12 =>
      mF_changed_b205  (x3 ||| v12) s
  else
    mF_changed_b206  x3 s
def mF_pass_b131   (s : mb_S) : Option (Unit × mb_S) :=
  some ((), s)
def mF_pass_b115  (x1 : Int32) (x2 : Int32) (x3 : Int32) (x6 : Int32) (s : mb_S) : Option (Unit × mb_S) :=
  mb_cal (mP_jumpSpot x1 x2 s) fun v1 s2 =>
  mb_cal (mF_growHeld v1 x3 x6 s2) fun _u s3 =>
  mF_pass_b131  s3
def mF_pass_b101  (x1 : Int32) (x2 : Int32) (x3 : Int32) (x5 : Int32) (x6 : Int32) (s : mb_S) : Option (Unit × mb_S) :=
  if x5 = (9 : Int32) then
    mF_pass_b115  x1 x2 x3 x6 s
  else
    if x5 = (8 : Int32) then
      mF_pass_b115  x1 x2 x3 x6 s
    else
      mF_pass_b131  s
def mF_pass_b57  (x1 : Int32) (x3 : Int32) (x4 : Int32) (y0 : Int32) (s : mb_S) : Option (Unit × mb_S) :=
  mb_cal (mF_growExit x1 x3 ((x4 &&& (65520 : Int32)) ||| y0) s) fun _u s4 =>
  some ((), s4)
def mF_pass (x1 : Int32) (x2 : Int32) (x3 : Int32) (x4 : Int32) (s : mb_S) : Option (Unit × mb_S) :=
  mb_ld (mb_I s 0) 78 x2 fun v5 =>
  if v5 = (7 : Int32) then
    mb_cal (mF_call x1 x2 x3 x4 s) fun _u s11 =>
    some ((), s11)
  else
    if v5 = (10 : Int32) then
      mb_ld (mb_I s 1) 78 x2 fun v9 =>
      mb_cal0 (mX_has x4 v9) fun v10 =>
      if v10 = (0 : Int32) then
        mF_pass_b57  x1 x3 x4 (0 : Int32) s
      else
        mF_pass_b57  x1 x3 x4 (1 : Int32) s
    else
      mb_cal (mF_changed x1 x2 x4 s) fun v6 s7 =>
      if v5 = (9 : Int32) then
        mF_pass_b101  x1 x2 x3 v5 v6 s7
      else
        mb_cal (mF_growHeld (x2 + (1 : Int32)) x3 v6 s7) fun _u s8 =>
        mF_pass_b101  x1 x2 x3 v5 v6 s8
def mF_endAll_l2  : Nat → Int32 → Int32 → Int32 → mb_S → Option (Unit × mb_S)
  | 0 => fun _ _ _ _ => none
  | n + 1 => fun x1 x2 x3 s =>
    if (20 : Int32) ≤ x3 then
      some ((), s)
    else
      mb_ld (mb_I s 14) 1560 ((x2 * (20 : Int32)) + x3) fun v1 =>
      mb_cal (mF_growExit x1 x3 (v1 &&& (65520 : Int32)) s) fun _u s2 =>
      mb_bnd (x3 + (1 : Int32)) fun v3 =>
      (mF_endAll_l2  n) x1 x2 v3 s2
theorem mF_endAll_l2_s  (n : Nat) (x1 : Int32) (x2 : Int32) (x3 : Int32) (s : mb_S) : mF_endAll_l2  (n + 1) x1 x2 x3 s =
    if (20 : Int32) ≤ x3 then
      some ((), s)
    else
      mb_ld (mb_I s 14) 1560 ((x2 * (20 : Int32)) + x3) fun v1 =>
      mb_cal (mF_growExit x1 x3 (v1 &&& (65520 : Int32)) s) fun _u s2 =>
      mb_bnd (x3 + (1 : Int32)) fun v3 =>
      (mF_endAll_l2  n) x1 x2 v3 s2
  := rfl
def mF_endAll (x1 : Int32) (x2 : Int32) (s : mb_S) : Option (Unit × mb_S) :=
  mF_endAll_l2  mb_fuel x1 x2 (0 : Int32) s
def mF_sweep_b85 (k12 : Int32 → Int32 → Int32 → mb_S → Option (Unit × mb_S)) (k47 : Int32 → Int32 → Int32 → Int32 → Int32 → mb_S → Option (Unit × mb_S)) (x1 : Int32) (x2 : Int32) (x3 : Int32) (x4 : Int32) (x5 : Int32) (s : mb_S) : Option (Unit × mb_S) :=
  mb_bnd (x5 + (1 : Int32)) fun v1 =>
  k47 x1 x2 x3 x4 v1 s
def mF_sweep_l47 (k12 : Int32 → Int32 → Int32 → mb_S → Option (Unit × mb_S)) : Nat → Int32 → Int32 → Int32 → Int32 → Int32 → mb_S → Option (Unit × mb_S)
  | 0 => fun _ _ _ _ _ _ => none
  | n + 1 => fun x1 x2 x3 x4 x5 s =>
    if (20 : Int32) ≤ x5 then
      mb_bnd (x3 + (1 : Int32)) fun v2 =>
      k12 x1 x2 v2 s
    else
      mb_ld (mb_I s 14) 1560 ((x4 * (20 : Int32)) + x5) fun v3 =>
      if v3 = (0 : Int32) then
        mF_sweep_b85 k12 (mF_sweep_l47 k12 n) x1 x2 x3 x4 x5 s
      else
        mb_cal (mF_pass x1 x4 x5 v3 s) fun _u s4 =>
        mF_sweep_b85 k12 (mF_sweep_l47 k12 n) x1 x2 x3 x4 x5 s4
theorem mF_sweep_l47_s (k12 : Int32 → Int32 → Int32 → mb_S → Option (Unit × mb_S)) (n : Nat) (x1 : Int32) (x2 : Int32) (x3 : Int32) (x4 : Int32) (x5 : Int32) (s : mb_S) : mF_sweep_l47 k12 (n + 1) x1 x2 x3 x4 x5 s =
    if (20 : Int32) ≤ x5 then
      mb_bnd (x3 + (1 : Int32)) fun v2 =>
      k12 x1 x2 v2 s
    else
      mb_ld (mb_I s 14) 1560 ((x4 * (20 : Int32)) + x5) fun v3 =>
      if v3 = (0 : Int32) then
        mF_sweep_b85 k12 (mF_sweep_l47 k12 n) x1 x2 x3 x4 x5 s
      else
        mb_cal (mF_pass x1 x4 x5 v3 s) fun _u s4 =>
        mF_sweep_b85 k12 (mF_sweep_l47 k12 n) x1 x2 x3 x4 x5 s4
  := rfl
def mF_sweep_b36 (k12 : Int32 → Int32 → Int32 → mb_S → Option (Unit × mb_S)) (x1 : Int32) (x2 : Int32) (x3 : Int32) (s : mb_S) : Option (Unit × mb_S) :=
  mb_bnd ((x1 * (13 : Int32)) + x3) fun v5 =>
  mF_sweep_l47 k12 mb_fuel x1 x2 x3 v5 (0 : Int32) s
def mF_sweep_l12  : Nat → Int32 → Int32 → Int32 → mb_S → Option (Unit × mb_S)
  | 0 => fun _ _ _ _ => none
  | n + 1 => fun x1 x2 x3 s =>
    if x2 ≤ x3 then
      mb_cal (mF_endAll x1 ((x1 * (13 : Int32)) + x2) s) fun _u s6 =>
      some ((), s6)
    else
      mb_ld (mb_I s 17) 6 x1 fun v7 =>
      mb_cal0 (mX_has v7 x3) fun v8 =>
      if v8 = (0 : Int32) then
        mF_sweep_b36 (mF_sweep_l12  n) x1 x2 x3 s
      else
        mb_cal (mF_passZero x1 x3 s) fun _u s9 =>
        mF_sweep_b36 (mF_sweep_l12  n) x1 x2 x3 s9
theorem mF_sweep_l12_s  (n : Nat) (x1 : Int32) (x2 : Int32) (x3 : Int32) (s : mb_S) : mF_sweep_l12  (n + 1) x1 x2 x3 s =
    if x2 ≤ x3 then
      mb_cal (mF_endAll x1 ((x1 * (13 : Int32)) + x2) s) fun _u s6 =>
      some ((), s6)
    else
      mb_ld (mb_I s 17) 6 x1 fun v7 =>
      mb_cal0 (mX_has v7 x3) fun v8 =>
      if v8 = (0 : Int32) then
        mF_sweep_b36 (mF_sweep_l12  n) x1 x2 x3 s
      else
        mb_cal (mF_passZero x1 x3 s) fun _u s9 =>
        mF_sweep_b36 (mF_sweep_l12  n) x1 x2 x3 s9
  := rfl
def mF_sweep (x1 : Int32) (s : mb_S) : Option (Unit × mb_S) :=
  mb_ld (mb_I s 5) 6 x1 fun v10 =>
  mF_sweep_l12  mb_fuel x1 v10 (0 : Int32) s
def mF_workOut_b61   (s : mb_S) : Option (Unit × mb_S) :=
  some ((), s)
def mF_workOut_l38 (k18 : Int32 → mb_S → Option (Unit × mb_S)) : Nat → Int32 → Int32 → mb_S → Option (Unit × mb_S)
  | 0 => fun _ _ _ => none
  | n + 1 => fun x1 x2 s =>
    if (6 : Int32) ≤ x2 then
      mb_bnd (x1 + (1 : Int32)) fun v1 =>
      k18 v1 s
    else
      mb_cal (mF_sweep x2 s) fun _u s2 =>
      mb_bnd (x2 + (1 : Int32)) fun v3 =>
      (mF_workOut_l38 k18 n) x1 v3 s2
theorem mF_workOut_l38_s (k18 : Int32 → mb_S → Option (Unit × mb_S)) (n : Nat) (x1 : Int32) (x2 : Int32) (s : mb_S) : mF_workOut_l38 k18 (n + 1) x1 x2 s =
    if (6 : Int32) ≤ x2 then
      mb_bnd (x1 + (1 : Int32)) fun v1 =>
      k18 v1 s
    else
      mb_cal (mF_sweep x2 s) fun _u s2 =>
      mb_bnd (x2 + (1 : Int32)) fun v3 =>
      (mF_workOut_l38 k18 n) x1 v3 s2
  := rfl
def mF_workOut_l18  : Nat → Int32 → mb_S → Option (Unit × mb_S)
  | 0 => fun _ _ => none
  | n + 1 => fun x1 s =>
    if (mb_F s 4) = (0 : Int32) then
      mF_workOut_b61  s
    else
      if (1000000 : Int32) ≤ x1 then
        mF_workOut_b61  s
      else
        mb_putZ s 4 (0 : Int32) fun s4 =>
        mF_workOut_l38 (mF_workOut_l18  n) mb_fuel x1 (0 : Int32) s4
theorem mF_workOut_l18_s  (n : Nat) (x1 : Int32) (s : mb_S) : mF_workOut_l18  (n + 1) x1 s =
    if (mb_F s 4) = (0 : Int32) then
      mF_workOut_b61  s
    else
      if (1000000 : Int32) ≤ x1 then
        mF_workOut_b61  s
      else
        mb_putZ s 4 (0 : Int32) fun s4 =>
        mF_workOut_l38 (mF_workOut_l18  n) mb_fuel x1 (0 : Int32) s4
  := rfl
def mF_workOut  (s : mb_S) : Option (Unit × mb_S) :=
  mb_cal (mF_clear  s) fun _u s5 =>
  mb_stI s5 17 6 (0 : Int32) (1 : Int32) fun s6 =>
  mb_putZ s6 4 (1 : Int32) fun s7 =>
  mF_workOut_l18  mb_fuel (0 : Int32) s7
def mF_countHeld_l5  : Nat → Int32 → Int32 → Int32 → Int32 → mb_S → Option (Int32 × mb_S)
  | 0 => fun _ _ _ _ _ => none
  | n + 1 => fun x1 x2 x3 x4 s =>
    mb_ld (mb_I s 5) 6 x1 fun v1 =>
    if v1 < x4 then
      some (x3, s)
    else
      mb_ld (mb_I s 14) 1560 ((((x1 * (13 : Int32)) + x4) * (20 : Int32)) + x2) fun v2 =>
      mb_cal0 (mJ_bitCount v2) fun v3 =>
      mb_bnd (x3 + v3) fun v4 =>
      mb_bnd (x4 + (1 : Int32)) fun v5 =>
      (mF_countHeld_l5  n) x1 x2 v4 v5 s
theorem mF_countHeld_l5_s  (n : Nat) (x1 : Int32) (x2 : Int32) (x3 : Int32) (x4 : Int32) (s : mb_S) : mF_countHeld_l5  (n + 1) x1 x2 x3 x4 s =
    mb_ld (mb_I s 5) 6 x1 fun v1 =>
    if v1 < x4 then
      some (x3, s)
    else
      mb_ld (mb_I s 14) 1560 ((((x1 * (13 : Int32)) + x4) * (20 : Int32)) + x2) fun v2 =>
      mb_cal0 (mJ_bitCount v2) fun v3 =>
      mb_bnd (x3 + v3) fun v4 =>
      mb_bnd (x4 + (1 : Int32)) fun v5 =>
      (mF_countHeld_l5  n) x1 x2 v4 v5 s
  := rfl
def mF_countHeld (x1 : Int32) (x2 : Int32) (s : mb_S) : Option (Int32 × mb_S) :=
  mF_countHeld_l5  mb_fuel x1 x2 (0 : Int32) (0 : Int32) s
def mF_countPaths_b63 (k4 : Int32 → Int32 → mb_S → Option (Int32 × mb_S)) (k24 : Int32 → Int32 → Int32 → mb_S → Option (Int32 × mb_S)) (x1 : Int32) (x2 : Int32) (x3 : Int32) (s : mb_S) : Option (Int32 × mb_S) :=
  mb_bnd (x3 + (1 : Int32)) fun v1 =>
  k24 x1 x2 v1 s
def mF_countPaths_l24 (k4 : Int32 → Int32 → mb_S → Option (Int32 × mb_S)) : Nat → Int32 → Int32 → Int32 → mb_S → Option (Int32 × mb_S)
  | 0 => fun _ _ _ _ => none
  | n + 1 => fun x1 x2 x3 s =>
    if (20 : Int32) ≤ x3 then
      mb_bnd (x2 + (1 : Int32)) fun v2 =>
      k4 x1 v2 s
    else
      mb_ld (mb_I s 16) 120 ((x2 * (20 : Int32)) + x3) fun v3 =>
      mb_cal0 (mJ_bitCount v3) fun v4 =>
      if v4 = (0 : Int32) then
        mF_countPaths_b63 k4 (mF_countPaths_l24 k4 n) x1 x2 x3 s
      else
        mb_cal (mF_countHeld x2 x3 s) fun v5 s6 =>
        mb_bnd (x1 + (v4 * v5)) fun v7 =>
        mF_countPaths_b63 k4 (mF_countPaths_l24 k4 n) v7 x2 x3 s6
theorem mF_countPaths_l24_s (k4 : Int32 → Int32 → mb_S → Option (Int32 × mb_S)) (n : Nat) (x1 : Int32) (x2 : Int32) (x3 : Int32) (s : mb_S) : mF_countPaths_l24 k4 (n + 1) x1 x2 x3 s =
    if (20 : Int32) ≤ x3 then
      mb_bnd (x2 + (1 : Int32)) fun v2 =>
      k4 x1 v2 s
    else
      mb_ld (mb_I s 16) 120 ((x2 * (20 : Int32)) + x3) fun v3 =>
      mb_cal0 (mJ_bitCount v3) fun v4 =>
      if v4 = (0 : Int32) then
        mF_countPaths_b63 k4 (mF_countPaths_l24 k4 n) x1 x2 x3 s
      else
        mb_cal (mF_countHeld x2 x3 s) fun v5 s6 =>
        mb_bnd (x1 + (v4 * v5)) fun v7 =>
        mF_countPaths_b63 k4 (mF_countPaths_l24 k4 n) v7 x2 x3 s6
  := rfl
def mF_countPaths_l4  : Nat → Int32 → Int32 → mb_S → Option (Int32 × mb_S)
  | 0 => fun _ _ _ => none
  | n + 1 => fun x1 x2 s =>
    if (6 : Int32) ≤ x2 then
      some (x1, s)
    else
      mb_ld (mb_I s 17) 6 x2 fun v8 =>
      mb_cal0 (mJ_bitCount v8) fun v9 =>
      mb_bnd (x1 + v9) fun v10 =>
      mF_countPaths_l24 (mF_countPaths_l4  n) mb_fuel v10 x2 (0 : Int32) s
theorem mF_countPaths_l4_s  (n : Nat) (x1 : Int32) (x2 : Int32) (s : mb_S) : mF_countPaths_l4  (n + 1) x1 x2 s =
    if (6 : Int32) ≤ x2 then
      some (x1, s)
    else
      mb_ld (mb_I s 17) 6 x2 fun v8 =>
      mb_cal0 (mJ_bitCount v8) fun v9 =>
      mb_bnd (x1 + v9) fun v10 =>
      mF_countPaths_l24 (mF_countPaths_l4  n) mb_fuel v10 x2 (0 : Int32) s
  := rfl
def mF_countPaths  (s : mb_S) : Option (Int32 × mb_S) :=
  mF_countPaths_l4  mb_fuel (0 : Int32) (0 : Int32) s
def mX_analyse (x1 : Int32) (s : mb_S) : Option (Int32 × mb_S) :=
  mb_cal (mQ_workOut  s) fun _u s1 =>
  mb_cal (mF_workOut  s1) fun _u s2 =>
  mb_cal (mF_countPaths  s2) fun v3 s4 =>
  if v3 ≤ x1 then
    mb_putF s4 0 (1 : Int32) fun s5 =>
    some (v3, s5)
  else
    mb_putF s4 0 (2 : Int32) fun s6 =>
    some ((-1 : Int32), s6)
def mX_verdict  (s : mb_S) : Option (Int32 × mb_S) :=
  some (mb_F s 0, s)
def mX_isSource (x1 : Int32) (s : mb_S) : Option (Int32 × mb_S) :=
  mb_ld (mb_I s 6) 11 (1 : Int32) fun v1 =>
  mb_cal0 (mX_isBelow x1 v1) fun v2 =>
  mb_retZ v2 s
def mX_isSink (x1 : Int32) (s : mb_S) : Option (Int32 × mb_S) :=
  mb_ld (mb_I s 6) 11 (2 : Int32) fun v1 =>
  mb_cal0 (mX_isBelow x1 v1) fun v2 =>
  mb_retZ v2 s
def mF_mayHold_b51 (k3 : Int32 → Int32 → Int32 → Int32 → Int32 → mb_S → Option (Int32 × mb_S)) (x1 : Int32) (x2 : Int32) (x3 : Int32) (x4 : Int32) (x5 : Int32) (s : mb_S) : Option (Int32 × mb_S) :=
  mb_bnd (x5 + (1 : Int32)) fun v1 =>
  k3 x1 x2 x3 x4 v1 s
def mF_mayHold_l3  : Nat → Int32 → Int32 → Int32 → Int32 → Int32 → mb_S → Option (Int32 × mb_S)
  | 0 => fun _ _ _ _ _ _ => none
  | n + 1 => fun x1 x2 x3 x4 x5 s =>
    if (20 : Int32) ≤ x5 then
      mb_retZ (0 : Int32) s
    else
      mb_ld (mb_I s 16) 120 ((x1 * (20 : Int32)) + x5) fun v2 =>
      mb_cal0 (mX_has v2 x4) fun v3 =>
      if v3 = (0 : Int32) then
        mF_mayHold_b51 (mF_mayHold_l3  n) x1 x2 x3 x4 x5 s
      else
        mb_ld (mb_I s 14) 1560 ((x2 * (20 : Int32)) + x5) fun v4 =>
        mb_cal0 (mX_has v4 x3) fun v5 =>
        if v5 = (0 : Int32) then
          mF_mayHold_b51 (mF_mayHold_l3  n) x1 x2 x3 x4 x5 s
        else
          mb_retZ (1 : Int32) s
theorem mF_mayHold_l3_s  (n : Nat) (x1 : Int32) (x2 : Int32) (x3 : Int32) (x4 : Int32) (x5 : Int32) (s : mb_S) : mF_mayHold_l3  (n + 1) x1 x2 x3 x4 x5 s =
    if (20 : Int32) ≤ x5 then
      mb_retZ (0 : Int32) s
    else
      mb_ld (mb_I s 16) 120 ((x1 * (20 : Int32)) + x5) fun v2 =>
      mb_cal0 (mX_has v2 x4) fun v3 =>
      if v3 = (0 : Int32) then
        mF_mayHold_b51 (mF_mayHold_l3  n) x1 x2 x3 x4 x5 s
      else
        mb_ld (mb_I s 14) 1560 ((x2 * (20 : Int32)) + x5) fun v4 =>
        mb_cal0 (mX_has v4 x3) fun v5 =>
        if v5 = (0 : Int32) then
          mF_mayHold_b51 (mF_mayHold_l3  n) x1 x2 x3 x4 x5 s
        else
          mb_retZ (1 : Int32) s
  := rfl
def mF_mayHold (x1 : Int32) (x2 : Int32) (x3 : Int32) (x4 : Int32) (s : mb_S) : Option (Int32 × mb_S) :=
  mF_mayHold_l3  mb_fuel x1 x2 x3 x4 (0 : Int32) s
def mX_finding_b24   (s : mb_S) : Option (Int32 × mb_S) :=
  mb_retZ (0 : Int32) s
def mX_finding (x1 : Int32) (x2 : Int32) (s : mb_S) : Option (Int32 × mb_S) :=
  if (mb_F s 0) = (1 : Int32) then
    mb_cal (mX_isSource x1 s) fun v1 s2 =>
    if v1 = (0 : Int32) then
      mX_finding_b24  s2
    else
      mb_cal (mX_isSink x2 s2) fun v3 s4 =>
      if v3 = (0 : Int32) then
        mX_finding_b24  s4
      else
        mb_ld (mb_I s4 8) 4 x2 fun v5 =>
        mb_ld (mb_I s4 1) 78 v5 fun v6 =>
        mb_cal (mF_mayHold (v5 / (13 : Int32)) v5 v6 x1 s4) fun v7 s8 =>
        mb_retZ v7 s8
  else
    mX_finding_b24  s
def mX_may_b55   (s : mb_S) : Option (Int32 × mb_S) :=
  mb_retZ (0 : Int32) s
def mX_may_b26   (s : mb_S) : Option (Int32 × mb_S) :=
  mb_retZ (0 : Int32) s
def mX_may (x1 : Int32) (x2 : Int32) (x3 : Int32) (x4 : Int32) (s : mb_S) : Option (Int32 × mb_S) :=
  if (mb_F s 0) = (1 : Int32) then
    mb_cal0 (mX_isBelow x1 (6 : Int32)) fun v1 =>
    if v1 = (0 : Int32) then
      mX_may_b26  s
    else
      mb_cal (mX_isSource x4 s) fun v2 s3 =>
      if v2 = (0 : Int32) then
        mX_may_b26  s3
      else
        mb_ld (mb_I s3 5) 6 x1 fun v4 =>
        mb_cal0 (mX_isBelow x2 (v4 + (1 : Int32))) fun v5 =>
        if v5 = (0 : Int32) then
          mX_may_b55  s3
        else
          mb_cal0 (mX_isBelow x3 (16 : Int32)) fun v6 =>
          if v6 = (0 : Int32) then
            mX_may_b55  s3
          else
            mb_cal (mF_mayHold x1 ((x1 * (13 : Int32)) + x2) x3 x4 s3) fun v7 s8 =>
            mb_retZ v7 s8
  else
    mX_may_b26  s
def mF_countEntries_l11  : Nat → Int32 → Int32 → Int32 → mb_S → Option (Int32 × mb_S)
  | 0 => fun _ _ _ _ => none
  | n + 1 => fun x1 x2 x3 s =>
    if (16 : Int32) ≤ x3 then
      some (x2, s)
    else
      mb_ld (mb_I s 16) 120 ((x1 * (20 : Int32)) + x3) fun v1 =>
      mb_cal0 (mJ_bitCount v1) fun v2 =>
      mb_bnd (x2 + v2) fun v3 =>
      mb_bnd (x3 + (1 : Int32)) fun v4 =>
      (mF_countEntries_l11  n) x1 v3 v4 s
theorem mF_countEntries_l11_s  (n : Nat) (x1 : Int32) (x2 : Int32) (x3 : Int32) (s : mb_S) : mF_countEntries_l11  (n + 1) x1 x2 x3 s =
    if (16 : Int32) ≤ x3 then
      some (x2, s)
    else
      mb_ld (mb_I s 16) 120 ((x1 * (20 : Int32)) + x3) fun v1 =>
      mb_cal0 (mJ_bitCount v1) fun v2 =>
      mb_bnd (x2 + v2) fun v3 =>
      mb_bnd (x3 + (1 : Int32)) fun v4 =>
      (mF_countEntries_l11  n) x1 v3 v4 s
  := rfl
def mF_countEntries (x1 : Int32) (s : mb_S) : Option (Int32 × mb_S) :=
  mb_ld (mb_I s 17) 6 x1 fun v5 =>
  mb_bnd (v5 &&& (1 : Int32)) fun v6 =>
  mF_countEntries_l11  mb_fuel x1 v6 (0 : Int32) s
def mX_entries_b17   (s : mb_S) : Option (Int32 × mb_S) :=
  some ((-1 : Int32), s)
def mX_entries (x1 : Int32) (s : mb_S) : Option (Int32 × mb_S) :=
  if (mb_F s 0) = (1 : Int32) then
    mb_cal0 (mX_isBelow x1 (6 : Int32)) fun v1 =>
    if v1 = (0 : Int32) then
      mX_entries_b17  s
    else
      mb_cal (mF_countEntries x1 s) fun v2 s3 =>
      some (v2, s3)
  else
    mX_entries_b17  s
def mX_points_b25   (s : mb_S) : Option (Int32 × mb_S) :=
  some ((-1 : Int32), s)
def mX_points (x1 : Int32) (x2 : Int32) (s : mb_S) : Option (Int32 × mb_S) :=
  if (mb_F s 0) = (1 : Int32) then
    mb_cal0 (mX_isBelow x1 (6 : Int32)) fun v1 =>
    if v1 = (0 : Int32) then
      mX_points_b25  s
    else
      mb_cal0 (mX_isBelow x2 (4 : Int32)) fun v2 =>
      if v2 = (0 : Int32) then
        mX_points_b25  s
      else
        mb_ld (mb_I s 11) 24 ((x1 * (4 : Int32)) + x2) fun v3 =>
        some (v3, s)
  else
    mX_points_b25  s
def mX_cell_b25   (s : mb_S) : Option (Int32 × mb_S) :=
  some ((-1 : Int32), s)
def mX_cell (x1 : Int32) (x2 : Int32) (s : mb_S) : Option (Int32 × mb_S) :=
  if (mb_F s 0) = (1 : Int32) then
    mb_cal0 (mX_isBelow x1 (6 : Int32)) fun v1 =>
    if v1 = (0 : Int32) then
      mX_cell_b25  s
    else
      mb_cal0 (mX_isBelow x2 (2 : Int32)) fun v2 =>
      if v2 = (0 : Int32) then
        mX_cell_b25  s
      else
        mb_ld (mb_I s 12) 12 ((x1 * (2 : Int32)) + x2) fun v3 =>
        some (v3, s)
  else
    mX_cell_b25  s
def mA_begin (x1 : Int32) (x2 : Int32) (x3 : Int32) (s : mb_S) : Option (Unit × mb_S) :=
  mb_stI s 18 6 (mb_F s 5) x1 fun s1 =>
  mb_stI s1 19 6 (mb_F s1 5) (x1 * (13 : Int32)) fun s2 =>
  mb_stI s2 20 24 ((mb_F s2 5) * (4 : Int32)) x2 fun s3 =>
  mb_stI s3 20 24 (((mb_F s3 5) * (4 : Int32)) + (1 : Int32)) x3 fun s4 =>
  mb_stI s4 20 24 (((mb_F s4 5) * (4 : Int32)) + (2 : Int32)) (0 : Int32) fun s5 =>
  mb_stI s5 20 24 (((mb_F s5 5) * (4 : Int32)) + (3 : Int32)) (0 : Int32) fun s6 =>
  mb_putF s6 5 ((mb_F s6 5) + (1 : Int32)) fun s7 =>
  some ((), s7)
def mA_reset (x1 : Int32) (s : mb_S) : Option (Unit × mb_S) :=
  mb_fill s 23 16 (0 : Int32) fun s1 =>
  mb_putF s1 6 x1 fun s2 =>
  mb_putF s2 7 (0 : Int32) fun s3 =>
  mb_putF s3 8 (0 : Int32) fun s4 =>
  mb_putF s4 9 (0 : Int32) fun s5 =>
  mb_putF s5 10 (0 : Int32) fun s6 =>
  mb_putF s6 5 (0 : Int32) fun s7 =>
  mb_cal (mA_begin (0 : Int32) (0 : Int32) (0 : Int32) s7) fun _u s8 =>
  some ((), s8)
def mA_standsAtEnd_b45  (y0 : Int32) (s : mb_S) : Option (Int32 × mb_S) :=
  mb_retZ y0 s
def mA_standsAtEnd  (s : mb_S) : Option (Int32 × mb_S) :=
  mb_ld (mb_I s 18) 6 ((mb_F s 5) - (1 : Int32)) fun v1 =>
  mb_ld (mb_I s 19) 6 ((mb_F s 5) - (1 : Int32)) fun v2 =>
  mb_ld (mb_I s 5) 6 v1 fun v3 =>
  if v2 = ((v1 * (13 : Int32)) + v3) then
    mA_standsAtEnd_b45  (1 : Int32) s
  else
    mA_standsAtEnd_b45  (0 : Int32) s
def mA_endMethod_b68   (s : mb_S) : Option (Unit × mb_S) :=
  some ((), s)
def mA_endMethod (x1 : Int32) (s : mb_S) : Option (Unit × mb_S) :=
  mb_putF s 5 ((mb_F s 5) - (1 : Int32)) fun s1 =>
  if (mb_F s1 5) ≤ (0 : Int32) then
    mA_endMethod_b68  s1
  else
    mb_ld (mb_I s1 19) 6 ((mb_F s1 5) - (1 : Int32)) fun v2 =>
    mb_ld (mb_I s1 1) 78 v2 fun v3 =>
    mb_stI s1 20 24 ((((mb_F s1 5) - (1 : Int32)) * (4 : Int32)) + v3) x1 fun s4 =>
    mb_ld (mb_I s4 19) 6 ((mb_F s4 5) - (1 : Int32)) fun v5 =>
    mb_stI s4 19 6 ((mb_F s4 5) - (1 : Int32)) (v5 + (1 : Int32)) fun s6 =>
    mA_endMethod_b68  s6
def mA_endMethods_b33   (s : mb_S) : Option (Unit × mb_S) :=
  some ((), s)
def mA_endMethods_l2  : Nat → Int32 → mb_S → Option (Unit × mb_S)
  | 0 => fun _ _ => none
  | n + 1 => fun x1 s =>
    if (6 : Int32) ≤ x1 then
      mA_endMethods_b33  s
    else
      if (mb_F s 5) ≤ (0 : Int32) then
        mA_endMethods_b33  s
      else
        mb_cal (mA_standsAtEnd  s) fun v1 s2 =>
        if v1 = (0 : Int32) then
          mA_endMethods_b33  s2
        else
          mb_cal (mA_endMethod (0 : Int32) s2) fun _u s3 =>
          mb_bnd (x1 + (1 : Int32)) fun v4 =>
          (mA_endMethods_l2  n) v4 s3
theorem mA_endMethods_l2_s  (n : Nat) (x1 : Int32) (s : mb_S) : mA_endMethods_l2  (n + 1) x1 s =
    if (6 : Int32) ≤ x1 then
      mA_endMethods_b33  s
    else
      if (mb_F s 5) ≤ (0 : Int32) then
        mA_endMethods_b33  s
      else
        mb_cal (mA_standsAtEnd  s) fun v1 s2 =>
        if v1 = (0 : Int32) then
          mA_endMethods_b33  s2
        else
          mb_cal (mA_endMethod (0 : Int32) s2) fun _u s3 =>
          mb_bnd (x1 + (1 : Int32)) fun v4 =>
          (mA_endMethods_l2  n) v4 s3
  := rfl
def mA_endMethods  (s : mb_S) : Option (Unit × mb_S) :=
  mA_endMethods_l2  mb_fuel (0 : Int32) s
def mA_objectOf (x1 : Int32) (s : mb_S) : Option (Int32 × mb_S) :=
  mb_ld (mb_I s 20) 24 ((((mb_F s 5) - (1 : Int32)) * (4 : Int32)) + x1) fun v1 =>
  some ((v1 >>> ((4 : Int32) &&& 31)) - (1 : Int32), s)
def mA_calledMethod (x1 : Int32) (s : mb_S) : Option (Int32 × mb_S) :=
  mb_ld (mb_I s 2) 78 x1 fun v1 =>
  mb_cal (mA_objectOf v1 s) fun v2 s3 =>
  if v2 = (-1 : Int32) then
    some ((-1 : Int32), s3)
  else
    mb_ld (mb_I s3 21) 12 v2 fun v4 =>
    mb_ld (mb_I s3 3) 78 x1 fun v5 =>
    mb_cal (mP_targetOf v4 (v5 / (4 : Int32)) s3) fun v6 s7 =>
    some (v6, s7)
def mA_endingBeforeStep_b175   (s : mb_S) : Option (Int32 × mb_S) :=
  some ((0 : Int32), s)
def mA_endingBeforeStep_b174  (y0 : Int32) (s : mb_S) : Option (Int32 × mb_S) :=
  some (y0, s)
def mA_endingBeforeStep_b148  (y0 : Int32) (s : mb_S) : Option (Int32 × mb_S) :=
  some (y0, s)
def mA_endingBeforeStep_b125  (y0 : Int32) (s : mb_S) : Option (Int32 × mb_S) :=
  some (y0, s)
def mA_endingBeforeStep_b102  (y0 : Int32) (s : mb_S) : Option (Int32 × mb_S) :=
  some (y0, s)
def mA_endingBeforeStep (x1 : Int32) (s : mb_S) : Option (Int32 × mb_S) :=
  if (mb_F s 5) = (0 : Int32) then
    some ((1 : Int32), s)
  else
    if (mb_F s 8) < x1 then
      mb_ld (mb_I s 19) 6 ((mb_F s 5) - (1 : Int32)) fun v1 =>
      mb_ld (mb_I s 0) 78 v1 fun v2 =>
      if v2 = (0 : Int32) then
        if (mb_F s 9) = (12 : Int32) then
          mA_endingBeforeStep_b102  (5 : Int32) s
        else
          mA_endingBeforeStep_b102  (0 : Int32) s
      else
      if v2 = (5 : Int32) then
        mb_ld (mb_I s 2) 78 v1 fun v3 =>
        mb_cal (mA_objectOf v3 s) fun v4 s5 =>
        if v4 = (-1 : Int32) then
          mA_endingBeforeStep_b125  (3 : Int32) s5
        else
          mA_endingBeforeStep_b125  (0 : Int32) s5
      else
      if v2 = (6 : Int32) then
        mb_ld (mb_I s 1) 78 v1 fun v6 =>
        mb_cal (mA_objectOf v6 s) fun v7 s8 =>
        if v7 = (-1 : Int32) then
          mA_endingBeforeStep_b148  (3 : Int32) s8
        else
          mA_endingBeforeStep_b148  (0 : Int32) s8
      else
      if v2 = (7 : Int32) then
        mb_cal (mA_calledMethod v1 s) fun v9 s10 =>
        if v9 = (-1 : Int32) then
          some ((3 : Int32), s10)
        else
          if (mb_F s10 5) = (6 : Int32) then
            mA_endingBeforeStep_b174  (4 : Int32) s10
          else
            mA_endingBeforeStep_b174  (0 : Int32) s10
      else
        mA_endingBeforeStep_b175  s
    else
      some ((2 : Int32), s)
def mA_makeObject (x1 : Int32) (s : mb_S) : Option (Int32 × mb_S) :=
  mb_stI s 21 12 (mb_F s 9) x1 fun s1 =>
  mb_stI s1 22 24 ((mb_F s1 9) * (2 : Int32)) (0 : Int32) fun s2 =>
  mb_stI s2 22 24 (((mb_F s2 9) * (2 : Int32)) + (1 : Int32)) (0 : Int32) fun s3 =>
  mb_putF s3 9 ((mb_F s3 9) + (1 : Int32)) fun s4 =>
  some ((mb_F s4 9) <<< ((4 : Int32) &&& 31), s4)
def mA_countHits_b29 (k2 : Int32 → Int32 → Int32 → mb_S → Option (Unit × mb_S)) (x1 : Int32) (x2 : Int32) (x3 : Int32) (s : mb_S) : Option (Unit × mb_S) :=
  mb_bnd (x3 + (1 : Int32)) fun v1 =>
  k2 x1 x2 v1 s
def mA_countHits_l2  : Nat → Int32 → Int32 → Int32 → mb_S → Option (Unit × mb_S)
  | 0 => fun _ _ _ _ => none
  | n + 1 => fun x1 x2 x3 s =>
    if (4 : Int32) ≤ x3 then
      some ((), s)
    else
      mb_cal0 (mX_has x2 x3) fun v2 =>
      if v2 = (0 : Int32) then
        mA_countHits_b29 (mA_countHits_l2  n) x1 x2 x3 s
      else
        mb_ld (mb_I s 23) 16 ((x3 * (4 : Int32)) + x1) fun v3 =>
        mb_stI s 23 16 ((x3 * (4 : Int32)) + x1) (v3 + (1 : Int32)) fun s4 =>
        mA_countHits_b29 (mA_countHits_l2  n) x1 x2 x3 s4
theorem mA_countHits_l2_s  (n : Nat) (x1 : Int32) (x2 : Int32) (x3 : Int32) (s : mb_S) : mA_countHits_l2  (n + 1) x1 x2 x3 s =
    if (4 : Int32) ≤ x3 then
      some ((), s)
    else
      mb_cal0 (mX_has x2 x3) fun v2 =>
      if v2 = (0 : Int32) then
        mA_countHits_b29 (mA_countHits_l2  n) x1 x2 x3 s
      else
        mb_ld (mb_I s 23) 16 ((x3 * (4 : Int32)) + x1) fun v3 =>
        mb_stI s 23 16 ((x3 * (4 : Int32)) + x1) (v3 + (1 : Int32)) fun s4 =>
        mA_countHits_b29 (mA_countHits_l2  n) x1 x2 x3 s4
  := rfl
def mA_countHits (x1 : Int32) (x2 : Int32) (s : mb_S) : Option (Unit × mb_S) :=
  mA_countHits_l2  mb_fuel x1 x2 (0 : Int32) s
def mA_changeValues_b238   (s : mb_S) : Option (Unit × mb_S) :=
  some ((), s)
def mA_changeValues (x1 : Int32) (x2 : Int32) (x3 : Int32) (s : mb_S) : Option (Unit × mb_S) :=
  mb_ld (mb_I s 2) 78 x1 fun v1 =>
  mb_ld (mb_I s 3) 78 x1 fun v2 =>
  mb_ld (mb_I s 0) 78 x1 fun v3 =>
  if v3 = (0 : Int32) then
    mb_cal (mA_makeObject v1 s) fun v4 s5 =>
    mb_stI s5 20 24 (x2 + x3) v4 fun s6 =>
    mA_changeValues_b238  s6
  else
  if v3 = (1 : Int32) then
    mb_ld (mb_I s 4) 78 x1 fun v7 =>
    mb_stI s 20 24 (x2 + x3) ((1 : Int32) <<< (v7 &&& 31)) fun s8 =>
    mA_changeValues_b238  s8
  else
  if v3 = (2 : Int32) then
    mb_ld (mb_I s 4) 78 x1 fun v9 =>
    mb_ld (mb_I s 20) 24 (x2 + x3) fun v10 =>
    mb_cal (mA_countHits v9 v10 s) fun _u s11 =>
    mA_changeValues_b238  s11
  else
  if v3 = (3 : Int32) then
    mb_ld (mb_I s 20) 24 (x2 + x3) fun v12 =>
    mb_stI s 20 24 (x2 + x3) (v12 &&& (-16 : Int32)) fun s13 =>
    mA_changeValues_b238  s13
  else
  if v3 = (4 : Int32) then
    mb_ld (mb_I s 20) 24 (x2 + v1) fun v14 =>
    mb_stI s 20 24 (x2 + x3) v14 fun s15 =>
    mA_changeValues_b238  s15
  else
  if v3 = (5 : Int32) then
    mb_cal (mA_objectOf v1 s) fun v16 s17 =>
    mb_ld (mb_I s17 22) 24 ((v16 * (2 : Int32)) + v2) fun v18 =>
    mb_ld (mb_I s17 20) 24 (x2 + v1) fun v19 =>
    mb_stI s17 20 24 (x2 + x3) (v18 ||| (v19 &&& (15 : Int32))) fun s20 =>
    mA_changeValues_b238  s20
  else
  if v3 = (6 : Int32) then
    mb_cal (mA_objectOf x3 s) fun v21 s22 =>
    mb_ld (mb_I s22 20) 24 (x2 + v1) fun v23 =>
    mb_stI s22 22 24 ((v21 * (2 : Int32)) + v2) v23 fun s24 =>
    mA_changeValues_b238  s24
  else
    mA_changeValues_b238  s
def mA_step_b259   (s : mb_S) : Option (Unit × mb_S) :=
  some ((), s)
def mA_step_b194  (y0 : Int32) (y1 : Int32) (s : mb_S) : Option (Unit × mb_S) :=
  mb_stI s 19 6 y1 y0 fun s1 =>
  mA_step_b259  s1
def mA_step  (s : mb_S) : Option (Unit × mb_S) :=
  mb_putF s 8 ((mb_F s 8) + (1 : Int32)) fun s2 =>
  mb_ld (mb_I s2 18) 6 ((mb_F s2 5) - (1 : Int32)) fun v3 =>
  mb_ld (mb_I s2 19) 6 ((mb_F s2 5) - (1 : Int32)) fun v4 =>
  mb_bnd (((mb_F s2 5) - (1 : Int32)) * (4 : Int32)) fun v5 =>
  mb_ld (mb_I s2 1) 78 v4 fun v6 =>
  mb_ld (mb_I s2 0) 78 v4 fun v7 =>
  if v7 = (7 : Int32) then
    mb_cal (mA_calledMethod v4 s2) fun v8 s9 =>
    mb_ld (mb_I s9 2) 78 v4 fun v10 =>
    mb_ld (mb_I s9 20) 24 (v5 + v10) fun v11 =>
    mb_ld (mb_I s9 3) 78 v4 fun v12 =>
    mb_ld (mb_I s9 20) 24 (v5 + (v12 - v12 / (4 : Int32) * (4 : Int32))) fun v13 =>
    mb_cal (mA_begin v8 v11 v13 s9) fun _u s14 =>
    mA_step_b259  s14
  else
  if v7 = (8 : Int32) then
    mb_cal0 (mX_has (mb_F s2 6) ((mb_F s2 7) - (mb_F s2 7) / (32 : Int32) * (32 : Int32))) fun v15 =>
    mb_putF s2 7 ((mb_F s2 7) + (1 : Int32)) fun s16 =>
    if v15 = (0 : Int32) then
      mA_step_b194  (v4 + (1 : Int32)) ((mb_F s16 5) - (1 : Int32)) s16
    else
      mb_cal (mP_jumpSpot v3 v4 s16) fun v17 s18 =>
      mA_step_b194  v17 ((mb_F s16 5) - (1 : Int32)) s18
  else
  if v7 = (9 : Int32) then
    mb_cal (mP_jumpSpot v3 v4 s2) fun v19 s20 =>
    mb_stI s20 19 6 ((mb_F s2 5) - (1 : Int32)) v19 fun s21 =>
    mA_step_b259  s21
  else
  if v7 = (10 : Int32) then
    mb_ld (mb_I s2 20) 24 (v5 + v6) fun v22 =>
    mb_cal (mA_endMethod v22 s2) fun _u s23 =>
    mA_step_b259  s23
  else
    mb_cal (mA_changeValues v4 v5 v6 s2) fun _u s24 =>
    mb_stI s24 19 6 ((mb_F s24 5) - (1 : Int32)) (v4 + (1 : Int32)) fun s25 =>
    mA_step_b259  s25
def mA_start_b65   (s : mb_S) : Option (Int32 × mb_S) :=
  some (mb_F s 8, s)
def mA_start_b59 (k20 : Int32 → Int32 → mb_S → Option (Int32 × mb_S)) (x3 : Int32) (x4 : Int32) (s : mb_S) : Option (Int32 × mb_S) :=
  mb_bnd (x4 + (1 : Int32)) fun v1 =>
  k20 x3 v1 s
def mA_start_l20  : Nat → Int32 → Int32 → mb_S → Option (Int32 × mb_S)
  | 0 => fun _ _ _ => none
  | n + 1 => fun x3 x4 s =>
    if (200 : Int32) < x4 then
      mA_start_b65  s
    else
      if (mb_F s 10) = (0 : Int32) then
        mb_cal (mA_endMethods  s) fun _u s2 =>
        mb_cal (mA_endingBeforeStep x3 s2) fun v3 s4 =>
        mb_putF s4 10 v3 fun s5 =>
        if (mb_F s5 10) = (0 : Int32) then
          mb_cal (mA_step  s5) fun _u s6 =>
          mA_start_b59 (mA_start_l20  n) x3 x4 s6
        else
          mA_start_b59 (mA_start_l20  n) x3 x4 s5
      else
        mA_start_b65  s
theorem mA_start_l20_s  (n : Nat) (x3 : Int32) (x4 : Int32) (s : mb_S) : mA_start_l20  (n + 1) x3 x4 s =
    if (200 : Int32) < x4 then
      mA_start_b65  s
    else
      if (mb_F s 10) = (0 : Int32) then
        mb_cal (mA_endMethods  s) fun _u s2 =>
        mb_cal (mA_endingBeforeStep x3 s2) fun v3 s4 =>
        mb_putF s4 10 v3 fun s5 =>
        if (mb_F s5 10) = (0 : Int32) then
          mb_cal (mA_step  s5) fun _u s6 =>
          mA_start_b59 (mA_start_l20  n) x3 x4 s6
        else
          mA_start_b59 (mA_start_l20  n) x3 x4 s5
      else
        mA_start_b65  s
  := rfl
def mA_start (x1 : Int32) (x2 : Int32) (s : mb_S) : Option (Int32 × mb_S) :=
  mb_bnd (mb_max (0 : Int32) (mb_min x2 (200 : Int32))) fun v7 =>
  mb_cal (mA_reset x1 s) fun _u s8 =>
  mA_start_l20  mb_fuel v7 (0 : Int32) s8
def mX_run (x1 : Int32) (x2 : Int32) (s : mb_S) : Option (Int32 × mb_S) :=
  mb_cal (mA_start x1 x2 s) fun v1 s2 =>
  some (v1, s2)
def mX_outcome  (s : mb_S) : Option (Int32 × mb_S) :=
  some (mb_F s 10, s)
def mX_hits_b26   (s : mb_S) : Option (Int32 × mb_S) :=
  some ((0 : Int32), s)
def mX_hits (x1 : Int32) (x2 : Int32) (s : mb_S) : Option (Int32 × mb_S) :=
  if (mb_F s 10) = (0 : Int32) then
    mX_hits_b26  s
  else
    mb_cal (mX_isSource x1 s) fun v1 s2 =>
    if v1 = (0 : Int32) then
      mX_hits_b26  s2
    else
      mb_cal (mX_isSink x2 s2) fun v3 s4 =>
      if v3 = (0 : Int32) then
        mX_hits_b26  s4
      else
        mb_ld (mb_I s4 23) 16 ((x1 * (4 : Int32)) + x2) fun v5 =>
        some (v5, s4)
def mX_made_b21  (y0 : Int32) (s : mb_S) : Option (Int32 × mb_S) :=
  some (y0, s)
def mX_made  (s : mb_S) : Option (Int32 × mb_S) :=
  if (mb_F s 10) = (0 : Int32) then
    mX_made_b21  (0 : Int32) s
  else
    mX_made_b21  (mb_F s 9) s
