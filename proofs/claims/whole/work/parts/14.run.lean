abbrev lf_V : Type := Option Nat × Nat
abbrev lf_R : Type := Nat × (Nat → Nat) × (Nat → Nat) × (Nat → lf_V) × Nat × (Nat → Nat) × (Nat → lf_V) × Nat × Nat × (Nat → Nat)
def lr_d (r : lf_R) : Nat := r.1
def lr_mt (r : lf_R) : Nat → Nat := r.2.1
def lr_pl (r : lf_R) : Nat → Nat := r.2.2.1
def lr_v (r : lf_R) : Nat → lf_V := r.2.2.2.1
def lr_n (r : lf_R) : Nat := r.2.2.2.2.1
def lr_k (r : lf_R) : Nat → Nat := r.2.2.2.2.2.1
def lr_h (r : lf_R) : Nat → lf_V := r.2.2.2.2.2.2.1
def lr_st (r : lf_R) : Nat := r.2.2.2.2.2.2.2.1
def lr_br (r : lf_R) : Nat := r.2.2.2.2.2.2.2.2.1
def lr_hit (r : lf_R) : Nat → Nat := r.2.2.2.2.2.2.2.2.2
def lr_sd (r : lf_R) (x : Nat) : lf_R := (x, r.2)
def lr_smt (r : lf_R) (x : Nat → Nat) : lf_R := (r.1, x, r.2.2)
def lr_spl (r : lf_R) (x : Nat → Nat) : lf_R := (r.1, r.2.1, x, r.2.2.2)
def lr_sv (r : lf_R) (x : Nat → lf_V) : lf_R := (r.1, r.2.1, r.2.2.1, x, r.2.2.2.2)
def lr_sn (r : lf_R) (x : Nat) : lf_R := (r.1, r.2.1, r.2.2.1, r.2.2.2.1, x, r.2.2.2.2.2)
def lr_sk (r : lf_R) (x : Nat → Nat) : lf_R := (r.1, r.2.1, r.2.2.1, r.2.2.2.1, r.2.2.2.2.1, x, r.2.2.2.2.2.2)
def lr_sh (r : lf_R) (x : Nat → lf_V) : lf_R := (r.1, r.2.1, r.2.2.1, r.2.2.2.1, r.2.2.2.2.1, r.2.2.2.2.2.1, x, r.2.2.2.2.2.2.2)
def lr_sst (r : lf_R) (x : Nat) : lf_R := (r.1, r.2.1, r.2.2.1, r.2.2.2.1, r.2.2.2.2.1, r.2.2.2.2.2.1, r.2.2.2.2.2.2.1, x, r.2.2.2.2.2.2.2.2)
def lr_sbr (r : lf_R) (x : Nat) : lf_R := (r.1, r.2.1, r.2.2.1, r.2.2.2.1, r.2.2.2.2.1, r.2.2.2.2.2.1, r.2.2.2.2.2.2.1, r.2.2.2.2.2.2.2.1, x, r.2.2.2.2.2.2.2.2.2)
def lr_shit (r : lf_R) (x : Nat → Nat) : lf_R := (r.1, r.2.1, r.2.2.1, r.2.2.2.1, r.2.2.2.2.1, r.2.2.2.2.2.1, r.2.2.2.2.2.2.1, r.2.2.2.2.2.2.2.1, r.2.2.2.2.2.2.2.2.1, x)
def lr_0 : lf_R := (0, fun _ => 0, fun _ => 0, fun _ => (none, 0), 0, fun _ => 0, fun _ => (none, 0), 0, 0, fun _ => 0)
def lr_tm (r : lf_R) : Nat := lr_mt r (lr_d r - 1)
def lr_tp (r : lf_R) : Nat := lr_pl r (lr_d r - 1)
def lr_tv (r : lf_R) (x : Nat) : lf_V := lr_v r (4 * (lr_d r - 1) + x)
def lr_put (r : lf_R) (x : Nat) (w : lf_V) : lf_R := lr_sv r (va_up (lr_v r) (4 * (lr_d r - 1) + x) w)
def lr_go (r : lf_R) (p : Nat) : lf_R := lr_spl r (va_up (lr_pl r) (lr_d r - 1) p)
def lr_enter (r : lf_R) (m : Nat) (v0 v1 : lf_V) : lf_R :=
  lr_put (lr_put (lr_put (lr_put (lr_sd (lr_spl (lr_smt r (va_up (lr_mt r) (lr_d r) m)) (va_up (lr_pl r) (lr_d r) 0)) (lr_d r + 1)) 0 v0) 1 v1) 2 (none, 0)) 3 (none, 0)
def lr_leave (P : lf_P) (r : lf_R) (w : lf_V) : lf_R :=
  if lr_d r - 1 = 0 then lr_sd r 0
  else lr_go (lr_put (lr_sd r (lr_d r - 1)) (lf_a P (lr_mt r (lr_d r - 2)) (lr_pl r (lr_d r - 2))) w) (lr_pl r (lr_d r - 2) + 1)
def lr_end (P : lf_P) (r : lf_R) : Prop := 0 < lr_d r ∧ lr_tp r = lf_len P (lr_tm r)
def lr_settle (P : lf_P) : Nat → lf_R → lf_R
  | 0, r => r
  | n + 1, r => if 0 < lr_d r ∧ lr_tp r = lf_len P (lr_tm r) then lr_settle P n (lr_leave P r (none, 0)) else r
def lr_hind (P : lf_P) (q : lf_Q) (r : lf_R) : Nat :=
  if lf_kd P (lr_tm r) (lr_tp r) = 0 then (if lr_n r = 12 then 5 else 0)
  else if lf_kd P (lr_tm r) (lr_tp r) = 5 then (match (lr_tv r (lf_b P (lr_tm r) (lr_tp r))).1 with
    | none => 3
    | some _ => 0)
  else if lf_kd P (lr_tm r) (lr_tp r) = 6 then (match (lr_tv r (lf_a P (lr_tm r) (lr_tp r))).1 with
    | none => 3
    | some _ => 0)
  else if lf_kd P (lr_tm r) (lr_tp r) = 7 then (match (lr_tv r (lf_b P (lr_tm r) (lr_tp r))).1 with
    | none => 3
    | some o => match lf_tgt q (lr_k r o) (lf_c P (lr_tm r) (lr_tp r) / 4) with
      | none => 3
      | some _ => if lr_d r = 6 then 4 else 0)
  else 0
def lr_out (P : lf_P) (q : lf_Q) (limit : Nat) (r : lf_R) : Nat := if lr_d r = 0 then 1 else if lr_st r = limit then 2 else lr_hind P q r
def lr_plain (P : lf_P) (r : lf_R) : lf_R :=
  if lf_kd P (lr_tm r) (lr_tp r) = 0 then
    lr_sn (lr_put (lr_sh (lr_sk r (va_up (lr_k r) (lr_n r) (lf_b P (lr_tm r) (lr_tp r)))) (va_up (va_up (lr_h r) (2 * lr_n r) (none, 0)) (2 * lr_n r + 1) (none, 0))) (lf_a P (lr_tm r) (lr_tp r)) (some (lr_n r), 0)) (lr_n r + 1)
  else if lf_kd P (lr_tm r) (lr_tp r) = 1 then lr_put r (lf_a P (lr_tm r) (lr_tp r)) (none, 2 ^ lf_bef P 1 (lr_tm r) (lr_tp r))
  else if lf_kd P (lr_tm r) (lr_tp r) = 2 then
    lr_shit r (fun j => if j % 4 = lf_bef P 2 (lr_tm r) (lr_tp r) ∧ j < 16 then lr_hit r j + (lr_tv r (lf_a P (lr_tm r) (lr_tp r))).2 / 2 ^ (j / 4) % 2 else lr_hit r j)
  else if lf_kd P (lr_tm r) (lr_tp r) = 3 then lr_put r (lf_a P (lr_tm r) (lr_tp r)) ((lr_tv r (lf_a P (lr_tm r) (lr_tp r))).1, 0)
  else if lf_kd P (lr_tm r) (lr_tp r) = 4 then lr_put r (lf_a P (lr_tm r) (lr_tp r)) (lr_tv r (lf_b P (lr_tm r) (lr_tp r)))
  else if lf_kd P (lr_tm r) (lr_tp r) = 5 then (match (lr_tv r (lf_b P (lr_tm r) (lr_tp r))).1 with
    | none => r
    | some o => lr_put r (lf_a P (lr_tm r) (lr_tp r)) ((lr_h r (2 * o + lf_c P (lr_tm r) (lr_tp r))).1, (lr_h r (2 * o + lf_c P (lr_tm r) (lr_tp r))).2 ||| (lr_tv r (lf_b P (lr_tm r) (lr_tp r))).2))
  else (match (lr_tv r (lf_a P (lr_tm r) (lr_tp r))).1 with
    | none => r
    | some o => lr_sh r (va_up (lr_h r) (2 * o + lf_c P (lr_tm r) (lr_tp r)) (lr_tv r (lf_b P (lr_tm r) (lr_tp r)))))
def lr_step (P : lf_P) (q : lf_Q) (ch : Int32) (r : lf_R) : lf_R :=
  if lf_kd P (lr_tm r) (lr_tp r) = 7 then (match (lr_tv r (lf_b P (lr_tm r) (lr_tp r))).1 with
    | none => r
    | some o => match lf_tgt q (lr_k r o) (lf_c P (lr_tm r) (lr_tp r) / 4) with
      | none => r
      | some t => lr_enter r t (lr_tv r (lf_b P (lr_tm r) (lr_tp r))) (lr_tv r (lf_c P (lr_tm r) (lr_tp r) % 4)))
  else if lf_kd P (lr_tm r) (lr_tp r) = 10 then lr_leave P r (lr_tv r (lf_a P (lr_tm r) (lr_tp r)))
  else if lf_kd P (lr_tm r) (lr_tp r) = 8 then
    lr_go (lr_sbr r (lr_br r + 1)) (if pu_b ch (lr_br r % 32) = true then min (lf_a P (lr_tm r) (lr_tp r)) (lf_len P (lr_tm r)) else lr_tp r + 1)
  else if lf_kd P (lr_tm r) (lr_tp r) = 9 then lr_go r (min (lf_a P (lr_tm r) (lr_tp r)) (lf_len P (lr_tm r)))
  else lr_go (lr_plain P r) (lr_tp r + 1)
def lr_loop (P : lf_P) (q : lf_Q) (ch : Int32) (limit : Nat) : Nat → lf_R → lf_R × Nat
  | 0, r => (r, 0)
  | n + 1, r => if lr_out P q limit (lr_settle P 6 r) = 0 then lr_loop P q ch limit n (lr_sst (lr_step P q ch (lr_settle P 6 r)) (lr_st r + 1)) else (lr_settle P 6 r, lr_out P q limit (lr_settle P 6 r))
def lr_ok (P : lf_P) (r : lf_R) : Prop :=
  lr_d r ≤ 6 ∧ (∀ i, i < lr_d r → lr_mt r i < 6 ∧ lr_pl r i ≤ lf_len P (lr_mt r i)) ∧ (∀ i, i + 1 < lr_d r → lr_pl r i < lf_len P (lr_mt r i) ∧ lf_kd P (lr_mt r i) (lr_pl r i) = 7) ∧
  (∀ j, j < 4 * lr_d r → (lr_v r j).2 < 16 ∧ ∀ o, (lr_v r j).1 = some o → o < lr_n r) ∧ lr_n r ≤ 12 ∧ (∀ o, o < lr_n r → lr_k r o < 4) ∧
  (∀ j, j < 2 * lr_n r → (lr_h r j).2 < 16 ∧ ∀ o, (lr_h r j).1 = some o → o < lr_n r) ∧ lr_st r ≤ 201 ∧ lr_br r ≤ lr_st r
def lr_pk (v : lf_V) : Nat := match v.1 with
  | none => v.2
  | some o => 16 * (o + 1) + v.2
def lr_M (r : lf_R) (s : mb_S) : Prop :=
  mb_F s 6 = nI (lr_d r) ∧ mb_F s 3 = nI (lr_n r) ∧ mb_F s 4 = nI (lr_st r) ∧ mb_F s 5 = nI (lr_br r) ∧ (∀ i, i < lr_d r → mb_I s 14 i = nI (lr_mt r i) ∧ mb_I s 15 i = nI (lr_pl r i)) ∧
  (∀ j, j < 4 * lr_d r → mb_I s 16 j = lf_o (lr_v r j).1 ∧ mb_I s 17 j = nI (lr_v r j).2) ∧ (∀ o, o < lr_n r → mb_I s 18 o = nI (lr_k r o)) ∧
  (∀ j, j < 2 * lr_n r → mb_I s 19 j = lf_o (lr_h r j).1 ∧ mb_I s 20 j = nI (lr_h r j).2) ∧ (∀ j, j < 16 → mb_I s 13 j = nI (lr_hit r j))
def lr_X (r : lf_R) (s : mb_S) : Prop :=
  mb_F s 5 = nI (lr_d r) ∧ mb_F s 9 = nI (lr_n r) ∧ mb_F s 8 = nI (lr_st r) ∧ mb_F s 7 = nI (lr_br r) ∧ (∀ i, i < lr_d r → mb_I s 18 i = nI (lr_mt r i) ∧ mb_I s 19 i = nI (13 * lr_mt r i + lr_pl r i)) ∧
  (∀ j, j < 4 * lr_d r → mb_I s 20 j = nI (lr_pk (lr_v r j))) ∧ (∀ o, o < lr_n r → mb_I s 21 o = nI (lr_k r o)) ∧
  (∀ j, j < 2 * lr_n r → mb_I s 22 j = nI (lr_pk (lr_h r j))) ∧ (∀ j, j < 16 → mb_I s 23 j = nI (lr_hit r j))
