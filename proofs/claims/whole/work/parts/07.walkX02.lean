set_option maxRecDepth 100000 in
set_option maxHeartbeats 4000000 in
theorem zQ_sweep_b51 {p : Program} {l : Launch} {e : Env} {R : Room} {s0 : State} {m : MethodId} {args : Array Value} {below : List Frame} {meth : Method} {c : Code} {Q : State → Prop} {A : Nat → Prop} {D : va_G} {X : Nat → Nat} {cI cZ cJ : ClassId} {rv : Unit} {rs : mb_S}
    (Cx : mb_C p s0 m args meth c c_Q_sweep 3 lw_w cnQ mb_ZX vwCl D [(cI, .int), (cZ, .boolean), (cJ, .long)] A (WX X cI cZ cJ)) (hR : 4 ≤ R.frames ∧ 95 ≤ R.locals)
    (hret : mb_R p l e R s0 m args below meth c Q vwCl D A (WX X cI cZ cJ) c_Q_sweep .return_ [] rs) (k2 : Int32 → mb_S → Option (Unit × mb_S)) (hk2 : ∀ (x1 : Int32) (s : mb_S), k2 x1 s = some (rv, rs) → mb_B p l e R s0 m args below meth c Q vwCl D A (WX X cI cZ cJ) 3 [(0, .ref (X 2)), (1, .int x1)] [] 2 s) (x1 : Int32) (s : mb_S)
    (h : mQ_sweep_b51 k2 x1 s = some (rv, rs)) : mb_B p l e R s0 m args below meth c Q vwCl D A (WX X cI cZ cJ) 3 [(0, .ref (X 2)), (1, .int x1)] [] 51 s := by
  unfold mQ_sweep_b51 at h
  intro ls H locs hl hP hS
  have Cx0 := Cx
  obtain ⟨⟨hx, hb, hml, hown, hts⟩, hK, hD, hA, hZ⟩ := Cx0
  obtain ⟨v1, ev1, h⟩ := mb_ex h
  refine lv_iinc (k := 1) (v := v1) (lv' := [(1, .int v1), (0, .ref (X 2))]) hx hb d_Q_sweep_51 hl rfl ev1 (by decide) rfl (fun ls hl => ?_)
  refine lv_goto hx hb d_Q_sweep_54 rfl ?_
  exact hk2 v1 s h ls H locs (lv_sub hl [1, 0] rfl) hP hS
set_option maxRecDepth 100000 in
set_option maxHeartbeats 4000000 in
theorem zQ_sweep_l21 {p : Program} {l : Launch} {e : Env} {R : Room} {s0 : State} {m : MethodId} {args : Array Value} {below : List Frame} {meth : Method} {c : Code} {Q : State → Prop} {A : Nat → Prop} {D : va_G} {X : Nat → Nat} {cI cZ cJ : ClassId} {rv : Unit} {rs : mb_S}
    (Cx : mb_C p s0 m args meth c c_Q_sweep 3 lw_w cnQ mb_ZX vwCl D [(cI, .int), (cZ, .boolean), (cJ, .long)] A (WX X cI cZ cJ)) (hR : 4 ≤ R.frames ∧ 95 ≤ R.locals)
    (hret : mb_R p l e R s0 m args below meth c Q vwCl D A (WX X cI cZ cJ) c_Q_sweep .return_ [] rs) (k2 : Int32 → mb_S → Option (Unit × mb_S)) (hk2 : ∀ (x1 : Int32) (s : mb_S), k2 x1 s = some (rv, rs) → mb_B p l e R s0 m args below meth c Q vwCl D A (WX X cI cZ cJ) 3 [(0, .ref (X 2)), (1, .int x1)] [] 2 s) :
    ∀ (n : Nat) (x1 : Int32) (x2 : Int32) (s : mb_S), mQ_sweep_l21 k2 n x1 x2 s = some (rv, rs) → mb_B p l e R s0 m args below meth c Q vwCl D A (WX X cI cZ cJ) 3 [(0, .ref (X 2)), (1, .int x1), (2, .int x2)] [] 21 s := by
  intro n
  induction n with
  | zero => intro x1 x2 s h; cases h
  | succ n ih =>
    intro x1 x2 s h
    rw [mQ_sweep_l21_s] at h
    intro ls H locs hl hP hS
    have Cx0 := Cx
    obtain ⟨⟨hx, hb, hml, hown, hts⟩, hK, hD, hA, hZ⟩ := Cx0
    refine lv_iload_n hx hb d_Q_sweep_21 rfl (lv_at hl 2 rfl) ?_
    refine lv_aload_n hx hb d_Q_sweep_22 rfl (lv_at hl 0 rfl) ?_
    refine va_get (ci := 2) (C := cnQ) (T := fTQ) (N := 6) hx hb hts uwQ hown hK hP 2 rfl rfl 0 (by decide) (hts _ wd_96) (fun _ h9 => h9) rfl d_Q_sweep_23 ?_
    refine va_get (ci := 1) (C := cnP) (T := fTP) (N := 12) hx hb hts uwP hown hK hP 1 rfl rfl 5 (by decide) (hts _ wd_50) (fun _ h9 => h9) rfl d_Q_sweep_26 ?_
    refine lv_iload_n hx hb d_Q_sweep_29 rfl (lv_at hl 1 rfl) ?_
    refine mb_iald hx hb hK hP 10 0 rfl rfl h d_Q_sweep_30 (fun v2 h => ?_)
    refine lv_icmp_ge hx hb d_Q_sweep_31 rfl (fun hc => ?_) (fun hc => ?_)
    · have h := mb_t hc h
      exact zQ_sweep_b51 Cx hR hret k2 hk2 x1 s h ls H locs (lv_sub hl [0, 1] rfl) hP hS
    · have h := mb_f hc h
      refine lv_aload_n hx hb d_Q_sweep_34 rfl (lv_at hl 0 rfl) ?_
      refine lv_iload_n hx hb d_Q_sweep_35 rfl (lv_at hl 1 rfl) ?_
      refine lv_iload_n hx hb d_Q_sweep_36 rfl (lv_at hl 1 rfl) ?_
      refine lv_bipush (v := (13 : Int32)) hx hb d_Q_sweep_37 (by decide) ?_
      refine lv_imul hx hb d_Q_sweep_39 ?_
      refine lv_iload_n hx hb d_Q_sweep_40 rfl (lv_at hl 2 rfl) ?_
      refine lv_iadd hx hb d_Q_sweep_41 ?_
      obtain ⟨_u, s3, hs3, h⟩ := mb_cal_ex h
      refine mb_goV Cx (mb_runV (As := [.int x1, .int ((x1 * (13 : Int32)) + x2)]) (rest := []) mb_ZXok Cx (w_Q_follow l D X cI cZ cJ hs3 H.size) (mb_cwV 2 hts wd_286 wd_288 sel_3 wd_4 wd_289 rfl rfl rfl (by decide +kernel) ⟨Nat.le_trans (by decide) hR.1, Nat.le_trans (by decide) hR.2⟩) hP hS 2 rfl rfl rfl hl.1 rfl (Nat.le_of_ble_eq_true rfl) d_Q_sweep_42) hS (fun H locs hP hS => ?_)
      obtain ⟨v4, ev4, h⟩ := mb_ex h
      refine lv_iinc (k := 2) (v := v4) (lv' := [(2, .int v4), (0, .ref (X 2)), (1, .int x1)]) hx hb d_Q_sweep_45 hl rfl ev4 (by decide) rfl (fun ls hl => ?_)
      refine lv_goto hx hb d_Q_sweep_48 rfl ?_
      exact ih x1 v4 s3 h ls H locs (lv_sub hl [1, 2, 0] rfl) hP hS
set_option maxRecDepth 100000 in
set_option maxHeartbeats 4000000 in
theorem zQ_sweep_l2 {p : Program} {l : Launch} {e : Env} {R : Room} {s0 : State} {m : MethodId} {args : Array Value} {below : List Frame} {meth : Method} {c : Code} {Q : State → Prop} {A : Nat → Prop} {D : va_G} {X : Nat → Nat} {cI cZ cJ : ClassId} {rv : Unit} {rs : mb_S}
    (Cx : mb_C p s0 m args meth c c_Q_sweep 3 lw_w cnQ mb_ZX vwCl D [(cI, .int), (cZ, .boolean), (cJ, .long)] A (WX X cI cZ cJ)) (hR : 4 ≤ R.frames ∧ 95 ≤ R.locals)
    (hret : mb_R p l e R s0 m args below meth c Q vwCl D A (WX X cI cZ cJ) c_Q_sweep .return_ [] rs)  :
    ∀ (n : Nat) (x1 : Int32) (s : mb_S), mQ_sweep_l2  n x1 s = some (rv, rs) → mb_B p l e R s0 m args below meth c Q vwCl D A (WX X cI cZ cJ) 3 [(0, .ref (X 2)), (1, .int x1)] [] 2 s := by
  intro n
  induction n with
  | zero => intro x1 s h; cases h
  | succ n ih =>
    intro x1 s h
    rw [mQ_sweep_l2_s] at h
    intro ls H locs hl hP hS
    have Cx0 := Cx
    obtain ⟨⟨hx, hb, hml, hown, hts⟩, hK, hD, hA, hZ⟩ := Cx0
    refine lv_iload_n hx hb d_Q_sweep_2 rfl (lv_at hl 1 rfl) ?_
    refine lv_bipush (v := (6 : Int32)) hx hb d_Q_sweep_3 (by decide) ?_
    refine lv_icmp_ge hx hb d_Q_sweep_5 rfl (fun hc => ?_) (fun hc => ?_)
    · have h := mb_t hc h
      exact mb_eV hret h d_Q_sweep_57 hP hS
    · have h := mb_f hc h
      refine lv_aload_n hx hb d_Q_sweep_8 rfl (lv_at hl 0 rfl) ?_
      refine va_get (ci := 2) (C := cnQ) (T := fTQ) (N := 6) hx hb hts uwQ hown hK hP 2 rfl rfl 4 (by decide) (hts _ wd_104) (fun _ h9 => h9) rfl d_Q_sweep_9 ?_
      refine lv_iload_n hx hb d_Q_sweep_12 rfl (lv_at hl 1 rfl) ?_
      obtain ⟨v5, hv5, h⟩ := mb_cal0_ex h
      refine mb_go0I (st := s) Cx (mb_runSN0 (As := [.int (mb_F s 2), .int x1]) (rest := []) Cx (w_X_has l D hv5 H.size) (mb_cn 2 hts wd_283 wd_284 wd_1 wd_285 rfl rfl rfl (by decide +kernel) ⟨Nat.le_trans (by decide) hR.1, Nat.le_trans (by decide) hR.2⟩) rfl hl.1 rfl (Nat.le_of_ble_eq_true rfl) d_Q_sweep_13) hP hS (fun H locs hP hS => ?_)
      refine lv_if_eq hx hb d_Q_sweep_16 rfl (fun hc => ?_) (fun hc => ?_)
      · have h := mb_t hc h
        exact zQ_sweep_b51 Cx hR hret (mQ_sweep_l2  n) ih x1 s h ls H locs (lv_sub hl [0, 1] rfl) hP hS
      · have h := mb_f hc h
        refine lv_iconst (v := (0 : Int32)) hx hb d_Q_sweep_19 (by decide) ?_
        refine lv_istore_n (lv' := [(2, .int (0 : Int32)), (0, .ref (X 2)), (1, .int x1)]) hx hb d_Q_sweep_20 rfl hl (by decide) rfl (fun ls hl => ?_)
        exact zQ_sweep_l21 Cx hR hret (mQ_sweep_l2  n) ih mb_fuel x1 (0 : Int32) s h ls H locs (lv_sub hl [1, 2, 0] rfl) hP hS
set_option maxRecDepth 100000 in
set_option maxHeartbeats 4000000 in
theorem w_Q_sweep (l : Launch) (D : va_G) (X : Nat → Nat) (cI cZ cJ : ClassId)  {s : mb_S} {rv : Unit} {rs : mb_S}
    (h : mQ_sweep  s = some (rv, rs)) : mb_MV l y_Q_sweep ws_Q_sweep rm_Q_sweep mb_ZX vwCl D [(cI, .int), (cZ, .boolean), (cJ, .long)] (WX X cI cZ cJ) [.ref (X 2)] s rs := by
  refine mb_ofV mb_ZXok (by decide) rfl (Nat.le_of_ble_eq_true rfl) mb_DXok ?_
  intro p e s0 m args below meth c Q A Cx hret
  have hR : 4 ≤ (rm_Q_sweep).frames ∧ 95 ≤ (rm_Q_sweep).locals := ⟨Nat.le_refl _, Nat.le_refl _⟩
  intro ls H locs hl hP hS
  have Cx0 := Cx
  obtain ⟨⟨hx, hb, hml, hown, hts⟩, hK, hD, hA, hZ⟩ := Cx0
  have hl : lv_has ls 3 [(0, .ref (X 2))] := hl
  unfold mQ_sweep at h
  refine lv_iconst (v := (0 : Int32)) hx hb d_Q_sweep_0 (by decide) ?_
  refine lv_istore_n (lv' := [(1, .int (0 : Int32)), (0, .ref (X 2))]) hx hb d_Q_sweep_1 rfl hl (by decide) rfl (fun ls hl => ?_)
  exact zQ_sweep_l2 Cx hR hret  mb_fuel (0 : Int32) s h ls H locs (lv_sub hl [1, 0] rfl) hP hS
set_option maxRecDepth 100000 in
set_option maxHeartbeats 4000000 in
theorem zQ_workOut_b64 {p : Program} {l : Launch} {e : Env} {R : Room} {s0 : State} {m : MethodId} {args : Array Value} {below : List Frame} {meth : Method} {c : Code} {Q : State → Prop} {A : Nat → Prop} {D : va_G} {X : Nat → Nat} {cI cZ cJ : ClassId} {rv : Unit} {rs : mb_S}
    (Cx : mb_C p s0 m args meth c c_Q_workOut 2 lw_w cnQ mb_ZX vwCl D [(cI, .int), (cZ, .boolean), (cJ, .long)] A (WX X cI cZ cJ)) (hR : 5 ≤ R.frames ∧ 117 ≤ R.locals)
    (hret : mb_R p l e R s0 m args below meth c Q vwCl D A (WX X cI cZ cJ) c_Q_workOut .return_ [] rs)   (s : mb_S)
    (h : mQ_workOut_b64  s = some (rv, rs)) : mb_B p l e R s0 m args below meth c Q vwCl D A (WX X cI cZ cJ) 2 [] [] 64 s := by
  unfold mQ_workOut_b64 at h
  intro ls H locs hl hP hS
  have Cx0 := Cx
  obtain ⟨⟨hx, hb, hml, hown, hts⟩, hK, hD, hA, hZ⟩ := Cx0
  exact mb_eV hret h d_Q_workOut_64 hP hS
set_option maxRecDepth 100000 in
set_option maxHeartbeats 4000000 in
theorem zQ_workOut_l36 {p : Program} {l : Launch} {e : Env} {R : Room} {s0 : State} {m : MethodId} {args : Array Value} {below : List Frame} {meth : Method} {c : Code} {Q : State → Prop} {A : Nat → Prop} {D : va_G} {X : Nat → Nat} {cI cZ cJ : ClassId} {rv : Unit} {rs : mb_S}
    (Cx : mb_C p s0 m args meth c c_Q_workOut 2 lw_w cnQ mb_ZX vwCl D [(cI, .int), (cZ, .boolean), (cJ, .long)] A (WX X cI cZ cJ)) (hR : 5 ≤ R.frames ∧ 117 ≤ R.locals)
    (hret : mb_R p l e R s0 m args below meth c Q vwCl D A (WX X cI cZ cJ) c_Q_workOut .return_ [] rs)  :
    ∀ (n : Nat) (x1 : Int32) (s : mb_S), mQ_workOut_l36  n x1 s = some (rv, rs) → mb_B p l e R s0 m args below meth c Q vwCl D A (WX X cI cZ cJ) 2 [(0, .ref (X 2)), (1, .int x1)] [] 36 s := by
  intro n
  induction n with
  | zero => intro x1 s h; cases h
  | succ n ih =>
    intro x1 s h
    rw [mQ_workOut_l36_s] at h
    intro ls H locs hl hP hS
    have Cx0 := Cx
    obtain ⟨⟨hx, hb, hml, hown, hts⟩, hK, hD, hA, hZ⟩ := Cx0
    refine lv_aload_n hx hb d_Q_workOut_36 rfl (lv_at hl 0 rfl) ?_
    refine va_get (ci := 2) (C := cnQ) (T := fTQ) (N := 6) hx hb hts uwQ hown hK hP 2 rfl rfl 5 (by decide) (hts _ wd_105) (fun _ h9 => h9) rfl d_Q_workOut_37 ?_
    refine lv_if_eq hx hb d_Q_workOut_40 rfl (fun hc => ?_) (fun hc => ?_)
    · have h := mb_t hc h
      exact zQ_workOut_b64 Cx hR hret  s h ls H locs (lv_sub hl [] rfl) hP hS
    · have h := mb_f hc h
      refine lv_iload_n hx hb d_Q_workOut_43 rfl (lv_at hl 1 rfl) ?_
      refine lv_ldc (v := (1000000 : Int32)) hx hb hown (hts _ wd_278) d_Q_workOut_44 ?_
      refine lv_icmp_ge hx hb d_Q_workOut_46 rfl (fun hc => ?_) (fun hc => ?_)
      · have h := mb_t hc h
        exact zQ_workOut_b64 Cx hR hret  s h ls H locs (lv_sub hl [] rfl) hP hS
      · have h := mb_f hc h
        refine lv_aload_n hx hb d_Q_workOut_49 rfl (lv_at hl 0 rfl) ?_
        refine lv_iconst (v := (0 : Int32)) hx hb d_Q_workOut_50 (by decide) ?_
        obtain ⟨hzs1, h⟩ := mb_putZ_ex h
        refine va_put (ci := 2) (v := .int (0 : Int32)) (ty := .boolean) (C := cnQ) (T := fTQ) (N := 6) hx hb hts uwQ fyQ fyQ_ok fnQ hown hK hP (hD _) hS 2 rfl rfl 5 (by decide) (hts _ wd_105) (fun _ h9 => h9) rfl (by decide +kernel) (mb_narZ hzs1) (mb_fitZ hzs1) (Nat.le_of_ble_eq_true rfl) d_Q_workOut_51 (fun H locs hP _ hS => ?_)
        have hP : va_P D vwCl (WX X cI cZ cJ (mb_setF s 3 (0 : Int32))) H := hP
        generalize mb_setF s 3 (0 : Int32) = s1 at hP h
        refine lv_aload_n hx hb d_Q_workOut_54 rfl (lv_at hl 0 rfl) ?_
        obtain ⟨_u, s2, hs2, h⟩ := mb_cal_ex h
        refine mb_goV Cx (mb_runV (As := []) (rest := []) mb_ZXok Cx (w_Q_sweep l D X cI cZ cJ hs2 H.size) (mb_cwV 0 hts wd_279 wd_281 sel_2 wd_4 wd_282 rfl rfl rfl (by decide +kernel) ⟨Nat.le_trans (by decide) hR.1, Nat.le_trans (by decide) hR.2⟩) hP hS 2 rfl rfl rfl hl.1 rfl (Nat.le_of_ble_eq_true rfl) d_Q_workOut_55) hS (fun H locs hP hS => ?_)
        obtain ⟨v3, ev3, h⟩ := mb_ex h
        refine lv_iinc (k := 1) (v := v3) (lv' := [(1, .int v3), (0, .ref (X 2))]) hx hb d_Q_workOut_58 hl rfl ev3 (by decide) rfl (fun ls hl => ?_)
        refine lv_goto hx hb d_Q_workOut_61 rfl ?_
        exact ih v3 s2 h ls H locs (lv_sub hl [1, 0] rfl) hP hS
set_option maxRecDepth 100000 in
set_option maxHeartbeats 4000000 in
theorem w_Q_workOut (l : Launch) (D : va_G) (X : Nat → Nat) (cI cZ cJ : ClassId)  {s : mb_S} {rv : Unit} {rs : mb_S}
    (h : mQ_workOut  s = some (rv, rs)) : mb_MV l y_Q_workOut ws_Q_workOut rm_Q_workOut mb_ZX vwCl D [(cI, .int), (cZ, .boolean), (cJ, .long)] (WX X cI cZ cJ) [.ref (X 2)] s rs := by
  refine mb_ofV mb_ZXok (by decide) rfl (Nat.le_of_ble_eq_true rfl) mb_DXok ?_
  intro p e s0 m args below meth c Q A Cx hret
  have hR : 5 ≤ (rm_Q_workOut).frames ∧ 117 ≤ (rm_Q_workOut).locals := ⟨Nat.le_refl _, Nat.le_refl _⟩
  intro ls H locs hl hP hS
  have Cx0 := Cx
  obtain ⟨⟨hx, hb, hml, hown, hts⟩, hK, hD, hA, hZ⟩ := Cx0
  have hl : lv_has ls 2 [(0, .ref (X 2))] := hl
  unfold mQ_workOut at h
  refine lv_aload_n hx hb d_Q_workOut_0 rfl (lv_at hl 0 rfl) ?_
  refine va_get (ci := 2) (C := cnQ) (T := fTQ) (N := 6) hx hb hts uwQ hown hK hP 2 rfl rfl 1 (by decide) (hts _ wd_97) (fun _ h9 => h9) rfl d_Q_workOut_1 ?_
  refine lv_iconst (v := (0 : Int32)) hx hb d_Q_workOut_4 (by decide) ?_
  refine mb_kfill (WS := WX X cI cZ cJ) Cx hP hS 16 rfl rfl h (mb_cwS 2 hts wd_277 wd_25 wd_3 wd_26 rfl rfl rfl (by decide +kernel) ⟨Nat.le_trans (by decide) hR.1, Nat.le_trans (by decide) hR.2⟩) (rest := []) hl.1 rfl (Nat.le_of_ble_eq_true rfl) d_Q_workOut_5 (by decide) rfl (fun H locs s4 hP hS h => ?_)
  refine lv_aload_n hx hb d_Q_workOut_8 rfl (lv_at hl 0 rfl) ?_
  refine va_get (ci := 2) (C := cnQ) (T := fTQ) (N := 6) hx hb hts uwQ hown hK hP 2 rfl rfl 2 (by decide) (hts _ wd_100) (fun _ h9 => h9) rfl d_Q_workOut_9 ?_
  refine lv_iconst (v := (0 : Int32)) hx hb d_Q_workOut_12 (by decide) ?_
  refine mb_kfill (WS := WX X cI cZ cJ) Cx hP hS 17 rfl rfl h (mb_cwS 2 hts wd_277 wd_25 wd_3 wd_26 rfl rfl rfl (by decide +kernel) ⟨Nat.le_trans (by decide) hR.1, Nat.le_trans (by decide) hR.2⟩) (rest := []) hl.1 rfl (Nat.le_of_ble_eq_true rfl) d_Q_workOut_13 (by decide) rfl (fun H locs s5 hP hS h => ?_)
  refine lv_aload_n hx hb d_Q_workOut_16 rfl (lv_at hl 0 rfl) ?_
  refine va_get (ci := 2) (C := cnQ) (T := fTQ) (N := 6) hx hb hts uwQ hown hK hP 2 rfl rfl 3 (by decide) (hts _ wd_102) (fun _ h9 => h9) rfl d_Q_workOut_17 ?_
  refine lv_iconst (v := (0 : Int32)) hx hb d_Q_workOut_20 (by decide) ?_
  refine mb_kfill (WS := WX X cI cZ cJ) Cx hP hS 18 rfl rfl h (mb_cwS 2 hts wd_277 wd_25 wd_3 wd_26 rfl rfl rfl (by decide +kernel) ⟨Nat.le_trans (by decide) hR.1, Nat.le_trans (by decide) hR.2⟩) (rest := []) hl.1 rfl (Nat.le_of_ble_eq_true rfl) d_Q_workOut_21 (by decide) rfl (fun H locs s6 hP hS h => ?_)
  refine lv_aload_n hx hb d_Q_workOut_24 rfl (lv_at hl 0 rfl) ?_
  refine lv_iconst (v := (1 : Int32)) hx hb d_Q_workOut_25 (by decide) ?_
  have h := mb_putF_ex h
  refine va_put (ci := 2) (v := .int (1 : Int32)) (ty := .int) (C := cnQ) (T := fTQ) (N := 6) hx hb hts uwQ fyQ fyQ_ok fnQ hown hK hP (hD _) hS 2 rfl rfl 4 (by decide) (hts _ wd_104) (fun _ h9 => h9) rfl (by decide +kernel) rfl rfl (Nat.le_of_ble_eq_true rfl) d_Q_workOut_26 (fun H locs hP _ hS => ?_)
  have hP : va_P D vwCl (WX X cI cZ cJ (mb_setF s6 2 (1 : Int32))) H := hP
  generalize mb_setF s6 2 (1 : Int32) = s7 at hP h
  refine lv_aload_n hx hb d_Q_workOut_29 rfl (lv_at hl 0 rfl) ?_
  refine lv_iconst (v := (1 : Int32)) hx hb d_Q_workOut_30 (by decide) ?_
  obtain ⟨hzs8, h⟩ := mb_putZ_ex h
  refine va_put (ci := 2) (v := .int (1 : Int32)) (ty := .boolean) (C := cnQ) (T := fTQ) (N := 6) hx hb hts uwQ fyQ fyQ_ok fnQ hown hK hP (hD _) hS 2 rfl rfl 5 (by decide) (hts _ wd_105) (fun _ h9 => h9) rfl (by decide +kernel) (mb_narZ hzs8) (mb_fitZ hzs8) (Nat.le_of_ble_eq_true rfl) d_Q_workOut_31 (fun H locs hP _ hS => ?_)
  have hP : va_P D vwCl (WX X cI cZ cJ (mb_setF s7 3 (1 : Int32))) H := hP
  generalize mb_setF s7 3 (1 : Int32) = s8 at hP h
  refine lv_iconst (v := (0 : Int32)) hx hb d_Q_workOut_34 (by decide) ?_
  refine lv_istore_n (lv' := [(1, .int (0 : Int32)), (0, .ref (X 2))]) hx hb d_Q_workOut_35 rfl hl (by decide) rfl (fun ls hl => ?_)
  exact zQ_workOut_l36 Cx hR hret  mb_fuel (0 : Int32) s8 h ls H locs (lv_sub hl [1, 0] rfl) hP hS
set_option maxRecDepth 100000 in
set_option maxHeartbeats 4000000 in
theorem zF_clear_l42 {p : Program} {l : Launch} {e : Env} {R : Room} {s0 : State} {m : MethodId} {args : Array Value} {below : List Frame} {meth : Method} {c : Code} {Q : State → Prop} {A : Nat → Prop} {D : va_G} {X : Nat → Nat} {cI cZ cJ : ClassId} {rv : Unit} {rs : mb_S}
    (Cx : mb_C p s0 m args meth c c_F_clear 3 lw_w cnF mb_ZX vwCl D [(cI, .int), (cZ, .boolean), (cJ, .long)] A (WX X cI cZ cJ)) (hR : 1 ≤ R.frames ∧ 23 ≤ R.locals)
    (hret : mb_R p l e R s0 m args below meth c Q vwCl D A (WX X cI cZ cJ) c_F_clear .return_ [] rs) (k34 : Int32 → mb_S → Option (Unit × mb_S)) (hk34 : ∀ (x1 : Int32) (s : mb_S), k34 x1 s = some (rv, rs) → mb_B p l e R s0 m args below meth c Q vwCl D A (WX X cI cZ cJ) 3 [(0, .ref (X 3)), (1, .int x1)] [] 34 s) :
    ∀ (n : Nat) (x1 : Int32) (x2 : Int32) (s : mb_S), mF_clear_l42 k34 n x1 x2 s = some (rv, rs) → mb_B p l e R s0 m args below meth c Q vwCl D A (WX X cI cZ cJ) 3 [(0, .ref (X 3)), (1, .int x1), (2, .int x2)] [] 42 s := by
  intro n
  induction n with
  | zero => intro x1 x2 s h; cases h
  | succ n ih =>
    intro x1 x2 s h
    rw [mF_clear_l42_s] at h
    intro ls H locs hl hP hS
    have Cx0 := Cx
    obtain ⟨⟨hx, hb, hml, hown, hts⟩, hK, hD, hA, hZ⟩ := Cx0
    refine lv_iload_n hx hb d_F_clear_42 rfl (lv_at hl 2 rfl) ?_
    refine lv_iconst (v := (4 : Int32)) hx hb d_F_clear_43 (by decide) ?_
    refine lv_icmp_ge hx hb d_F_clear_44 rfl (fun hc => ?_) (fun hc => ?_)
    · have h := mb_t hc h
      obtain ⟨v1, ev1, h⟩ := mb_ex h
      refine lv_iinc (k := 1) (v := v1) (lv' := [(1, .int v1), (0, .ref (X 3)), (2, .int x2)]) hx hb d_F_clear_70 hl rfl ev1 (by decide) rfl (fun ls hl => ?_)
      refine lv_goto hx hb d_F_clear_73 rfl ?_
      exact hk34 v1 s h ls H locs (lv_sub hl [1, 0] rfl) hP hS
    · have h := mb_f hc h
      refine lv_aload_n hx hb d_F_clear_47 rfl (lv_at hl 0 rfl) ?_
      refine va_get (ci := 3) (C := cnF) (T := fTF) (N := 7) hx hb hts uwF hown hK hP 3 rfl rfl 4 (by decide) (hts _ wd_129) (fun _ h9 => h9) rfl d_F_clear_48 ?_
      refine lv_iload_n hx hb d_F_clear_51 rfl (lv_at hl 1 rfl) ?_
      refine lv_bipush (v := (20 : Int32)) hx hb d_F_clear_52 (by decide) ?_
      refine lv_imul hx hb d_F_clear_54 ?_
      refine lv_bipush (v := (16 : Int32)) hx hb d_F_clear_55 (by decide) ?_
      refine lv_iadd hx hb d_F_clear_57 ?_
      refine lv_iload_n hx hb d_F_clear_58 rfl (lv_at hl 2 rfl) ?_
      refine lv_iadd hx hb d_F_clear_59 ?_
      refine lv_iconst (v := (1 : Int32)) hx hb d_F_clear_60 (by decide) ?_
      refine lv_iload_n hx hb d_F_clear_61 rfl (lv_at hl 2 rfl) ?_
      refine lv_ishl hx hb d_F_clear_62 ?_
      refine mb_iast (WS := WX X cI cZ cJ) hx hb hK hP hD hS 21 0 rfl rfl h d_F_clear_63 rfl (fun H locs s2 hP hS h => ?_)
      obtain ⟨v3, ev3, h⟩ := mb_ex h
      refine lv_iinc (k := 2) (v := v3) (lv' := [(2, .int v3), (0, .ref (X 3)), (1, .int x1)]) hx hb d_F_clear_64 hl rfl ev3 (by decide) rfl (fun ls hl => ?_)
      refine lv_goto hx hb d_F_clear_67 rfl ?_
      exact ih x1 v3 s2 h ls H locs (lv_sub hl [1, 2, 0] rfl) hP hS
set_option maxRecDepth 100000 in
set_option maxHeartbeats 4000000 in
theorem zF_clear_l34 {p : Program} {l : Launch} {e : Env} {R : Room} {s0 : State} {m : MethodId} {args : Array Value} {below : List Frame} {meth : Method} {c : Code} {Q : State → Prop} {A : Nat → Prop} {D : va_G} {X : Nat → Nat} {cI cZ cJ : ClassId} {rv : Unit} {rs : mb_S}
    (Cx : mb_C p s0 m args meth c c_F_clear 3 lw_w cnF mb_ZX vwCl D [(cI, .int), (cZ, .boolean), (cJ, .long)] A (WX X cI cZ cJ)) (hR : 1 ≤ R.frames ∧ 23 ≤ R.locals)
    (hret : mb_R p l e R s0 m args below meth c Q vwCl D A (WX X cI cZ cJ) c_F_clear .return_ [] rs)  :
    ∀ (n : Nat) (x1 : Int32) (s : mb_S), mF_clear_l34  n x1 s = some (rv, rs) → mb_B p l e R s0 m args below meth c Q vwCl D A (WX X cI cZ cJ) 3 [(0, .ref (X 3)), (1, .int x1)] [] 34 s := by
  intro n
  induction n with
  | zero => intro x1 s h; cases h
  | succ n ih =>
    intro x1 s h
    rw [mF_clear_l34_s] at h
    intro ls H locs hl hP hS
    have Cx0 := Cx
    obtain ⟨⟨hx, hb, hml, hown, hts⟩, hK, hD, hA, hZ⟩ := Cx0
    refine lv_iload_n hx hb d_F_clear_34 rfl (lv_at hl 1 rfl) ?_
    refine lv_bipush (v := (6 : Int32)) hx hb d_F_clear_35 (by decide) ?_
    refine lv_icmp_ge hx hb d_F_clear_37 rfl (fun hc => ?_) (fun hc => ?_)
    · have h := mb_t hc h
      exact mb_eV hret h d_F_clear_76 hP hS
    · have h := mb_f hc h
      refine lv_iconst (v := (0 : Int32)) hx hb d_F_clear_40 (by decide) ?_
      refine lv_istore_n (lv' := [(2, .int (0 : Int32)), (0, .ref (X 3)), (1, .int x1)]) hx hb d_F_clear_41 rfl hl (by decide) rfl (fun ls hl => ?_)
      exact zF_clear_l42 Cx hR hret (mF_clear_l34  n) ih mb_fuel x1 (0 : Int32) s h ls H locs (lv_sub hl [1, 2, 0] rfl) hP hS
set_option maxRecDepth 100000 in
set_option maxHeartbeats 4000000 in
theorem w_F_clear (l : Launch) (D : va_G) (X : Nat → Nat) (cI cZ cJ : ClassId)  {s : mb_S} {rv : Unit} {rs : mb_S}
    (h : mF_clear  s = some (rv, rs)) : mb_MV l y_F_clear ws_F_clear rm_F_clear mb_ZX vwCl D [(cI, .int), (cZ, .boolean), (cJ, .long)] (WX X cI cZ cJ) [.ref (X 3)] s rs := by
  refine mb_ofV mb_ZXok (by decide) rfl (Nat.le_of_ble_eq_true rfl) mb_DXok ?_
  intro p e s0 m args below meth c Q A Cx hret
  have hR : 1 ≤ (rm_F_clear).frames ∧ 23 ≤ (rm_F_clear).locals := ⟨Nat.le_refl _, Nat.le_refl _⟩
  intro ls H locs hl hP hS
  have Cx0 := Cx
  obtain ⟨⟨hx, hb, hml, hown, hts⟩, hK, hD, hA, hZ⟩ := Cx0
  have hl : lv_has ls 3 [(0, .ref (X 3))] := hl
  unfold mF_clear at h
  refine lv_aload_n hx hb d_F_clear_0 rfl (lv_at hl 0 rfl) ?_
  refine va_get (ci := 3) (C := cnF) (T := fTF) (N := 7) hx hb hts uwF hown hK hP 3 rfl rfl 2 (by decide) (hts _ wd_127) (fun _ h9 => h9) rfl d_F_clear_1 ?_
  refine lv_iconst (v := (0 : Int32)) hx hb d_F_clear_4 (by decide) ?_
  refine mb_kfill (WS := WX X cI cZ cJ) Cx hP hS 19 rfl rfl h (mb_cwS 2 hts wd_323 wd_25 wd_3 wd_26 rfl rfl rfl (by decide +kernel) ⟨Nat.le_trans (by decide) hR.1, Nat.le_trans (by decide) hR.2⟩) (rest := []) hl.1 rfl (Nat.le_of_ble_eq_true rfl) d_F_clear_5 (by decide) rfl (fun H locs s4 hP hS h => ?_)
  refine lv_aload_n hx hb d_F_clear_8 rfl (lv_at hl 0 rfl) ?_
  refine va_get (ci := 3) (C := cnF) (T := fTF) (N := 7) hx hb hts uwF hown hK hP 3 rfl rfl 3 (by decide) (hts _ wd_128) (fun _ h9 => h9) rfl d_F_clear_9 ?_
  refine lv_iconst (v := (0 : Int32)) hx hb d_F_clear_12 (by decide) ?_
  refine mb_kfill (WS := WX X cI cZ cJ) Cx hP hS 20 rfl rfl h (mb_cwS 2 hts wd_323 wd_25 wd_3 wd_26 rfl rfl rfl (by decide +kernel) ⟨Nat.le_trans (by decide) hR.1, Nat.le_trans (by decide) hR.2⟩) (rest := []) hl.1 rfl (Nat.le_of_ble_eq_true rfl) d_F_clear_13 (by decide) rfl (fun H locs s5 hP hS h => ?_)
  refine lv_aload_n hx hb d_F_clear_16 rfl (lv_at hl 0 rfl) ?_
  refine va_get (ci := 3) (C := cnF) (T := fTF) (N := 7) hx hb hts uwF hown hK hP 3 rfl rfl 4 (by decide) (hts _ wd_129) (fun _ h9 => h9) rfl d_F_clear_17 ?_
  refine lv_iconst (v := (0 : Int32)) hx hb d_F_clear_20 (by decide) ?_
  refine mb_kfill (WS := WX X cI cZ cJ) Cx hP hS 21 rfl rfl h (mb_cwS 2 hts wd_323 wd_25 wd_3 wd_26 rfl rfl rfl (by decide +kernel) ⟨Nat.le_trans (by decide) hR.1, Nat.le_trans (by decide) hR.2⟩) (rest := []) hl.1 rfl (Nat.le_of_ble_eq_true rfl) d_F_clear_21 (by decide) rfl (fun H locs s6 hP hS h => ?_)
  refine lv_aload_n hx hb d_F_clear_24 rfl (lv_at hl 0 rfl) ?_
  refine va_get (ci := 3) (C := cnF) (T := fTF) (N := 7) hx hb hts uwF hown hK hP 3 rfl rfl 5 (by decide) (hts _ wd_130) (fun _ h9 => h9) rfl d_F_clear_25 ?_
  refine lv_iconst (v := (0 : Int32)) hx hb d_F_clear_28 (by decide) ?_
  refine mb_kfill (WS := WX X cI cZ cJ) Cx hP hS 22 rfl rfl h (mb_cwS 2 hts wd_323 wd_25 wd_3 wd_26 rfl rfl rfl (by decide +kernel) ⟨Nat.le_trans (by decide) hR.1, Nat.le_trans (by decide) hR.2⟩) (rest := []) hl.1 rfl (Nat.le_of_ble_eq_true rfl) d_F_clear_29 (by decide) rfl (fun H locs s7 hP hS h => ?_)
  refine lv_iconst (v := (0 : Int32)) hx hb d_F_clear_32 (by decide) ?_
  refine lv_istore_n (lv' := [(1, .int (0 : Int32)), (0, .ref (X 3))]) hx hb d_F_clear_33 rfl hl (by decide) rfl (fun ls hl => ?_)
  exact zF_clear_l34 Cx hR hret  mb_fuel (0 : Int32) s7 h ls H locs (lv_sub hl [1, 0] rfl) hP hS
set_option maxRecDepth 100000 in
set_option maxHeartbeats 4000000 in
theorem zF_growZero_b30 {p : Program} {l : Launch} {e : Env} {R : Room} {s0 : State} {m : MethodId} {args : Array Value} {below : List Frame} {meth : Method} {c : Code} {Q : State → Prop} {A : Nat → Prop} {D : va_G} {X : Nat → Nat} {cI cZ cJ : ClassId} {rv : Unit} {rs : mb_S}
    (Cx : mb_C p s0 m args meth c c_F_growZero 3 lw_w cnF mb_ZX vwCl D [(cI, .int), (cZ, .boolean), (cJ, .long)] A (WX X cI cZ cJ)) (hR : 1 ≤ R.frames ∧ 21 ≤ R.locals)
    (hret : mb_R p l e R s0 m args below meth c Q vwCl D A (WX X cI cZ cJ) c_F_growZero .return_ [] rs)   (s : mb_S)
    (h : mF_growZero_b30  s = some (rv, rs)) : mb_B p l e R s0 m args below meth c Q vwCl D A (WX X cI cZ cJ) 3 [] [] 30 s := by
  unfold mF_growZero_b30 at h
  intro ls H locs hl hP hS
  have Cx0 := Cx
  obtain ⟨⟨hx, hb, hml, hown, hts⟩, hK, hD, hA, hZ⟩ := Cx0
  exact mb_eV hret h d_F_growZero_30 hP hS
set_option maxRecDepth 100000 in
set_option maxHeartbeats 4000000 in
theorem w_F_growZero (l : Launch) (D : va_G) (X : Nat → Nat) (cI cZ cJ : ClassId) {x1 : Int32} {x2 : Int32} {s : mb_S} {rv : Unit} {rs : mb_S}
    (h : mF_growZero x1 x2 s = some (rv, rs)) : mb_MV l y_F_growZero ws_F_growZero rm_F_growZero mb_ZX vwCl D [(cI, .int), (cZ, .boolean), (cJ, .long)] (WX X cI cZ cJ) [.ref (X 3), .int x1, .int x2] s rs := by
  refine mb_ofV mb_ZXok (by decide) rfl (Nat.le_of_ble_eq_true rfl) mb_DXok ?_
  intro p e s0 m args below meth c Q A Cx hret
  have hR : 1 ≤ (rm_F_growZero).frames ∧ 21 ≤ (rm_F_growZero).locals := ⟨Nat.le_refl _, Nat.le_refl _⟩
  intro ls H locs hl hP hS
  have Cx0 := Cx
  obtain ⟨⟨hx, hb, hml, hown, hts⟩, hK, hD, hA, hZ⟩ := Cx0
  have hl : lv_has ls 3 [(0, .ref (X 3)), (1, .int x1), (2, .int x2)] := hl
  unfold mF_growZero at h
  refine lv_aload_n hx hb d_F_growZero_0 rfl (lv_at hl 0 rfl) ?_
  refine va_get (ci := 3) (C := cnF) (T := fTF) (N := 7) hx hb hts uwF hown hK hP 3 rfl rfl 5 (by decide) (hts _ wd_130) (fun _ h9 => h9) rfl d_F_growZero_1 ?_
  refine lv_iload_n hx hb d_F_growZero_4 rfl (lv_at hl 1 rfl) ?_
  refine mb_iald hx hb hK hP 22 0 rfl rfl h d_F_growZero_5 (fun v1 h => ?_)
  refine lv_iload_n hx hb d_F_growZero_6 rfl (lv_at hl 2 rfl) ?_
  obtain ⟨v2, hv2, h⟩ := mb_cal0_ex h
  refine mb_go0I (st := s) Cx (mb_runSN0 (As := [.int v1, .int x2]) (rest := []) Cx (w_X_has l D hv2 H.size) (mb_cn 2 hts wd_329 wd_284 wd_1 wd_285 rfl rfl rfl (by decide +kernel) ⟨Nat.le_trans (by decide) hR.1, Nat.le_trans (by decide) hR.2⟩) rfl hl.1 rfl (Nat.le_of_ble_eq_true rfl) d_F_growZero_7) hP hS (fun H locs hP hS => ?_)
  refine lv_if_ne hx hb d_F_growZero_10 rfl (fun hc => ?_) (fun hc => ?_)
  · have h := mb_f hc h
    exact zF_growZero_b30 Cx hR hret  s h ls H locs (lv_sub hl [] rfl) hP hS
  · have h := mb_t hc h
    refine lv_aload_n hx hb d_F_growZero_13 rfl (lv_at hl 0 rfl) ?_
    refine va_get (ci := 3) (C := cnF) (T := fTF) (N := 7) hx hb hts uwF hown hK hP 3 rfl rfl 5 (by decide) (hts _ wd_130) (fun _ h9 => h9) rfl d_F_growZero_14 ?_
    refine lv_iload_n hx hb d_F_growZero_17 rfl (lv_at hl 1 rfl) ?_
    refine lv_dup2_11 hx hb d_F_growZero_18 rfl rfl ?_
    refine mb_iald hx hb hK hP 22 0 rfl rfl h d_F_growZero_19 (fun v3 h => ?_)
    refine lv_iconst (v := (1 : Int32)) hx hb d_F_growZero_20 (by decide) ?_
    refine lv_iload_n hx hb d_F_growZero_21 rfl (lv_at hl 2 rfl) ?_
    refine lv_ishl hx hb d_F_growZero_22 ?_
    refine lv_ior hx hb d_F_growZero_23 ?_
    refine mb_iast (WS := WX X cI cZ cJ) hx hb hK hP hD hS 22 0 rfl rfl h d_F_growZero_24 rfl (fun H locs s4 hP hS h => ?_)
    refine lv_aload_n hx hb d_F_growZero_25 rfl (lv_at hl 0 rfl) ?_
    refine lv_iconst (v := (1 : Int32)) hx hb d_F_growZero_26 (by decide) ?_
    obtain ⟨hzs5, h⟩ := mb_putZ_ex h
    refine va_put (ci := 3) (v := .int (1 : Int32)) (ty := .boolean) (C := cnF) (T := fTF) (N := 7) hx hb hts uwF fyF fyF_ok fnF hown hK hP (hD _) hS 3 rfl rfl 6 (by decide) (hts _ wd_131) (fun _ h9 => h9) rfl (by decide +kernel) (mb_narZ hzs5) (mb_fitZ hzs5) (Nat.le_of_ble_eq_true rfl) d_F_growZero_27 (fun H locs hP _ hS => ?_)
    have hP : va_P D vwCl (WX X cI cZ cJ (mb_setF s4 4 (1 : Int32))) H := hP
    generalize mb_setF s4 4 (1 : Int32) = s5 at hP h
    exact zF_growZero_b30 Cx hR hret  s5 h ls H locs (lv_sub hl [] rfl) hP hS
set_option maxRecDepth 100000 in
set_option maxHeartbeats 4000000 in
theorem w_P_jumpSpot (l : Launch) (D : va_G) (X : Nat → Nat) (cI cZ cJ : ClassId) {x1 : Int32} {x2 : Int32} {s : mb_S} {rv : Int32} {rs : mb_S}
    (h : mP_jumpSpot x1 x2 s = some (rv, rs)) : mb_MI l y_P_jumpSpot ws_P_jumpSpot rm_P_jumpSpot mb_ZX vwCl D [(cI, .int), (cZ, .boolean), (cJ, .long)] (WX X cI cZ cJ) [.ref (X 1), .int x1, .int x2] s rv rs := by
  refine mb_ofI mb_ZXok (by decide) rfl (Nat.le_of_ble_eq_true rfl) mb_DXok ?_
  intro p e s0 m args below meth c Q A Cx hret
  have hR : 1 ≤ (rm_P_jumpSpot).frames ∧ 21 ≤ (rm_P_jumpSpot).locals := ⟨Nat.le_refl _, Nat.le_refl _⟩
  intro ls H locs hl hP hS
  have Cx0 := Cx
  obtain ⟨⟨hx, hb, hml, hown, hts⟩, hK, hD, hA, hZ⟩ := Cx0
  have hl : lv_has ls 3 [(0, .ref (X 1)), (1, .int x1), (2, .int x2)] := hl
  unfold mP_jumpSpot at h
  refine lv_iload_n hx hb d_P_jumpSpot_0 rfl (lv_at hl 1 rfl) ?_
  refine lv_bipush (v := (13 : Int32)) hx hb d_P_jumpSpot_1 (by decide) ?_
  refine lv_imul hx hb d_P_jumpSpot_3 ?_
  refine lv_aload_n hx hb d_P_jumpSpot_4 rfl (lv_at hl 0 rfl) ?_
  refine va_get (ci := 1) (C := cnP) (T := fTP) (N := 12) hx hb hts uwP hown hK hP 1 rfl rfl 1 (by decide) (hts _ wd_31) (fun _ h9 => h9) rfl d_P_jumpSpot_5 ?_
  refine lv_iload_n hx hb d_P_jumpSpot_8 rfl (lv_at hl 2 rfl) ?_
  refine mb_iald hx hb hK hP 6 0 rfl rfl h d_P_jumpSpot_9 (fun v1 h => ?_)
  refine lv_aload_n hx hb d_P_jumpSpot_10 rfl (lv_at hl 0 rfl) ?_
  refine va_get (ci := 1) (C := cnP) (T := fTP) (N := 12) hx hb hts uwP hown hK hP 1 rfl rfl 5 (by decide) (hts _ wd_48) (fun _ h9 => h9) rfl d_P_jumpSpot_11 ?_
  refine lv_iload_n hx hb d_P_jumpSpot_14 rfl (lv_at hl 1 rfl) ?_
  refine mb_iald hx hb hK hP 10 0 rfl rfl h d_P_jumpSpot_15 (fun v2 h => ?_)
  refine va_mmin hx hb (hml.trans hl.1.symm) hown (hts _ wd_342) (hts _ wd_343) (hts _ wd_8) (hts _ wd_344) (Nat.le_trans (by decide) hR.1) (Nat.le_trans (Nat.le_of_ble_eq_true rfl) hR.2) (Nat.zero_le _) (Nat.zero_le _) d_P_jumpSpot_16 ?_
  refine lv_iadd hx hb d_P_jumpSpot_19 ?_
  exact mb_eI hret h d_P_jumpSpot_20 hP hS
set_option maxRecDepth 100000 in
set_option maxHeartbeats 4000000 in
theorem zF_growHeld_b38 {p : Program} {l : Launch} {e : Env} {R : Room} {s0 : State} {m : MethodId} {args : Array Value} {below : List Frame} {meth : Method} {c : Code} {Q : State → Prop} {A : Nat → Prop} {D : va_G} {X : Nat → Nat} {cI cZ cJ : ClassId} {rv : Unit} {rs : mb_S}
    (Cx : mb_C p s0 m args meth c c_F_growHeld 5 lw_w cnF mb_ZX vwCl D [(cI, .int), (cZ, .boolean), (cJ, .long)] A (WX X cI cZ cJ)) (hR : 0 ≤ R.frames ∧ 0 ≤ R.locals)
    (hret : mb_R p l e R s0 m args below meth c Q vwCl D A (WX X cI cZ cJ) c_F_growHeld .return_ [] rs)   (s : mb_S)
    (h : mF_growHeld_b38  s = some (rv, rs)) : mb_B p l e R s0 m args below meth c Q vwCl D A (WX X cI cZ cJ) 5 [] [] 38 s := by
  unfold mF_growHeld_b38 at h
  intro ls H locs hl hP hS
  have Cx0 := Cx
  obtain ⟨⟨hx, hb, hml, hown, hts⟩, hK, hD, hA, hZ⟩ := Cx0
  exact mb_eV hret h d_F_growHeld_38 hP hS
set_option maxRecDepth 100000 in
set_option maxHeartbeats 4000000 in
theorem w_F_growHeld (l : Launch) (D : va_G) (X : Nat → Nat) (cI cZ cJ : ClassId) {x1 : Int32} {x2 : Int32} {x3 : Int32} {s : mb_S} {rv : Unit} {rs : mb_S}
    (h : mF_growHeld x1 x2 x3 s = some (rv, rs)) : mb_MV l y_F_growHeld ws_F_growHeld rm_F_growHeld mb_ZX vwCl D [(cI, .int), (cZ, .boolean), (cJ, .long)] (WX X cI cZ cJ) [.ref (X 3), .int x1, .int x2, .int x3] s rs := by
  refine mb_ofV mb_ZXok (by decide) rfl (Nat.le_of_ble_eq_true rfl) mb_DXok ?_
  intro p e s0 m args below meth c Q A Cx hret
  have hR : 0 ≤ (rm_F_growHeld).frames ∧ 0 ≤ (rm_F_growHeld).locals := ⟨Nat.le_refl _, Nat.le_refl _⟩
  intro ls H locs hl hP hS
  have Cx0 := Cx
  obtain ⟨⟨hx, hb, hml, hown, hts⟩, hK, hD, hA, hZ⟩ := Cx0
  have hl : lv_has ls 5 [(0, .ref (X 3)), (1, .int x1), (2, .int x2), (3, .int x3)] := hl
  unfold mF_growHeld at h
  refine lv_iload_n hx hb d_F_growHeld_0 rfl (lv_at hl 1 rfl) ?_
  refine lv_bipush (v := (20 : Int32)) hx hb d_F_growHeld_1 (by decide) ?_
  refine lv_imul hx hb d_F_growHeld_3 ?_
  refine lv_iload_n hx hb d_F_growHeld_4 rfl (lv_at hl 2 rfl) ?_
  refine lv_iadd hx hb d_F_growHeld_5 ?_
  refine lv_topi (fun v1 ev1 => ?_)
  have h := mb_at ev1 h
  refine lv_istore (lv' := [(4, .int v1), (0, .ref (X 3)), (1, .int x1), (2, .int x2), (3, .int x3)]) hx hb d_F_growHeld_6 hl (by decide) rfl (fun ls hl => ?_)
  refine lv_iload_n hx hb d_F_growHeld_8 rfl (lv_at hl 4 rfl) ?_
  refine lv_aload_n hx hb d_F_growHeld_9 rfl (lv_at hl 1 rfl) ?_
  refine va_get (ci := 3) (C := cnF) (T := fTF) (N := 7) hx hb hts uwF hown hK hP 3 rfl rfl 2 (by decide) (hts _ wd_127) (fun _ h9 => h9) rfl d_F_growHeld_10 ?_
  refine lv_iload hx hb d_F_growHeld_13 (lv_at hl 0 rfl) ?_
  refine mb_iald hx hb hK hP 19 0 rfl rfl h d_F_growHeld_15 (fun v2 h => ?_)
  refine lv_iconst (v := (-1 : Int32)) hx hb d_F_growHeld_16 (by decide) ?_
  refine lv_ixor hx hb d_F_growHeld_17 ?_
  refine lv_iand hx hb d_F_growHeld_18 ?_
  refine lv_if_eq hx hb d_F_growHeld_19 rfl (fun hc => ?_) (fun hc => ?_)
  · have h := mb_t hc h
    exact zF_growHeld_b38 Cx hR hret  s h ls H locs (lv_sub hl [] rfl) hP hS
  · have h := mb_f hc h
    refine lv_aload_n hx hb d_F_growHeld_22 rfl (lv_at hl 1 rfl) ?_
    refine va_get (ci := 3) (C := cnF) (T := fTF) (N := 7) hx hb hts uwF hown hK hP 3 rfl rfl 2 (by decide) (hts _ wd_127) (fun _ h9 => h9) rfl d_F_growHeld_23 ?_
    refine lv_iload hx hb d_F_growHeld_26 (lv_at hl 0 rfl) ?_
    refine lv_dup2_11 hx hb d_F_growHeld_28 rfl rfl ?_
    refine mb_iald hx hb hK hP 19 0 rfl rfl h d_F_growHeld_29 (fun v3 h => ?_)
    refine lv_iload_n hx hb d_F_growHeld_30 rfl (lv_at hl 4 rfl) ?_
    refine lv_ior hx hb d_F_growHeld_31 ?_
    refine mb_iast (WS := WX X cI cZ cJ) hx hb hK hP hD hS 19 0 rfl rfl h d_F_growHeld_32 rfl (fun H locs s4 hP hS h => ?_)
    refine lv_aload_n hx hb d_F_growHeld_33 rfl (lv_at hl 1 rfl) ?_
    refine lv_iconst (v := (1 : Int32)) hx hb d_F_growHeld_34 (by decide) ?_
    obtain ⟨hzs5, h⟩ := mb_putZ_ex h
    refine va_put (ci := 3) (v := .int (1 : Int32)) (ty := .boolean) (C := cnF) (T := fTF) (N := 7) hx hb hts uwF fyF fyF_ok fnF hown hK hP (hD _) hS 3 rfl rfl 6 (by decide) (hts _ wd_131) (fun _ h9 => h9) rfl (by decide +kernel) (mb_narZ hzs5) (mb_fitZ hzs5) (Nat.le_of_ble_eq_true rfl) d_F_growHeld_35 (fun H locs hP _ hS => ?_)
    have hP : va_P D vwCl (WX X cI cZ cJ (mb_setF s4 4 (1 : Int32))) H := hP
    generalize mb_setF s4 4 (1 : Int32) = s5 at hP h
    exact zF_growHeld_b38 Cx hR hret  s5 h ls H locs (lv_sub hl [] rfl) hP hS
set_option maxRecDepth 100000 in
set_option maxHeartbeats 4000000 in
theorem zF_comeBack_b21 {p : Program} {l : Launch} {e : Env} {R : Room} {s0 : State} {m : MethodId} {args : Array Value} {below : List Frame} {meth : Method} {c : Code} {Q : State → Prop} {A : Nat → Prop} {D : va_G} {X : Nat → Nat} {cI cZ cJ : ClassId} {rv : Unit} {rs : mb_S}
    (Cx : mb_C p s0 m args meth c c_F_comeBack 5 lw_w cnF mb_ZX vwCl D [(cI, .int), (cZ, .boolean), (cJ, .long)] A (WX X cI cZ cJ)) (hR : 1 ≤ R.frames ∧ 24 ≤ R.locals)
    (hret : mb_R p l e R s0 m args below meth c Q vwCl D A (WX X cI cZ cJ) c_F_comeBack .return_ [] rs)  (x1 : Int32) (x2 : Int32) (x3 : Int32) (y0 : Int32) (s : mb_S)
    (h : mF_comeBack_b21  x1 x2 x3 y0 s = some (rv, rs)) : mb_B p l e R s0 m args below meth c Q vwCl D A (WX X cI cZ cJ) 5 [(0, .ref (X 3)), (1, .int x1), (2, .int x2), (3, .int x3)] [.int y0] 21 s := by
  unfold mF_comeBack_b21 at h
  intro ls H locs hl hP hS
  have Cx0 := Cx
  obtain ⟨⟨hx, hb, hml, hown, hts⟩, hK, hD, hA, hZ⟩ := Cx0
  refine lv_istore (lv' := [(4, .int y0), (0, .ref (X 3)), (1, .int x1), (2, .int x2), (3, .int x3)]) hx hb d_F_comeBack_21 hl (by decide) rfl (fun ls hl => ?_)
  refine lv_aload_n hx hb d_F_comeBack_23 rfl (lv_at hl 1 rfl) ?_
  refine lv_iload_n hx hb d_F_comeBack_24 rfl (lv_at hl 2 rfl) ?_
  refine lv_iconst (v := (1 : Int32)) hx hb d_F_comeBack_25 (by decide) ?_
  refine lv_iadd hx hb d_F_comeBack_26 ?_
  refine lv_iload_n hx hb d_F_comeBack_27 rfl (lv_at hl 3 rfl) ?_
  refine lv_iload_n hx hb d_F_comeBack_28 rfl (lv_at hl 4 rfl) ?_
  refine lv_ldc (v := (65520 : Int32)) hx hb hown (hts _ wd_357) d_F_comeBack_29 ?_
  refine lv_iand hx hb d_F_comeBack_31 ?_
  refine lv_iload hx hb d_F_comeBack_32 (lv_at hl 0 rfl) ?_
  refine lv_ior hx hb d_F_comeBack_34 ?_
  obtain ⟨_u, s1, hs1, h⟩ := mb_cal_ex h
  refine mb_goV Cx (mb_runV (As := [.int (x1 + (1 : Int32)), .int x2, .int ((x3 &&& (65520 : Int32)) ||| y0)]) (rest := []) mb_ZXok Cx (w_F_growHeld l D X cI cZ cJ hs1 H.size) (mb_cwV 3 hts wd_345 wd_347 sel_14 wd_5 wd_348 rfl rfl rfl (by decide +kernel) ⟨Nat.le_trans (by decide) hR.1, Nat.le_trans (by decide) hR.2⟩) hP hS 3 rfl rfl rfl hl.1 rfl (Nat.le_of_ble_eq_true rfl) d_F_comeBack_35) hS (fun H locs hP hS => ?_)
  exact mb_eV hret h d_F_comeBack_38 hP hS
set_option maxRecDepth 100000 in
set_option maxHeartbeats 4000000 in
theorem w_F_comeBack (l : Launch) (D : va_G) (X : Nat → Nat) (cI cZ cJ : ClassId) {x1 : Int32} {x2 : Int32} {x3 : Int32} {s : mb_S} {rv : Unit} {rs : mb_S}
    (h : mF_comeBack x1 x2 x3 s = some (rv, rs)) : mb_MV l y_F_comeBack ws_F_comeBack rm_F_comeBack mb_ZX vwCl D [(cI, .int), (cZ, .boolean), (cJ, .long)] (WX X cI cZ cJ) [.ref (X 3), .int x1, .int x2, .int x3] s rs := by
  refine mb_ofV mb_ZXok (by decide) rfl (Nat.le_of_ble_eq_true rfl) mb_DXok ?_
  intro p e s0 m args below meth c Q A Cx hret
  have hR : 1 ≤ (rm_F_comeBack).frames ∧ 24 ≤ (rm_F_comeBack).locals := ⟨Nat.le_refl _, Nat.le_refl _⟩
  intro ls H locs hl hP hS
  have Cx0 := Cx
  obtain ⟨⟨hx, hb, hml, hown, hts⟩, hK, hD, hA, hZ⟩ := Cx0
  have hl : lv_has ls 5 [(0, .ref (X 3)), (1, .int x1), (2, .int x2), (3, .int x3)] := hl
  unfold mF_comeBack at h
  refine lv_iload_n hx hb d_F_comeBack_0 rfl (lv_at hl 3 rfl) ?_
  refine lv_iconst (v := (1 : Int32)) hx hb d_F_comeBack_1 (by decide) ?_
  refine lv_iand hx hb d_F_comeBack_2 ?_
  refine lv_if_eq hx hb d_F_comeBack_3 rfl (fun hc => ?_) (fun hc => ?_)
  · have h := mb_t hc h
    refine lv_iconst (v := (0 : Int32)) hx hb d_F_comeBack_20 (by decide) ?_
    exact zF_comeBack_b21 Cx hR hret  x1 x2 x3 (0 : Int32) s h ls H locs (lv_sub hl [0, 1, 2, 3] rfl) hP hS
  · have h := mb_f hc h
    refine lv_iconst (v := (1 : Int32)) hx hb d_F_comeBack_6 (by decide) ?_
    refine lv_aload_n hx hb d_F_comeBack_7 rfl (lv_at hl 0 rfl) ?_
    refine va_get (ci := 3) (C := cnF) (T := fTF) (N := 7) hx hb hts uwF hown hK hP 3 rfl rfl 0 (by decide) (hts _ wd_125) (fun _ h9 => h9) rfl d_F_comeBack_8 ?_
    refine va_get (ci := 1) (C := cnP) (T := fTP) (N := 12) hx hb hts uwP hown hK hP 1 rfl rfl 1 (by decide) (hts _ wd_33) (fun _ h9 => h9) rfl d_F_comeBack_11 ?_
    refine lv_iload_n hx hb d_F_comeBack_14 rfl (lv_at hl 1 rfl) ?_
    refine mb_iald hx hb hK hP 6 0 rfl rfl h d_F_comeBack_15 (fun v2 h => ?_)
    refine lv_ishl hx hb d_F_comeBack_16 ?_
    refine lv_goto hx hb d_F_comeBack_17 rfl ?_
    exact zF_comeBack_b21 Cx hR hret  x1 x2 x3 ((1 : Int32) <<< (v2 &&& 31)) s h ls H locs (lv_sub hl [0, 1, 2, 3] rfl) hP hS
set_option maxRecDepth 100000 in
set_option maxHeartbeats 4000000 in
theorem zF_callZero_b62 {p : Program} {l : Launch} {e : Env} {R : Room} {s0 : State} {m : MethodId} {args : Array Value} {below : List Frame} {meth : Method} {c : Code} {Q : State → Prop} {A : Nat → Prop} {D : va_G} {X : Nat → Nat} {cI cZ cJ : ClassId} {rv : Unit} {rs : mb_S}
    (Cx : mb_C p s0 m args meth c c_F_callZero 4 lw_w cnF mb_ZX vwCl D [(cI, .int), (cZ, .boolean), (cJ, .long)] A (WX X cI cZ cJ)) (hR : 2 ≤ R.frames ∧ 48 ≤ R.locals)
    (hret : mb_R p l e R s0 m args below meth c Q vwCl D A (WX X cI cZ cJ) c_F_callZero .return_ [] rs) (k2 : Int32 → Int32 → mb_S → Option (Unit × mb_S)) (hk2 : ∀ (x1 : Int32) (x2 : Int32) (s : mb_S), k2 x1 x2 s = some (rv, rs) → mb_B p l e R s0 m args below meth c Q vwCl D A (WX X cI cZ cJ) 4 [(0, .ref (X 3)), (1, .int x1), (2, .int x2)] [] 2 s) (x1 : Int32) (x2 : Int32) (s : mb_S)
    (h : mF_callZero_b62 k2 x1 x2 s = some (rv, rs)) : mb_B p l e R s0 m args below meth c Q vwCl D A (WX X cI cZ cJ) 4 [(0, .ref (X 3)), (1, .int x1), (2, .int x2)] [] 62 s := by
  unfold mF_callZero_b62 at h
  intro ls H locs hl hP hS
  have Cx0 := Cx
  obtain ⟨⟨hx, hb, hml, hown, hts⟩, hK, hD, hA, hZ⟩ := Cx0
  obtain ⟨v1, ev1, h⟩ := mb_ex h
  refine lv_iinc (k := 2) (v := v1) (lv' := [(2, .int v1), (0, .ref (X 3)), (1, .int x1)]) hx hb d_F_callZero_62 hl rfl ev1 (by decide) rfl (fun ls hl => ?_)
  refine lv_goto hx hb d_F_callZero_65 rfl ?_
  exact hk2 x1 v1 s h ls H locs (lv_sub hl [1, 2, 0] rfl) hP hS
set_option maxRecDepth 100000 in
set_option maxHeartbeats 4000000 in
theorem zF_callZero_l33 {p : Program} {l : Launch} {e : Env} {R : Room} {s0 : State} {m : MethodId} {args : Array Value} {below : List Frame} {meth : Method} {c : Code} {Q : State → Prop} {A : Nat → Prop} {D : va_G} {X : Nat → Nat} {cI cZ cJ : ClassId} {rv : Unit} {rs : mb_S}
    (Cx : mb_C p s0 m args meth c c_F_callZero 4 lw_w cnF mb_ZX vwCl D [(cI, .int), (cZ, .boolean), (cJ, .long)] A (WX X cI cZ cJ)) (hR : 2 ≤ R.frames ∧ 48 ≤ R.locals)
    (hret : mb_R p l e R s0 m args below meth c Q vwCl D A (WX X cI cZ cJ) c_F_callZero .return_ [] rs) (k2 : Int32 → Int32 → mb_S → Option (Unit × mb_S)) (hk2 : ∀ (x1 : Int32) (x2 : Int32) (s : mb_S), k2 x1 x2 s = some (rv, rs) → mb_B p l e R s0 m args below meth c Q vwCl D A (WX X cI cZ cJ) 4 [(0, .ref (X 3)), (1, .int x1), (2, .int x2)] [] 2 s) :
    ∀ (n : Nat) (x1 : Int32) (x2 : Int32) (x3 : Int32) (s : mb_S), mF_callZero_l33 k2 n x1 x2 x3 s = some (rv, rs) → mb_B p l e R s0 m args below meth c Q vwCl D A (WX X cI cZ cJ) 4 [(0, .ref (X 3)), (1, .int x1), (2, .int x2), (3, .int x3)] [] 33 s := by
  intro n
  induction n with
  | zero => intro x1 x2 x3 s h; cases h
  | succ n ih =>
    intro x1 x2 x3 s h
    rw [mF_callZero_l33_s] at h
    intro ls H locs hl hP hS
    have Cx0 := Cx
    obtain ⟨⟨hx, hb, hml, hown, hts⟩, hK, hD, hA, hZ⟩ := Cx0
    refine lv_iload_n hx hb d_F_callZero_33 rfl (lv_at hl 3 rfl) ?_
    refine lv_bipush (v := (20 : Int32)) hx hb d_F_callZero_34 (by decide) ?_
    refine lv_icmp_ge hx hb d_F_callZero_36 rfl (fun hc => ?_) (fun hc => ?_)
    · have h := mb_t hc h
      exact zF_callZero_b62 Cx hR hret k2 hk2 x1 x2 s h ls H locs (lv_sub hl [0, 1, 2] rfl) hP hS
    · have h := mb_f hc h
      refine lv_aload_n hx hb d_F_callZero_39 rfl (lv_at hl 0 rfl) ?_
      refine lv_iload_n hx hb d_F_callZero_40 rfl (lv_at hl 1 rfl) ?_
      refine lv_iload_n hx hb d_F_callZero_41 rfl (lv_at hl 3 rfl) ?_
      refine lv_aload_n hx hb d_F_callZero_42 rfl (lv_at hl 0 rfl) ?_
      refine va_get (ci := 3) (C := cnF) (T := fTF) (N := 7) hx hb hts uwF hown hK hP 3 rfl rfl 3 (by decide) (hts _ wd_128) (fun _ h9 => h9) rfl d_F_callZero_43 ?_
      refine lv_iload_n hx hb d_F_callZero_46 rfl (lv_at hl 2 rfl) ?_
      refine lv_bipush (v := (20 : Int32)) hx hb d_F_callZero_47 (by decide) ?_
      refine lv_imul hx hb d_F_callZero_49 ?_
      refine lv_iload_n hx hb d_F_callZero_50 rfl (lv_at hl 3 rfl) ?_
      refine lv_iadd hx hb d_F_callZero_51 ?_
      refine mb_iald hx hb hK hP 20 0 rfl rfl h d_F_callZero_52 (fun v2 h => ?_)
      obtain ⟨_u, s3, hs3, h⟩ := mb_cal_ex h
      refine mb_goV Cx (mb_runV (As := [.int x1, .int x3, .int v2]) (rest := []) mb_ZXok Cx (w_F_comeBack l D X cI cZ cJ hs3 H.size) (mb_cwV 3 hts wd_353 wd_355 sel_16 wd_5 wd_356 rfl rfl rfl (by decide +kernel) ⟨Nat.le_trans (by decide) hR.1, Nat.le_trans (by decide) hR.2⟩) hP hS 3 rfl rfl rfl hl.1 rfl (Nat.le_of_ble_eq_true rfl) d_F_callZero_53) hS (fun H locs hP hS => ?_)
      obtain ⟨v4, ev4, h⟩ := mb_ex h
      refine lv_iinc (k := 3) (v := v4) (lv' := [(3, .int v4), (0, .ref (X 3)), (1, .int x1), (2, .int x2)]) hx hb d_F_callZero_56 hl rfl ev4 (by decide) rfl (fun ls hl => ?_)
      refine lv_goto hx hb d_F_callZero_59 rfl ?_
      exact ih x1 x2 v4 s3 h ls H locs (lv_sub hl [1, 2, 3, 0] rfl) hP hS
set_option maxRecDepth 100000 in
set_option maxHeartbeats 4000000 in
theorem zF_callZero_l2 {p : Program} {l : Launch} {e : Env} {R : Room} {s0 : State} {m : MethodId} {args : Array Value} {below : List Frame} {meth : Method} {c : Code} {Q : State → Prop} {A : Nat → Prop} {D : va_G} {X : Nat → Nat} {cI cZ cJ : ClassId} {rv : Unit} {rs : mb_S}
    (Cx : mb_C p s0 m args meth c c_F_callZero 4 lw_w cnF mb_ZX vwCl D [(cI, .int), (cZ, .boolean), (cJ, .long)] A (WX X cI cZ cJ)) (hR : 2 ≤ R.frames ∧ 48 ≤ R.locals)
    (hret : mb_R p l e R s0 m args below meth c Q vwCl D A (WX X cI cZ cJ) c_F_callZero .return_ [] rs)  :
    ∀ (n : Nat) (x1 : Int32) (x2 : Int32) (s : mb_S), mF_callZero_l2  n x1 x2 s = some (rv, rs) → mb_B p l e R s0 m args below meth c Q vwCl D A (WX X cI cZ cJ) 4 [(0, .ref (X 3)), (1, .int x1), (2, .int x2)] [] 2 s := by
  intro n
  induction n with
  | zero => intro x1 x2 s h; cases h
  | succ n ih =>
    intro x1 x2 s h
    rw [mF_callZero_l2_s] at h
    intro ls H locs hl hP hS
    have Cx0 := Cx
    obtain ⟨⟨hx, hb, hml, hown, hts⟩, hK, hD, hA, hZ⟩ := Cx0
    refine lv_iload_n hx hb d_F_callZero_2 rfl (lv_at hl 2 rfl) ?_
    refine lv_bipush (v := (6 : Int32)) hx hb d_F_callZero_3 (by decide) ?_
    refine lv_icmp_ge hx hb d_F_callZero_5 rfl (fun hc => ?_) (fun hc => ?_)
    · have h := mb_t hc h
      exact mb_eV hret h d_F_callZero_68 hP hS
    · have h := mb_f hc h
      refine lv_aload_n hx hb d_F_callZero_8 rfl (lv_at hl 0 rfl) ?_
      refine va_get (ci := 3) (C := cnF) (T := fTF) (N := 7) hx hb hts uwF hown hK hP 3 rfl rfl 1 (by decide) (hts _ wd_126) (fun _ h9 => h9) rfl d_F_callZero_9 ?_
      refine va_get (ci := 2) (C := cnQ) (T := fTQ) (N := 6) hx hb hts uwQ hown hK hP 2 rfl rfl 3 (by decide) (hts _ wd_103) (fun _ h9 => h9) rfl d_F_callZero_12 ?_
      refine lv_iload_n hx hb d_F_callZero_15 rfl (lv_at hl 1 rfl) ?_
      refine mb_iald hx hb hK hP 18 0 rfl rfl h d_F_callZero_16 (fun v5 h => ?_)
      refine lv_iload_n hx hb d_F_callZero_17 rfl (lv_at hl 2 rfl) ?_
      obtain ⟨v6, hv6, h⟩ := mb_cal0_ex h
      refine mb_go0I (st := s) Cx (mb_runSN0 (As := [.int v5, .int x2]) (rest := []) Cx (w_X_has l D hv6 H.size) (mb_cn 2 hts wd_329 wd_284 wd_1 wd_285 rfl rfl rfl (by decide +kernel) ⟨Nat.le_trans (by decide) hR.1, Nat.le_trans (by decide) hR.2⟩) rfl hl.1 rfl (Nat.le_of_ble_eq_true rfl) d_F_callZero_18) hP hS (fun H locs hP hS => ?_)
      refine lv_if_eq hx hb d_F_callZero_21 rfl (fun hc => ?_) (fun hc => ?_)
      · have h := mb_t hc h
        exact zF_callZero_b62 Cx hR hret (mF_callZero_l2  n) ih x1 x2 s h ls H locs (lv_sub hl [0, 1, 2] rfl) hP hS
      · have h := mb_f hc h
        refine lv_aload_n hx hb d_F_callZero_24 rfl (lv_at hl 0 rfl) ?_
        refine lv_iload_n hx hb d_F_callZero_25 rfl (lv_at hl 2 rfl) ?_
        refine lv_iconst (v := (0 : Int32)) hx hb d_F_callZero_26 (by decide) ?_
        obtain ⟨_u, s7, hs7, h⟩ := mb_cal_ex h
        refine mb_goV Cx (mb_runV (As := [.int x2, .int (0 : Int32)]) (rest := []) mb_ZXok Cx (w_F_growZero l D X cI cZ cJ hs7 H.size) (mb_cwV 2 hts wd_334 wd_336 sel_13 wd_5 wd_337 rfl rfl rfl (by decide +kernel) ⟨Nat.le_trans (by decide) hR.1, Nat.le_trans (by decide) hR.2⟩) hP hS 3 rfl rfl rfl hl.1 rfl (Nat.le_of_ble_eq_true rfl) d_F_callZero_27) hS (fun H locs hP hS => ?_)
        refine lv_bipush (v := (16 : Int32)) hx hb d_F_callZero_30 (by decide) ?_
        refine lv_istore_n (lv' := [(3, .int (16 : Int32)), (0, .ref (X 3)), (1, .int x1), (2, .int x2)]) hx hb d_F_callZero_32 rfl hl (by decide) rfl (fun ls hl => ?_)
        exact zF_callZero_l33 Cx hR hret (mF_callZero_l2  n) ih mb_fuel x1 x2 (16 : Int32) s7 h ls H locs (lv_sub hl [1, 2, 3, 0] rfl) hP hS
set_option maxRecDepth 100000 in
set_option maxHeartbeats 4000000 in
theorem w_F_callZero (l : Launch) (D : va_G) (X : Nat → Nat) (cI cZ cJ : ClassId) {x1 : Int32} {s : mb_S} {rv : Unit} {rs : mb_S}
    (h : mF_callZero x1 s = some (rv, rs)) : mb_MV l y_F_callZero ws_F_callZero rm_F_callZero mb_ZX vwCl D [(cI, .int), (cZ, .boolean), (cJ, .long)] (WX X cI cZ cJ) [.ref (X 3), .int x1] s rs := by
  refine mb_ofV mb_ZXok (by decide) rfl (Nat.le_of_ble_eq_true rfl) mb_DXok ?_
  intro p e s0 m args below meth c Q A Cx hret
  have hR : 2 ≤ (rm_F_callZero).frames ∧ 48 ≤ (rm_F_callZero).locals := ⟨Nat.le_refl _, Nat.le_refl _⟩
  intro ls H locs hl hP hS
  have Cx0 := Cx
  obtain ⟨⟨hx, hb, hml, hown, hts⟩, hK, hD, hA, hZ⟩ := Cx0
  have hl : lv_has ls 4 [(0, .ref (X 3)), (1, .int x1)] := hl
  unfold mF_callZero at h
  refine lv_iconst (v := (0 : Int32)) hx hb d_F_callZero_0 (by decide) ?_
  refine lv_istore_n (lv' := [(2, .int (0 : Int32)), (0, .ref (X 3)), (1, .int x1)]) hx hb d_F_callZero_1 rfl hl (by decide) rfl (fun ls hl => ?_)
  exact zF_callZero_l2 Cx hR hret  mb_fuel x1 (0 : Int32) s h ls H locs (lv_sub hl [1, 2, 0] rfl) hP hS
set_option maxRecDepth 100000 in
set_option maxHeartbeats 4000000 in
theorem zF_passZero_b122 {p : Program} {l : Launch} {e : Env} {R : Room} {s0 : State} {m : MethodId} {args : Array Value} {below : List Frame} {meth : Method} {c : Code} {Q : State → Prop} {A : Nat → Prop} {D : va_G} {X : Nat → Nat} {cI cZ cJ : ClassId} {rv : Unit} {rs : mb_S}
    (Cx : mb_C p s0 m args meth c c_F_passZero 5 lw_w cnF mb_ZX vwCl D [(cI, .int), (cZ, .boolean), (cJ, .long)] A (WX X cI cZ cJ)) (hR : 3 ≤ R.frames ∧ 71 ≤ R.locals)
    (hret : mb_R p l e R s0 m args below meth c Q vwCl D A (WX X cI cZ cJ) c_F_passZero .return_ [] rs)   (s : mb_S)
    (h : mF_passZero_b122  s = some (rv, rs)) : mb_B p l e R s0 m args below meth c Q vwCl D A (WX X cI cZ cJ) 5 [] [] 122 s := by
  unfold mF_passZero_b122 at h
  intro ls H locs hl hP hS
  have Cx0 := Cx
  obtain ⟨⟨hx, hb, hml, hown, hts⟩, hK, hD, hA, hZ⟩ := Cx0
  exact mb_eV hret h d_F_passZero_122 hP hS
set_option maxRecDepth 100000 in
set_option maxHeartbeats 4000000 in
theorem zF_passZero_b110 {p : Program} {l : Launch} {e : Env} {R : Room} {s0 : State} {m : MethodId} {args : Array Value} {below : List Frame} {meth : Method} {c : Code} {Q : State → Prop} {A : Nat → Prop} {D : va_G} {X : Nat → Nat} {cI cZ cJ : ClassId} {rv : Unit} {rs : mb_S}
    (Cx : mb_C p s0 m args meth c c_F_passZero 5 lw_w cnF mb_ZX vwCl D [(cI, .int), (cZ, .boolean), (cJ, .long)] A (WX X cI cZ cJ)) (hR : 3 ≤ R.frames ∧ 71 ≤ R.locals)
    (hret : mb_R p l e R s0 m args below meth c Q vwCl D A (WX X cI cZ cJ) c_F_passZero .return_ [] rs)  (x3 : Int32) (x4 : Int32) (s : mb_S)
    (h : mF_passZero_b110  x3 x4 s = some (rv, rs)) : mb_B p l e R s0 m args below meth c Q vwCl D A (WX X cI cZ cJ) 5 [(0, .ref (X 3)), (3, .int x3), (4, .int x4)] [] 110 s := by
  unfold mF_passZero_b110 at h
  intro ls H locs hl hP hS
  have Cx0 := Cx
  obtain ⟨⟨hx, hb, hml, hown, hts⟩, hK, hD, hA, hZ⟩ := Cx0
  refine lv_iload hx hb d_F_passZero_110 (lv_at hl 2 rfl) ?_
  refine lv_bipush (v := (7 : Int32)) hx hb d_F_passZero_112 (by decide) ?_
  refine lv_icmp_ne hx hb d_F_passZero_114 rfl (fun hc => ?_) (fun hc => ?_)
  · have h := mb_f hc h
    exact zF_passZero_b122 Cx hR hret  s h ls H locs (lv_sub hl [] rfl) hP hS
  · have h := mb_t hc h
    refine lv_aload_n hx hb d_F_passZero_117 rfl (lv_at hl 0 rfl) ?_
    refine lv_iload_n hx hb d_F_passZero_118 rfl (lv_at hl 1 rfl) ?_
    obtain ⟨_u, s1, hs1, h⟩ := mb_cal_ex h
    refine mb_goV Cx (mb_runV (As := [.int x3]) (rest := []) mb_ZXok Cx (w_F_callZero l D X cI cZ cJ hs1 H.size) (mb_cwV 1 hts wd_349 wd_351 sel_15 wd_5 wd_352 rfl rfl rfl (by decide +kernel) ⟨Nat.le_trans (by decide) hR.1, Nat.le_trans (by decide) hR.2⟩) hP hS 3 rfl rfl rfl hl.1 rfl (Nat.le_of_ble_eq_true rfl) d_F_passZero_119) hS (fun H locs hP hS => ?_)
    exact zF_passZero_b122 Cx hR hret  s1 h ls H locs (lv_sub hl [] rfl) hP hS
set_option maxRecDepth 100000 in
set_option maxHeartbeats 4000000 in
theorem zF_passZero_b74 {p : Program} {l : Launch} {e : Env} {R : Room} {s0 : State} {m : MethodId} {args : Array Value} {below : List Frame} {meth : Method} {c : Code} {Q : State → Prop} {A : Nat → Prop} {D : va_G} {X : Nat → Nat} {cI cZ cJ : ClassId} {rv : Unit} {rs : mb_S}
    (Cx : mb_C p s0 m args meth c c_F_passZero 5 lw_w cnF mb_ZX vwCl D [(cI, .int), (cZ, .boolean), (cJ, .long)] A (WX X cI cZ cJ)) (hR : 3 ≤ R.frames ∧ 71 ≤ R.locals)
    (hret : mb_R p l e R s0 m args below meth c Q vwCl D A (WX X cI cZ cJ) c_F_passZero .return_ [] rs)  (x3 : Int32) (x4 : Int32) (s : mb_S)
    (h : mF_passZero_b74  x3 x4 s = some (rv, rs)) : mb_B p l e R s0 m args below meth c Q vwCl D A (WX X cI cZ cJ) 5 [(0, .ref (X 3)), (3, .int x3), (4, .int x4)] [] 74 s := by
  unfold mF_passZero_b74 at h
  intro ls H locs hl hP hS
  have Cx0 := Cx
  obtain ⟨⟨hx, hb, hml, hown, hts⟩, hK, hD, hA, hZ⟩ := Cx0
  refine lv_iload hx hb d_F_passZero_74 (lv_at hl 2 rfl) ?_
  refine lv_iconst (v := (1 : Int32)) hx hb d_F_passZero_76 (by decide) ?_
  refine lv_icmp_ne hx hb d_F_passZero_77 rfl (fun hc => ?_) (fun hc => ?_)
  · have h := mb_f hc h
    exact zF_passZero_b110 Cx hR hret  x3 x4 s h ls H locs (lv_sub hl [0, 1, 2] rfl) hP hS
  · have h := mb_t hc h
    refine lv_aload_n hx hb d_F_passZero_80 rfl (lv_at hl 0 rfl) ?_
    refine lv_iload_n hx hb d_F_passZero_81 rfl (lv_at hl 1 rfl) ?_
    refine lv_iconst (v := (1 : Int32)) hx hb d_F_passZero_82 (by decide) ?_
    refine lv_iadd hx hb d_F_passZero_83 ?_
    refine lv_bipush (v := (16 : Int32)) hx hb d_F_passZero_84 (by decide) ?_
    refine lv_aload_n hx hb d_F_passZero_86 rfl (lv_at hl 0 rfl) ?_
    refine va_get (ci := 3) (C := cnF) (T := fTF) (N := 7) hx hb hts uwF hown hK hP 3 rfl rfl 0 (by decide) (hts _ wd_125) (fun _ h9 => h9) rfl d_F_passZero_87 ?_
    refine va_get (ci := 1) (C := cnP) (T := fTP) (N := 12) hx hb hts uwP hown hK hP 1 rfl rfl 4 (by decide) (hts _ wd_46) (fun _ h9 => h9) rfl d_F_passZero_90 ?_
    refine lv_iload_n hx hb d_F_passZero_93 rfl (lv_at hl 1 rfl) ?_
    refine mb_iald hx hb hK hP 9 0 rfl rfl h d_F_passZero_94 (fun v2 h => ?_)
    refine lv_iadd hx hb d_F_passZero_95 ?_
    refine lv_iconst (v := (1 : Int32)) hx hb d_F_passZero_96 (by decide) ?_
    refine lv_aload_n hx hb d_F_passZero_97 rfl (lv_at hl 0 rfl) ?_
    refine va_get (ci := 3) (C := cnF) (T := fTF) (N := 7) hx hb hts uwF hown hK hP 3 rfl rfl 0 (by decide) (hts _ wd_125) (fun _ h9 => h9) rfl d_F_passZero_98 ?_
    refine va_get (ci := 1) (C := cnP) (T := fTP) (N := 12) hx hb hts uwP hown hK hP 1 rfl rfl 1 (by decide) (hts _ wd_33) (fun _ h9 => h9) rfl d_F_passZero_101 ?_
    refine lv_iload_n hx hb d_F_passZero_104 rfl (lv_at hl 1 rfl) ?_
    refine mb_iald hx hb hK hP 6 0 rfl rfl h d_F_passZero_105 (fun v3 h => ?_)
    refine lv_ishl hx hb d_F_passZero_106 ?_
    obtain ⟨_u, s4, hs4, h⟩ := mb_cal_ex h
    refine mb_goV Cx (mb_runV (As := [.int (x3 + (1 : Int32)), .int ((16 : Int32) + v2), .int ((1 : Int32) <<< (v3 &&& 31))]) (rest := []) mb_ZXok Cx (w_F_growHeld l D X cI cZ cJ hs4 H.size) (mb_cwV 3 hts wd_345 wd_347 sel_14 wd_5 wd_348 rfl rfl rfl (by decide +kernel) ⟨Nat.le_trans (by decide) hR.1, Nat.le_trans (by decide) hR.2⟩) hP hS 3 rfl rfl rfl hl.1 rfl (Nat.le_of_ble_eq_true rfl) d_F_passZero_107) hS (fun H locs hP hS => ?_)
    exact zF_passZero_b110 Cx hR hret  x3 x4 s4 h ls H locs (lv_sub hl [0, 1, 2] rfl) hP hS
set_option maxRecDepth 100000 in
set_option maxHeartbeats 4000000 in
theorem zF_passZero_b55 {p : Program} {l : Launch} {e : Env} {R : Room} {s0 : State} {m : MethodId} {args : Array Value} {below : List Frame} {meth : Method} {c : Code} {Q : State → Prop} {A : Nat → Prop} {D : va_G} {X : Nat → Nat} {cI cZ cJ : ClassId} {rv : Unit} {rs : mb_S}
    (Cx : mb_C p s0 m args meth c c_F_passZero 5 lw_w cnF mb_ZX vwCl D [(cI, .int), (cZ, .boolean), (cJ, .long)] A (WX X cI cZ cJ)) (hR : 3 ≤ R.frames ∧ 71 ≤ R.locals)
    (hret : mb_R p l e R s0 m args below meth c Q vwCl D A (WX X cI cZ cJ) c_F_passZero .return_ [] rs)  (x1 : Int32) (x3 : Int32) (x4 : Int32) (s : mb_S)
    (h : mF_passZero_b55  x1 x3 x4 s = some (rv, rs)) : mb_B p l e R s0 m args below meth c Q vwCl D A (WX X cI cZ cJ) 5 [(0, .ref (X 3)), (1, .int x1), (3, .int x3), (4, .int x4)] [] 55 s := by
  unfold mF_passZero_b55 at h
  intro ls H locs hl hP hS
  have Cx0 := Cx
  obtain ⟨⟨hx, hb, hml, hown, hts⟩, hK, hD, hA, hZ⟩ := Cx0
  refine lv_aload_n hx hb d_F_passZero_55 rfl (lv_at hl 0 rfl) ?_
  refine lv_iload_n hx hb d_F_passZero_56 rfl (lv_at hl 1 rfl) ?_
  refine lv_aload_n hx hb d_F_passZero_57 rfl (lv_at hl 0 rfl) ?_
  refine va_get (ci := 3) (C := cnF) (T := fTF) (N := 7) hx hb hts uwF hown hK hP 3 rfl rfl 0 (by decide) (hts _ wd_125) (fun _ h9 => h9) rfl d_F_passZero_58 ?_
  refine lv_iload_n hx hb d_F_passZero_61 rfl (lv_at hl 1 rfl) ?_
  refine lv_iload_n hx hb d_F_passZero_62 rfl (lv_at hl 2 rfl) ?_
  obtain ⟨v5, s6, hs6, h⟩ := mb_cal_ex h
  refine mb_goI Cx (mb_runV (As := [.int x1, .int x3]) (rest := [.int x1, .ref (X 3)]) mb_ZXok Cx (w_P_jumpSpot l D X cI cZ cJ hs6 H.size) (mb_cwV 2 hts wd_338 wd_339 wd_340 wd_2 wd_341 rfl rfl rfl (by decide +kernel) ⟨Nat.le_trans (by decide) hR.1, Nat.le_trans (by decide) hR.2⟩) hP hS 1 rfl rfl rfl hl.1 rfl (Nat.le_of_ble_eq_true rfl) d_F_passZero_63) hS (fun H locs hP hS => ?_)
  refine lv_iload_n hx hb d_F_passZero_66 rfl (lv_at hl 1 rfl) ?_
  refine lv_bipush (v := (13 : Int32)) hx hb d_F_passZero_67 (by decide) ?_
  refine lv_imul hx hb d_F_passZero_69 ?_
  refine lv_isub hx hb d_F_passZero_70 ?_
  obtain ⟨_u, s7, hs7, h⟩ := mb_cal_ex h
  refine mb_goV Cx (mb_runV (As := [.int x1, .int (v5 - (x1 * (13 : Int32)))]) (rest := []) mb_ZXok Cx (w_F_growZero l D X cI cZ cJ hs7 H.size) (mb_cwV 2 hts wd_334 wd_336 sel_13 wd_5 wd_337 rfl rfl rfl (by decide +kernel) ⟨Nat.le_trans (by decide) hR.1, Nat.le_trans (by decide) hR.2⟩) hP hS 3 rfl rfl rfl hl.1 rfl (Nat.le_of_ble_eq_true rfl) d_F_passZero_71) hS (fun H locs hP hS => ?_)
  exact zF_passZero_b74 Cx hR hret  x3 x4 s7 h ls H locs (lv_sub hl [0, 2, 3] rfl) hP hS
set_option maxRecDepth 100000 in
set_option maxHeartbeats 4000000 in
theorem zF_passZero_b41 {p : Program} {l : Launch} {e : Env} {R : Room} {s0 : State} {m : MethodId} {args : Array Value} {below : List Frame} {meth : Method} {c : Code} {Q : State → Prop} {A : Nat → Prop} {D : va_G} {X : Nat → Nat} {cI cZ cJ : ClassId} {rv : Unit} {rs : mb_S}
    (Cx : mb_C p s0 m args meth c c_F_passZero 5 lw_w cnF mb_ZX vwCl D [(cI, .int), (cZ, .boolean), (cJ, .long)] A (WX X cI cZ cJ)) (hR : 3 ≤ R.frames ∧ 71 ≤ R.locals)
    (hret : mb_R p l e R s0 m args below meth c Q vwCl D A (WX X cI cZ cJ) c_F_passZero .return_ [] rs)  (x1 : Int32) (x3 : Int32) (x4 : Int32) (s : mb_S)
    (h : mF_passZero_b41  x1 x3 x4 s = some (rv, rs)) : mb_B p l e R s0 m args below meth c Q vwCl D A (WX X cI cZ cJ) 5 [(0, .ref (X 3)), (1, .int x1), (3, .int x3), (4, .int x4)] [] 41 s := by
  unfold mF_passZero_b41 at h
  intro ls H locs hl hP hS
  have Cx0 := Cx
  obtain ⟨⟨hx, hb, hml, hown, hts⟩, hK, hD, hA, hZ⟩ := Cx0
  refine lv_iload hx hb d_F_passZero_41 (lv_at hl 3 rfl) ?_
  refine lv_bipush (v := (9 : Int32)) hx hb d_F_passZero_43 (by decide) ?_
  refine lv_icmp_eq hx hb d_F_passZero_45 rfl (fun hc => ?_) (fun hc => ?_)
  · have h := mb_t hc h
    exact zF_passZero_b55 Cx hR hret  x1 x3 x4 s h ls H locs (lv_sub hl [0, 1, 2, 3] rfl) hP hS
  · have h := mb_f hc h
    refine lv_iload hx hb d_F_passZero_48 (lv_at hl 3 rfl) ?_
    refine lv_bipush (v := (8 : Int32)) hx hb d_F_passZero_50 (by decide) ?_
    refine lv_icmp_ne hx hb d_F_passZero_52 rfl (fun hc => ?_) (fun hc => ?_)
    · have h := mb_f hc h
      exact zF_passZero_b74 Cx hR hret  x3 x4 s h ls H locs (lv_sub hl [0, 2, 3] rfl) hP hS
    · have h := mb_t hc h
      exact zF_passZero_b55 Cx hR hret  x1 x3 x4 s h ls H locs (lv_sub hl [0, 1, 2, 3] rfl) hP hS
set_option maxRecDepth 100000 in
set_option maxHeartbeats 4000000 in
theorem w_F_passZero (l : Launch) (D : va_G) (X : Nat → Nat) (cI cZ cJ : ClassId) {x1 : Int32} {x2 : Int32} {s : mb_S} {rv : Unit} {rs : mb_S}
    (h : mF_passZero x1 x2 s = some (rv, rs)) : mb_MV l y_F_passZero ws_F_passZero rm_F_passZero mb_ZX vwCl D [(cI, .int), (cZ, .boolean), (cJ, .long)] (WX X cI cZ cJ) [.ref (X 3), .int x1, .int x2] s rs := by
  refine mb_ofV mb_ZXok (by decide) rfl (Nat.le_of_ble_eq_true rfl) mb_DXok ?_
  intro p e s0 m args below meth c Q A Cx hret
  have hR : 3 ≤ (rm_F_passZero).frames ∧ 71 ≤ (rm_F_passZero).locals := ⟨Nat.le_refl _, Nat.le_refl _⟩
  intro ls H locs hl hP hS
  have Cx0 := Cx
  obtain ⟨⟨hx, hb, hml, hown, hts⟩, hK, hD, hA, hZ⟩ := Cx0
  have hl : lv_has ls 5 [(0, .ref (X 3)), (1, .int x1), (2, .int x2)] := hl
  unfold mF_passZero at h
  refine lv_iload_n hx hb d_F_passZero_0 rfl (lv_at hl 1 rfl) ?_
  refine lv_bipush (v := (13 : Int32)) hx hb d_F_passZero_1 (by decide) ?_
  refine lv_imul hx hb d_F_passZero_3 ?_
  refine lv_iload_n hx hb d_F_passZero_4 rfl (lv_at hl 2 rfl) ?_
  refine lv_iadd hx hb d_F_passZero_5 ?_
  refine lv_topi (fun v8 ev8 => ?_)
  have h := mb_at ev8 h
  refine lv_istore_n (lv' := [(3, .int v8), (0, .ref (X 3)), (1, .int x1), (2, .int x2)]) hx hb d_F_passZero_6 rfl hl (by decide) rfl (fun ls hl => ?_)
  refine lv_aload_n hx hb d_F_passZero_7 rfl (lv_at hl 1 rfl) ?_
  refine va_get (ci := 3) (C := cnF) (T := fTF) (N := 7) hx hb hts uwF hown hK hP 3 rfl rfl 0 (by decide) (hts _ wd_125) (fun _ h9 => h9) rfl d_F_passZero_8 ?_
  refine va_get (ci := 1) (C := cnP) (T := fTP) (N := 12) hx hb hts uwP hown hK hP 1 rfl rfl 0 (by decide) (hts _ wd_29) (fun _ h9 => h9) rfl d_F_passZero_11 ?_
  refine lv_iload_n hx hb d_F_passZero_14 rfl (lv_at hl 0 rfl) ?_
  refine mb_iald hx hb hK hP 5 0 rfl rfl h d_F_passZero_15 (fun v9 h => ?_)
  refine lv_istore (lv' := [(4, .int v9), (3, .int v8), (0, .ref (X 3)), (1, .int x1), (2, .int x2)]) hx hb d_F_passZero_16 hl (by decide) rfl (fun ls hl => ?_)
  refine lv_iload hx hb d_F_passZero_18 (lv_at hl 0 rfl) ?_
  refine lv_bipush (v := (10 : Int32)) hx hb d_F_passZero_20 (by decide) ?_
  refine lv_icmp_ne hx hb d_F_passZero_22 rfl (fun hc => ?_) (fun hc => ?_)
  · have h := mb_f hc h
    refine lv_iload hx hb d_F_passZero_26 (lv_at hl 0 rfl) ?_
    refine lv_bipush (v := (9 : Int32)) hx hb d_F_passZero_28 (by decide) ?_
    refine lv_icmp_eq hx hb d_F_passZero_30 rfl (fun hc => ?_) (fun hc => ?_)
    · have h := mb_t hc h
      exact zF_passZero_b41 Cx hR hret  x1 v8 v9 s h ls H locs (lv_sub hl [2, 3, 1, 0] rfl) hP hS
    · have h := mb_f hc h
      refine lv_aload_n hx hb d_F_passZero_33 rfl (lv_at hl 2 rfl) ?_
      refine lv_iload_n hx hb d_F_passZero_34 rfl (lv_at hl 3 rfl) ?_
      refine lv_iload_n hx hb d_F_passZero_35 rfl (lv_at hl 4 rfl) ?_
      refine lv_iconst (v := (1 : Int32)) hx hb d_F_passZero_36 (by decide) ?_
      refine lv_iadd hx hb d_F_passZero_37 ?_
      obtain ⟨_u, s10, hs10, h⟩ := mb_cal_ex h
      refine mb_goV Cx (mb_runV (As := [.int x1, .int (x2 + (1 : Int32))]) (rest := []) mb_ZXok Cx (w_F_growZero l D X cI cZ cJ hs10 H.size) (mb_cwV 2 hts wd_334 wd_336 sel_13 wd_5 wd_337 rfl rfl rfl (by decide +kernel) ⟨Nat.le_trans (by decide) hR.1, Nat.le_trans (by decide) hR.2⟩) hP hS 3 rfl rfl rfl hl.1 rfl (Nat.le_of_ble_eq_true rfl) d_F_passZero_38) hS (fun H locs hP hS => ?_)
      exact zF_passZero_b41 Cx hR hret  x1 v8 v9 s10 h ls H locs (lv_sub hl [2, 3, 1, 0] rfl) hP hS
  · have h := mb_t hc h
    exact mb_eV hret h d_F_passZero_25 hP hS
set_option maxRecDepth 100000 in
set_option maxHeartbeats 4000000 in
theorem zF_enter_b80 {p : Program} {l : Launch} {e : Env} {R : Room} {s0 : State} {m : MethodId} {args : Array Value} {below : List Frame} {meth : Method} {c : Code} {Q : State → Prop} {A : Nat → Prop} {D : va_G} {X : Nat → Nat} {cI cZ cJ : ClassId} {rv : Unit} {rs : mb_S}
    (Cx : mb_C p s0 m args meth c c_F_enter 6 lw_w cnF mb_ZX vwCl D [(cI, .int), (cZ, .boolean), (cJ, .long)] A (WX X cI cZ cJ)) (hR : 1 ≤ R.frames ∧ 21 ≤ R.locals)
    (hret : mb_R p l e R s0 m args below meth c Q vwCl D A (WX X cI cZ cJ) c_F_enter .return_ [] rs) (k3 : Int32 → Int32 → Int32 → Int32 → mb_S → Option (Unit × mb_S)) (hk3 : ∀ (x1 : Int32) (x2 : Int32) (x3 : Int32) (x4 : Int32) (s : mb_S), k3 x1 x2 x3 x4 s = some (rv, rs) → mb_B p l e R s0 m args below meth c Q vwCl D A (WX X cI cZ cJ) 6 [(0, .ref (X 3)), (1, .int x1), (2, .int x2), (3, .int x3), (4, .int x4)] [] 3 s) (x1 : Int32) (x2 : Int32) (x3 : Int32) (x4 : Int32) (s : mb_S)
    (h : mF_enter_b80 k3 x1 x2 x3 x4 s = some (rv, rs)) : mb_B p l e R s0 m args below meth c Q vwCl D A (WX X cI cZ cJ) 6 [(0, .ref (X 3)), (1, .int x1), (2, .int x2), (3, .int x3), (4, .int x4)] [] 80 s := by
  unfold mF_enter_b80 at h
  intro ls H locs hl hP hS
  have Cx0 := Cx
  obtain ⟨⟨hx, hb, hml, hown, hts⟩, hK, hD, hA, hZ⟩ := Cx0
  obtain ⟨v1, ev1, h⟩ := mb_ex h
  refine lv_iinc (k := 4) (v := v1) (lv' := [(4, .int v1), (0, .ref (X 3)), (1, .int x1), (2, .int x2), (3, .int x3)]) hx hb d_F_enter_80 hl rfl ev1 (by decide) rfl (fun ls hl => ?_)
  refine lv_goto hx hb d_F_enter_83 rfl ?_
  exact hk3 x1 x2 x3 v1 s h ls H locs (lv_sub hl [1, 2, 3, 4, 0] rfl) hP hS
set_option maxRecDepth 100000 in
set_option maxHeartbeats 4000000 in
theorem zF_enter_l3 {p : Program} {l : Launch} {e : Env} {R : Room} {s0 : State} {m : MethodId} {args : Array Value} {below : List Frame} {meth : Method} {c : Code} {Q : State → Prop} {A : Nat → Prop} {D : va_G} {X : Nat → Nat} {cI cZ cJ : ClassId} {rv : Unit} {rs : mb_S}
    (Cx : mb_C p s0 m args meth c c_F_enter 6 lw_w cnF mb_ZX vwCl D [(cI, .int), (cZ, .boolean), (cJ, .long)] A (WX X cI cZ cJ)) (hR : 1 ≤ R.frames ∧ 21 ≤ R.locals)
    (hret : mb_R p l e R s0 m args below meth c Q vwCl D A (WX X cI cZ cJ) c_F_enter .return_ [] rs)  :
    ∀ (n : Nat) (x1 : Int32) (x2 : Int32) (x3 : Int32) (x4 : Int32) (s : mb_S), mF_enter_l3  n x1 x2 x3 x4 s = some (rv, rs) → mb_B p l e R s0 m args below meth c Q vwCl D A (WX X cI cZ cJ) 6 [(0, .ref (X 3)), (1, .int x1), (2, .int x2), (3, .int x3), (4, .int x4)] [] 3 s := by
  intro n
  induction n with
  | zero => intro x1 x2 x3 x4 s h; cases h
  | succ n ih =>
    intro x1 x2 x3 x4 s h
    rw [mF_enter_l3_s] at h
    intro ls H locs hl hP hS
    have Cx0 := Cx
    obtain ⟨⟨hx, hb, hml, hown, hts⟩, hK, hD, hA, hZ⟩ := Cx0
    refine lv_iload hx hb d_F_enter_3 (lv_at hl 4 rfl) ?_
    refine lv_bipush (v := (16 : Int32)) hx hb d_F_enter_5 (by decide) ?_
    refine lv_icmp_ge hx hb d_F_enter_7 rfl (fun hc => ?_) (fun hc => ?_)
    · have h := mb_t hc h
      exact mb_eV hret h d_F_enter_86 hP hS
    · have h := mb_f hc h
      refine lv_iload_n hx hb d_F_enter_10 rfl (lv_at hl 1 rfl) ?_
      refine lv_bipush (v := (20 : Int32)) hx hb d_F_enter_11 (by decide) ?_
      refine lv_imul hx hb d_F_enter_13 ?_
      refine lv_iload hx hb d_F_enter_14 (lv_at hl 4 rfl) ?_
      refine lv_iadd hx hb d_F_enter_16 ?_
      refine lv_topi (fun v2 ev2 => ?_)
      have h := mb_at ev2 h
      refine lv_istore (lv' := [(5, .int v2), (0, .ref (X 3)), (1, .int x1), (2, .int x2), (3, .int x3), (4, .int x4)]) hx hb d_F_enter_17 hl (by decide) rfl (fun ls hl => ?_)
      refine lv_iload_n hx hb d_F_enter_19 rfl (lv_at hl 3 rfl) ?_
      refine lv_iload hx hb d_F_enter_20 (lv_at hl 5 rfl) ?_
      obtain ⟨v3, hv3, h⟩ := mb_cal0_ex h
      refine mb_go0I (st := s) Cx (mb_runSN0 (As := [.int x2, .int x4]) (rest := []) Cx (w_X_has l D hv3 H.size) (mb_cn 2 hts wd_329 wd_284 wd_1 wd_285 rfl rfl rfl (by decide +kernel) ⟨Nat.le_trans (by decide) hR.1, Nat.le_trans (by decide) hR.2⟩) rfl hl.1 rfl (Nat.le_of_ble_eq_true rfl) d_F_enter_22) hP hS (fun H locs hP hS => ?_)
      refine lv_if_eq hx hb d_F_enter_25 rfl (fun hc => ?_) (fun hc => ?_)
      · have h := mb_t hc h
        exact zF_enter_b80 Cx hR hret (mF_enter_l3  n) ih x1 x2 x3 x4 s h ls H locs (lv_sub hl [1, 2, 3, 4, 5] rfl) hP hS
      · have h := mb_f hc h
        refine lv_iload_n hx hb d_F_enter_28 rfl (lv_at hl 4 rfl) ?_
        refine lv_aload_n hx hb d_F_enter_29 rfl (lv_at hl 1 rfl) ?_
        refine va_get (ci := 3) (C := cnF) (T := fTF) (N := 7) hx hb hts uwF hown hK hP 3 rfl rfl 4 (by decide) (hts _ wd_129) (fun _ h9 => h9) rfl d_F_enter_30 ?_
        refine lv_iload hx hb d_F_enter_33 (lv_at hl 0 rfl) ?_
        refine mb_iald hx hb hK hP 21 0 rfl rfl h d_F_enter_35 (fun v4 h => ?_)
        refine lv_iconst (v := (-1 : Int32)) hx hb d_F_enter_36 (by decide) ?_
        refine lv_ixor hx hb d_F_enter_37 ?_
        refine lv_iand hx hb d_F_enter_38 ?_
        refine lv_if_eq hx hb d_F_enter_39 rfl (fun hc => ?_) (fun hc => ?_)
        · have h := mb_t hc h
          exact zF_enter_b80 Cx hR hret (mF_enter_l3  n) ih x1 x2 x3 x4 s h ls H locs (lv_sub hl [1, 2, 3, 4, 5] rfl) hP hS
        · have h := mb_f hc h
          refine lv_aload_n hx hb d_F_enter_42 rfl (lv_at hl 1 rfl) ?_
          refine va_get (ci := 3) (C := cnF) (T := fTF) (N := 7) hx hb hts uwF hown hK hP 3 rfl rfl 4 (by decide) (hts _ wd_129) (fun _ h9 => h9) rfl d_F_enter_43 ?_
          refine lv_iload hx hb d_F_enter_46 (lv_at hl 0 rfl) ?_
          refine lv_dup2_11 hx hb d_F_enter_48 rfl rfl ?_
          refine mb_iald hx hb hK hP 21 0 rfl rfl h d_F_enter_49 (fun v5 h => ?_)
          refine lv_iload_n hx hb d_F_enter_50 rfl (lv_at hl 4 rfl) ?_
          refine lv_ior hx hb d_F_enter_51 ?_
          refine mb_iast (WS := WX X cI cZ cJ) hx hb hK hP hD hS 21 0 rfl rfl h d_F_enter_52 rfl (fun H locs s6 hP hS h => ?_)
          refine lv_aload_n hx hb d_F_enter_53 rfl (lv_at hl 1 rfl) ?_
          refine va_get (ci := 3) (C := cnF) (T := fTF) (N := 7) hx hb hts uwF hown hK hP 3 rfl rfl 2 (by decide) (hts _ wd_127) (fun _ h9 => h9) rfl d_F_enter_54 ?_
          refine lv_iload_n hx hb d_F_enter_57 rfl (lv_at hl 2 rfl) ?_
          refine lv_bipush (v := (13 : Int32)) hx hb d_F_enter_58 (by decide) ?_
          refine lv_imul hx hb d_F_enter_60 ?_
          refine lv_bipush (v := (20 : Int32)) hx hb d_F_enter_61 (by decide) ?_
          refine lv_imul hx hb d_F_enter_63 ?_
          refine lv_iload hx hb d_F_enter_64 (lv_at hl 5 rfl) ?_
          refine lv_iadd hx hb d_F_enter_66 ?_
          refine lv_dup2_11 hx hb d_F_enter_67 rfl rfl ?_
          refine mb_iald hx hb hK hP 19 0 rfl rfl h d_F_enter_68 (fun v7 h => ?_)
          refine lv_iconst (v := (1 : Int32)) hx hb d_F_enter_69 (by decide) ?_
          refine lv_iload hx hb d_F_enter_70 (lv_at hl 5 rfl) ?_
          refine lv_ishl hx hb d_F_enter_72 ?_
          refine lv_ior hx hb d_F_enter_73 ?_
          refine mb_iast (WS := WX X cI cZ cJ) hx hb hK hP hD hS 19 0 rfl rfl h d_F_enter_74 rfl (fun H locs s8 hP hS h => ?_)
          refine lv_aload_n hx hb d_F_enter_75 rfl (lv_at hl 1 rfl) ?_
          refine lv_iconst (v := (1 : Int32)) hx hb d_F_enter_76 (by decide) ?_
          obtain ⟨hzs9, h⟩ := mb_putZ_ex h
          refine va_put (ci := 3) (v := .int (1 : Int32)) (ty := .boolean) (C := cnF) (T := fTF) (N := 7) hx hb hts uwF fyF fyF_ok fnF hown hK hP (hD _) hS 3 rfl rfl 6 (by decide) (hts _ wd_131) (fun _ h9 => h9) rfl (by decide +kernel) (mb_narZ hzs9) (mb_fitZ hzs9) (Nat.le_of_ble_eq_true rfl) d_F_enter_77 (fun H locs hP _ hS => ?_)
          have hP : va_P D vwCl (WX X cI cZ cJ (mb_setF s8 4 (1 : Int32))) H := hP
          generalize mb_setF s8 4 (1 : Int32) = s9 at hP h
          exact zF_enter_b80 Cx hR hret (mF_enter_l3  n) ih x1 x2 x3 x4 s9 h ls H locs (lv_sub hl [1, 2, 3, 4, 5] rfl) hP hS
set_option maxRecDepth 100000 in
set_option maxHeartbeats 4000000 in
theorem w_F_enter (l : Launch) (D : va_G) (X : Nat → Nat) (cI cZ cJ : ClassId) {x1 : Int32} {x2 : Int32} {x3 : Int32} {s : mb_S} {rv : Unit} {rs : mb_S}
    (h : mF_enter x1 x2 x3 s = some (rv, rs)) : mb_MV l y_F_enter ws_F_enter rm_F_enter mb_ZX vwCl D [(cI, .int), (cZ, .boolean), (cJ, .long)] (WX X cI cZ cJ) [.ref (X 3), .int x1, .int x2, .int x3] s rs := by
  refine mb_ofV mb_ZXok (by decide) rfl (Nat.le_of_ble_eq_true rfl) mb_DXok ?_
  intro p e s0 m args below meth c Q A Cx hret
  have hR : 1 ≤ (rm_F_enter).frames ∧ 21 ≤ (rm_F_enter).locals := ⟨Nat.le_refl _, Nat.le_refl _⟩
  intro ls H locs hl hP hS
  have Cx0 := Cx
  obtain ⟨⟨hx, hb, hml, hown, hts⟩, hK, hD, hA, hZ⟩ := Cx0
  have hl : lv_has ls 6 [(0, .ref (X 3)), (1, .int x1), (2, .int x2), (3, .int x3)] := hl
  unfold mF_enter at h
  refine lv_iconst (v := (0 : Int32)) hx hb d_F_enter_0 (by decide) ?_
  refine lv_istore (lv' := [(4, .int (0 : Int32)), (0, .ref (X 3)), (1, .int x1), (2, .int x2), (3, .int x3)]) hx hb d_F_enter_1 hl (by decide) rfl (fun ls hl => ?_)
  exact zF_enter_l3 Cx hR hret  mb_fuel x1 x2 x3 (0 : Int32) s h ls H locs (lv_sub hl [1, 2, 3, 4, 0] rfl) hP hS
