set_option maxRecDepth 100000 in
set_option maxHeartbeats 4000000 in
theorem zX_target_b16 {p : Program} {l : Launch} {e : Env} {R : Room} {s0 : State} {m : MethodId} {args : Array Value} {below : List Frame} {meth : Method} {c : Code} {Q : State → Prop} {A : Nat → Prop} {D : va_G} {X : Nat → Nat} {cI cZ cJ : ClassId} {rv : Int32} {rs : mb_S}
    (Cx : mb_C p s0 m args meth c c_X_target 3 lw_w cnX mb_ZX vwCl D [(cI, .int), (cZ, .boolean), (cJ, .long)] A (WX X cI cZ cJ)) (hR : 1 ≤ R.frames ∧ 25 ≤ R.locals)
    (hret : mb_R p l e R s0 m args below meth c Q vwCl D A (WX X cI cZ cJ) c_X_target .ireturn [.int rv] rs)   (s : mb_S)
    (h : mX_target_b16  s = some (rv, rs)) : mb_B p l e R s0 m args below meth c Q vwCl D A (WX X cI cZ cJ) 3 [] [] 16 s := by
  unfold mX_target_b16 at h
  intro ls H locs hl hP hS
  have Cx0 := Cx
  obtain ⟨⟨hx, hb, hml, hown, hts⟩, hK, hD, hA, hZ⟩ := Cx0
  refine lv_iconst (v := (-1 : Int32)) hx hb d_X_target_16 (by decide) ?_
  exact mb_eI hret h d_X_target_17 hP hS
set_option maxRecDepth 100000 in
set_option maxHeartbeats 4000000 in
theorem w_X_target (l : Launch) (D : va_G) (X : Nat → Nat) (cI cZ cJ : ClassId) {x1 : Int32} {x2 : Int32} {s : mb_S} {rv : Int32} {rs : mb_S}
    (h : mX_target x1 x2 s = some (rv, rs)) : mb_MI l y_X_target ws_X_target rm_X_target mb_ZX vwCl D [(cI, .int), (cZ, .boolean), (cJ, .long)] (WX X cI cZ cJ) [.ref (X 0), .int x1, .int x2] s rv rs := by
  refine mb_ofI mb_ZXok (by decide) rfl (Nat.le_of_ble_eq_true rfl) mb_DXok ?_
  intro p e s0 m args below meth c Q A Cx hret
  have hR : 1 ≤ (rm_X_target).frames ∧ 25 ≤ (rm_X_target).locals := ⟨Nat.le_refl _, Nat.le_refl _⟩
  intro ls H locs hl hP hS
  have Cx0 := Cx
  obtain ⟨⟨hx, hb, hml, hown, hts⟩, hK, hD, hA, hZ⟩ := Cx0
  have hl : lv_has ls 3 [(0, .ref (X 0)), (1, .int x1), (2, .int x2)] := hl
  unfold mX_target at h
  refine lv_iload_n hx hb d_X_target_0 rfl (lv_at hl 1 rfl) ?_
  refine lv_iconst (v := (4 : Int32)) hx hb d_X_target_1 (by decide) ?_
  obtain ⟨v1, hv1, h⟩ := mb_cal0_ex h
  refine mb_go0I (st := s) Cx (mb_runS0 (As := [.int x1, .int (4 : Int32)]) (rest := []) Cx (w_X_isBelow l D hv1 H.size) (mb_cwS 2 hts wd_228 wd_221 wd_1 wd_222 rfl rfl rfl (by decide +kernel) ⟨Nat.le_trans (by decide) hR.1, Nat.le_trans (by decide) hR.2⟩) rfl hl.1 rfl (Nat.le_of_ble_eq_true rfl) d_X_target_2) hP hS (fun H locs hP hS => ?_)
  refine lv_if_eq hx hb d_X_target_5 rfl (fun hc => ?_) (fun hc => ?_)
  · have h := mb_t hc h
    exact zX_target_b16 Cx hR hret  s h ls H locs (lv_sub hl [] rfl) hP hS
  · have h := mb_f hc h
    refine lv_iload_n hx hb d_X_target_8 rfl (lv_at hl 2 rfl) ?_
    refine lv_iconst (v := (3 : Int32)) hx hb d_X_target_9 (by decide) ?_
    obtain ⟨v2, hv2, h⟩ := mb_cal0_ex h
    refine mb_go0I (st := s) Cx (mb_runS0 (As := [.int x2, .int (3 : Int32)]) (rest := []) Cx (w_X_isBelow l D hv2 H.size) (mb_cwS 2 hts wd_228 wd_221 wd_1 wd_222 rfl rfl rfl (by decide +kernel) ⟨Nat.le_trans (by decide) hR.1, Nat.le_trans (by decide) hR.2⟩) rfl hl.1 rfl (Nat.le_of_ble_eq_true rfl) d_X_target_10) hP hS (fun H locs hP hS => ?_)
    refine lv_if_ne hx hb d_X_target_13 rfl (fun hc => ?_) (fun hc => ?_)
    · have h := mb_f hc h
      refine lv_aload_n hx hb d_X_target_18 rfl (lv_at hl 0 rfl) ?_
      refine va_get (ci := 0) (C := cnX) (T := fTX) (N := 5) hx hb hts uwX hown hK hP 0 rfl rfl 0 (by decide) (hts _ wd_196) (fun _ h9 => h9) rfl d_X_target_19 ?_
      refine lv_iload_n hx hb d_X_target_22 rfl (lv_at hl 1 rfl) ?_
      refine lv_iload_n hx hb d_X_target_23 rfl (lv_at hl 2 rfl) ?_
      obtain ⟨v3, s4, hs4, h⟩ := mb_cal_ex h
      refine mb_goI Cx (mb_runV (As := [.int x1, .int x2]) (rest := []) mb_ZXok Cx (w_P_targetOf l D X cI cZ cJ hs4 H.size) (mb_cwV 2 hts wd_261 wd_262 wd_263 wd_2 wd_264 rfl rfl rfl (by decide +kernel) ⟨Nat.le_trans (by decide) hR.1, Nat.le_trans (by decide) hR.2⟩) hP hS 1 rfl rfl rfl hl.1 rfl (Nat.le_of_ble_eq_true rfl) d_X_target_24) hS (fun H locs hP hS => ?_)
      exact mb_eI hret h d_X_target_27 hP hS
    · have h := mb_t hc h
      exact zX_target_b16 Cx hR hret  s h ls H locs (lv_sub hl [] rfl) hP hS
set_option maxRecDepth 100000 in
set_option maxHeartbeats 4000000 in
theorem zX_size_b22 {p : Program} {l : Launch} {e : Env} {R : Room} {s0 : State} {m : MethodId} {args : Array Value} {below : List Frame} {meth : Method} {c : Code} {Q : State → Prop} {A : Nat → Prop} {D : va_G} {X : Nat → Nat} {cI cZ cJ : ClassId} {rv : Int32} {rs : mb_S}
    (Cx : mb_C p s0 m args meth c c_X_size 2 lw_w cnX mb_ZX vwCl D [(cI, .int), (cZ, .boolean), (cJ, .long)] A (WX X cI cZ cJ)) (hR : 1 ≤ R.frames ∧ 21 ≤ R.locals)
    (hret : mb_R p l e R s0 m args below meth c Q vwCl D A (WX X cI cZ cJ) c_X_size .ireturn [.int rv] rs)  (y0 : Int32) (s : mb_S)
    (h : mX_size_b22  y0 s = some (rv, rs)) : mb_B p l e R s0 m args below meth c Q vwCl D A (WX X cI cZ cJ) 2 [] [.int y0] 22 s := by
  unfold mX_size_b22 at h
  intro ls H locs hl hP hS
  have Cx0 := Cx
  obtain ⟨⟨hx, hb, hml, hown, hts⟩, hK, hD, hA, hZ⟩ := Cx0
  exact mb_eI hret h d_X_size_22 hP hS
set_option maxRecDepth 100000 in
set_option maxHeartbeats 4000000 in
theorem w_X_size (l : Launch) (D : va_G) (X : Nat → Nat) (cI cZ cJ : ClassId) {x1 : Int32} {s : mb_S} {rv : Int32} {rs : mb_S}
    (h : mX_size x1 s = some (rv, rs)) : mb_MI l y_X_size ws_X_size rm_X_size mb_ZX vwCl D [(cI, .int), (cZ, .boolean), (cJ, .long)] (WX X cI cZ cJ) [.ref (X 0), .int x1] s rv rs := by
  refine mb_ofI mb_ZXok (by decide) rfl (Nat.le_of_ble_eq_true rfl) mb_DXok ?_
  intro p e s0 m args below meth c Q A Cx hret
  have hR : 1 ≤ (rm_X_size).frames ∧ 21 ≤ (rm_X_size).locals := ⟨Nat.le_refl _, Nat.le_refl _⟩
  intro ls H locs hl hP hS
  have Cx0 := Cx
  obtain ⟨⟨hx, hb, hml, hown, hts⟩, hK, hD, hA, hZ⟩ := Cx0
  have hl : lv_has ls 2 [(0, .ref (X 0)), (1, .int x1)] := hl
  unfold mX_size at h
  refine lv_iload_n hx hb d_X_size_0 rfl (lv_at hl 1 rfl) ?_
  refine lv_bipush (v := (6 : Int32)) hx hb d_X_size_1 (by decide) ?_
  obtain ⟨v1, hv1, h⟩ := mb_cal0_ex h
  refine mb_go0I (st := s) Cx (mb_runS0 (As := [.int x1, .int (6 : Int32)]) (rest := []) Cx (w_X_isBelow l D hv1 H.size) (mb_cwS 2 hts wd_228 wd_221 wd_1 wd_222 rfl rfl rfl (by decide +kernel) ⟨Nat.le_trans (by decide) hR.1, Nat.le_trans (by decide) hR.2⟩) rfl hl.1 rfl (Nat.le_of_ble_eq_true rfl) d_X_size_3) hP hS (fun H locs hP hS => ?_)
  refine lv_if_eq hx hb d_X_size_6 rfl (fun hc => ?_) (fun hc => ?_)
  · have h := mb_t hc h
    refine lv_iconst (v := (0 : Int32)) hx hb d_X_size_21 (by decide) ?_
    exact zX_size_b22 Cx hR hret  (0 : Int32) s h ls H locs (lv_sub hl [] rfl) hP hS
  · have h := mb_f hc h
    refine lv_aload_n hx hb d_X_size_9 rfl (lv_at hl 0 rfl) ?_
    refine va_get (ci := 0) (C := cnX) (T := fTX) (N := 5) hx hb hts uwX hown hK hP 0 rfl rfl 0 (by decide) (hts _ wd_196) (fun _ h9 => h9) rfl d_X_size_10 ?_
    refine va_get (ci := 1) (C := cnP) (T := fTP) (N := 12) hx hb hts uwP hown hK hP 1 rfl rfl 5 (by decide) (hts _ wd_49) (fun _ h9 => h9) rfl d_X_size_13 ?_
    refine lv_iload_n hx hb d_X_size_16 rfl (lv_at hl 1 rfl) ?_
    refine mb_iald hx hb hK hP 10 0 rfl rfl h d_X_size_17 (fun v2 h => ?_)
    refine lv_goto hx hb d_X_size_18 rfl ?_
    exact zX_size_b22 Cx hR hret  v2 s h ls H locs (lv_sub hl [] rfl) hP hS
set_option maxRecDepth 100000 in
set_option maxHeartbeats 4000000 in
theorem zX_has_b13 {p : Program} {l : Launch} {e : Env} {R : Room} {s0 : State} {m : MethodId} {args : Array Value} {below : List Frame} {meth : Method} {c : Code} {Q : State → Prop} {A : Nat → Prop} {D : va_G} {rv : Int32}
    (Cx : mb_C p s0 m args meth c c_X_has 2 lw_w cnX (fun _ _ => True) vwCl D [] A (fun _ => [])) (hR : 0 ≤ R.frames ∧ 0 ≤ R.locals)
    (hret : (rv = 0 ∨ rv = 1) → mb_R p l e R s0 m args below meth c Q vwCl D A (fun _ => []) c_X_has .ireturn [.int rv] mb_0)  (y0 : Int32)
    (h : mX_has_b13  y0 = some rv) : mb_B p l e R s0 m args below meth c Q vwCl D A (fun _ => []) 2 [] [.int y0] 13 mb_0 := by
  unfold mX_has_b13 at h
  intro ls H locs hl hP hS
  have Cx0 := Cx
  obtain ⟨⟨hx, hb, hml, hown, hts⟩, hK, hD, hA, hZ⟩ := Cx0
  exact mb_eZ0 hret h d_X_has_13 hP hS
set_option maxRecDepth 100000 in
set_option maxHeartbeats 4000000 in
theorem w_X_has (l : Launch) (D : va_G) {x0 : Int32} {x1 : Int32} {rv : Int32}
    (h : mX_has x0 x1 = some rv) : mb_MI l y_X_has ws_X_has rm_X_has (fun _ _ => True) vwCl D [] (fun _ => []) [.int x0, .int x1] mb_0 rv mb_0 := by
  refine mb_ofZ mb_Z0ok (by decide) rfl (Nat.le_of_ble_eq_true rfl) mb_D0ok ?_
  intro p e s0 m args below meth c Q A Cx hret
  have hR : 0 ≤ (rm_X_has).frames ∧ 0 ≤ (rm_X_has).locals := ⟨Nat.le_refl _, Nat.le_refl _⟩
  intro ls H locs hl hP hS
  have Cx0 := Cx
  obtain ⟨⟨hx, hb, hml, hown, hts⟩, hK, hD, hA, hZ⟩ := Cx0
  have hl : lv_has ls 2 [(0, .int x0), (1, .int x1)] := hl
  unfold mX_has at h
  refine lv_iload_n hx hb d_X_has_0 rfl (lv_at hl 0 rfl) ?_
  refine lv_iload_n hx hb d_X_has_1 rfl (lv_at hl 1 rfl) ?_
  refine lv_iushr hx hb d_X_has_2 rfl ?_
  refine lv_iconst (v := (1 : Int32)) hx hb d_X_has_3 (by decide) ?_
  refine lv_iand hx hb d_X_has_4 ?_
  refine lv_if_eq hx hb d_X_has_5 rfl (fun hc => ?_) (fun hc => ?_)
  · have h := mb_t hc h
    refine lv_iconst (v := (0 : Int32)) hx hb d_X_has_12 (by decide) ?_
    exact zX_has_b13 Cx hR hret  (0 : Int32) h ls H locs (lv_sub hl [] rfl) hP hS
  · have h := mb_f hc h
    refine lv_iconst (v := (1 : Int32)) hx hb d_X_has_8 (by decide) ?_
    refine lv_goto hx hb d_X_has_9 rfl ?_
    exact zX_has_b13 Cx hR hret  (1 : Int32) h ls H locs (lv_sub hl [] rfl) hP hS
set_option maxRecDepth 100000 in
set_option maxHeartbeats 4000000 in
theorem zQ_growLocal_b37 {p : Program} {l : Launch} {e : Env} {R : Room} {s0 : State} {m : MethodId} {args : Array Value} {below : List Frame} {meth : Method} {c : Code} {Q : State → Prop} {A : Nat → Prop} {D : va_G} {X : Nat → Nat} {cI cZ cJ : ClassId} {rv : Unit} {rs : mb_S}
    (Cx : mb_C p s0 m args meth c c_Q_growLocal 5 lw_w cnQ mb_ZX vwCl D [(cI, .int), (cZ, .boolean), (cJ, .long)] A (WX X cI cZ cJ)) (hR : 0 ≤ R.frames ∧ 0 ≤ R.locals)
    (hret : mb_R p l e R s0 m args below meth c Q vwCl D A (WX X cI cZ cJ) c_Q_growLocal .return_ [] rs)   (s : mb_S)
    (h : mQ_growLocal_b37  s = some (rv, rs)) : mb_B p l e R s0 m args below meth c Q vwCl D A (WX X cI cZ cJ) 5 [] [] 37 s := by
  unfold mQ_growLocal_b37 at h
  intro ls H locs hl hP hS
  have Cx0 := Cx
  obtain ⟨⟨hx, hb, hml, hown, hts⟩, hK, hD, hA, hZ⟩ := Cx0
  exact mb_eV hret h d_Q_growLocal_37 hP hS
set_option maxRecDepth 100000 in
set_option maxHeartbeats 4000000 in
theorem w_Q_growLocal (l : Launch) (D : va_G) (X : Nat → Nat) (cI cZ cJ : ClassId) {x1 : Int32} {x2 : Int32} {x3 : Int32} {s : mb_S} {rv : Unit} {rs : mb_S}
    (h : mQ_growLocal x1 x2 x3 s = some (rv, rs)) : mb_MV l y_Q_growLocal ws_Q_growLocal rm_Q_growLocal mb_ZX vwCl D [(cI, .int), (cZ, .boolean), (cJ, .long)] (WX X cI cZ cJ) [.ref (X 2), .int x1, .int x2, .int x3] s rs := by
  refine mb_ofV mb_ZXok (by decide) rfl (Nat.le_of_ble_eq_true rfl) mb_DXok ?_
  intro p e s0 m args below meth c Q A Cx hret
  have hR : 0 ≤ (rm_Q_growLocal).frames ∧ 0 ≤ (rm_Q_growLocal).locals := ⟨Nat.le_refl _, Nat.le_refl _⟩
  intro ls H locs hl hP hS
  have Cx0 := Cx
  obtain ⟨⟨hx, hb, hml, hown, hts⟩, hK, hD, hA, hZ⟩ := Cx0
  have hl : lv_has ls 5 [(0, .ref (X 2)), (1, .int x1), (2, .int x2), (3, .int x3)] := hl
  unfold mQ_growLocal at h
  refine lv_iload_n hx hb d_Q_growLocal_0 rfl (lv_at hl 1 rfl) ?_
  refine lv_iconst (v := (4 : Int32)) hx hb d_Q_growLocal_1 (by decide) ?_
  refine lv_imul hx hb d_Q_growLocal_2 ?_
  refine lv_iload_n hx hb d_Q_growLocal_3 rfl (lv_at hl 2 rfl) ?_
  refine lv_iadd hx hb d_Q_growLocal_4 ?_
  refine lv_topi (fun v1 ev1 => ?_)
  have h := mb_at ev1 h
  refine lv_istore (lv' := [(4, .int v1), (0, .ref (X 2)), (1, .int x1), (2, .int x2), (3, .int x3)]) hx hb d_Q_growLocal_5 hl (by decide) rfl (fun ls hl => ?_)
  refine lv_iload_n hx hb d_Q_growLocal_7 rfl (lv_at hl 4 rfl) ?_
  refine lv_aload_n hx hb d_Q_growLocal_8 rfl (lv_at hl 1 rfl) ?_
  refine va_get (ci := 2) (C := cnQ) (T := fTQ) (N := 6) hx hb hts uwQ hown hK hP 2 rfl rfl 1 (by decide) (hts _ wd_97) (fun _ h9 => h9) rfl d_Q_growLocal_9 ?_
  refine lv_iload hx hb d_Q_growLocal_12 (lv_at hl 0 rfl) ?_
  refine mb_iald hx hb hK hP 16 0 rfl rfl h d_Q_growLocal_14 (fun v2 h => ?_)
  refine lv_iconst (v := (-1 : Int32)) hx hb d_Q_growLocal_15 (by decide) ?_
  refine lv_ixor hx hb d_Q_growLocal_16 ?_
  refine lv_iand hx hb d_Q_growLocal_17 ?_
  refine lv_if_eq hx hb d_Q_growLocal_18 rfl (fun hc => ?_) (fun hc => ?_)
  · have h := mb_t hc h
    exact zQ_growLocal_b37 Cx hR hret  s h ls H locs (lv_sub hl [] rfl) hP hS
  · have h := mb_f hc h
    refine lv_aload_n hx hb d_Q_growLocal_21 rfl (lv_at hl 1 rfl) ?_
    refine va_get (ci := 2) (C := cnQ) (T := fTQ) (N := 6) hx hb hts uwQ hown hK hP 2 rfl rfl 1 (by decide) (hts _ wd_97) (fun _ h9 => h9) rfl d_Q_growLocal_22 ?_
    refine lv_iload hx hb d_Q_growLocal_25 (lv_at hl 0 rfl) ?_
    refine lv_dup2_11 hx hb d_Q_growLocal_27 rfl rfl ?_
    refine mb_iald hx hb hK hP 16 0 rfl rfl h d_Q_growLocal_28 (fun v3 h => ?_)
    refine lv_iload_n hx hb d_Q_growLocal_29 rfl (lv_at hl 4 rfl) ?_
    refine lv_ior hx hb d_Q_growLocal_30 ?_
    refine mb_iast (WS := WX X cI cZ cJ) hx hb hK hP hD hS 16 0 rfl rfl h d_Q_growLocal_31 rfl (fun H locs s4 hP hS h => ?_)
    refine lv_aload_n hx hb d_Q_growLocal_32 rfl (lv_at hl 1 rfl) ?_
    refine lv_iconst (v := (1 : Int32)) hx hb d_Q_growLocal_33 (by decide) ?_
    obtain ⟨hzs5, h⟩ := mb_putZ_ex h
    refine va_put (ci := 2) (v := .int (1 : Int32)) (ty := .boolean) (C := cnQ) (T := fTQ) (N := 6) hx hb hts uwQ fyQ fyQ_ok fnQ hown hK hP (hD _) hS 2 rfl rfl 5 (by decide) (hts _ wd_105) (fun _ h9 => h9) rfl (by decide +kernel) (mb_narZ hzs5) (mb_fitZ hzs5) (Nat.le_of_ble_eq_true rfl) d_Q_growLocal_34 (fun H locs hP _ hS => ?_)
    have hP : va_P D vwCl (WX X cI cZ cJ (mb_setF s4 3 (1 : Int32))) H := hP
    generalize mb_setF s4 3 (1 : Int32) = s5 at hP h
    exact zQ_growLocal_b37 Cx hR hret  s5 h ls H locs (lv_sub hl [] rfl) hP hS
set_option maxRecDepth 100000 in
set_option maxHeartbeats 4000000 in
theorem zQ_fieldOfAll_b35 {p : Program} {l : Launch} {e : Env} {R : Room} {s0 : State} {m : MethodId} {args : Array Value} {below : List Frame} {meth : Method} {c : Code} {Q : State → Prop} {A : Nat → Prop} {D : va_G} {X : Nat → Nat} {cI cZ cJ : ClassId} {rv : Int32} {rs : mb_S}
    (Cx : mb_C p s0 m args meth c c_Q_fieldOfAll 5 lw_w cnQ mb_ZX vwCl D [(cI, .int), (cZ, .boolean), (cJ, .long)] A (WX X cI cZ cJ)) (hR : 1 ≤ R.frames ∧ 21 ≤ R.locals)
    (hret : mb_R p l e R s0 m args below meth c Q vwCl D A (WX X cI cZ cJ) c_Q_fieldOfAll .ireturn [.int rv] rs) (k5 : Int32 → Int32 → Int32 → Int32 → mb_S → Option (Int32 × mb_S)) (hk5 : ∀ (x1 : Int32) (x2 : Int32) (x3 : Int32) (x4 : Int32) (s : mb_S), k5 x1 x2 x3 x4 s = some (rv, rs) → mb_B p l e R s0 m args below meth c Q vwCl D A (WX X cI cZ cJ) 5 [(0, .ref (X 2)), (1, .int x1), (2, .int x2), (3, .int x3), (4, .int x4)] [] 5 s) (x1 : Int32) (x2 : Int32) (x3 : Int32) (x4 : Int32) (s : mb_S)
    (h : mQ_fieldOfAll_b35 k5 x1 x2 x3 x4 s = some (rv, rs)) : mb_B p l e R s0 m args below meth c Q vwCl D A (WX X cI cZ cJ) 5 [(0, .ref (X 2)), (1, .int x1), (2, .int x2), (3, .int x3), (4, .int x4)] [] 35 s := by
  unfold mQ_fieldOfAll_b35 at h
  intro ls H locs hl hP hS
  have Cx0 := Cx
  obtain ⟨⟨hx, hb, hml, hown, hts⟩, hK, hD, hA, hZ⟩ := Cx0
  obtain ⟨v1, ev1, h⟩ := mb_ex h
  refine lv_iinc (k := 4) (v := v1) (lv' := [(4, .int v1), (0, .ref (X 2)), (1, .int x1), (2, .int x2), (3, .int x3)]) hx hb d_Q_fieldOfAll_35 hl rfl ev1 (by decide) rfl (fun ls hl => ?_)
  refine lv_goto hx hb d_Q_fieldOfAll_38 rfl ?_
  exact hk5 x1 x2 x3 v1 s h ls H locs (lv_sub hl [1, 2, 3, 4, 0] rfl) hP hS
set_option maxRecDepth 100000 in
set_option maxHeartbeats 4000000 in
theorem zQ_fieldOfAll_l5 {p : Program} {l : Launch} {e : Env} {R : Room} {s0 : State} {m : MethodId} {args : Array Value} {below : List Frame} {meth : Method} {c : Code} {Q : State → Prop} {A : Nat → Prop} {D : va_G} {X : Nat → Nat} {cI cZ cJ : ClassId} {rv : Int32} {rs : mb_S}
    (Cx : mb_C p s0 m args meth c c_Q_fieldOfAll 5 lw_w cnQ mb_ZX vwCl D [(cI, .int), (cZ, .boolean), (cJ, .long)] A (WX X cI cZ cJ)) (hR : 1 ≤ R.frames ∧ 21 ≤ R.locals)
    (hret : mb_R p l e R s0 m args below meth c Q vwCl D A (WX X cI cZ cJ) c_Q_fieldOfAll .ireturn [.int rv] rs)  :
    ∀ (n : Nat) (x1 : Int32) (x2 : Int32) (x3 : Int32) (x4 : Int32) (s : mb_S), mQ_fieldOfAll_l5  n x1 x2 x3 x4 s = some (rv, rs) → mb_B p l e R s0 m args below meth c Q vwCl D A (WX X cI cZ cJ) 5 [(0, .ref (X 2)), (1, .int x1), (2, .int x2), (3, .int x3), (4, .int x4)] [] 5 s := by
  intro n
  induction n with
  | zero => intro x1 x2 x3 x4 s h; cases h
  | succ n ih =>
    intro x1 x2 x3 x4 s h
    rw [mQ_fieldOfAll_l5_s] at h
    intro ls H locs hl hP hS
    have Cx0 := Cx
    obtain ⟨⟨hx, hb, hml, hown, hts⟩, hK, hD, hA, hZ⟩ := Cx0
    refine lv_iload hx hb d_Q_fieldOfAll_5 (lv_at hl 4 rfl) ?_
    refine lv_bipush (v := (6 : Int32)) hx hb d_Q_fieldOfAll_7 (by decide) ?_
    refine lv_icmp_ge hx hb d_Q_fieldOfAll_9 rfl (fun hc => ?_) (fun hc => ?_)
    · have h := mb_t hc h
      refine lv_iload_n hx hb d_Q_fieldOfAll_41 rfl (lv_at hl 3 rfl) ?_
      exact mb_eI hret h d_Q_fieldOfAll_42 hP hS
    · have h := mb_f hc h
      refine lv_iload_n hx hb d_Q_fieldOfAll_12 rfl (lv_at hl 1 rfl) ?_
      refine lv_iload hx hb d_Q_fieldOfAll_13 (lv_at hl 4 rfl) ?_
      obtain ⟨v2, hv2, h⟩ := mb_cal0_ex h
      refine mb_go0I (st := s) Cx (mb_runSN0 (As := [.int x1, .int x4]) (rest := []) Cx (w_X_has l D hv2 H.size) (mb_cn 2 hts wd_283 wd_284 wd_1 wd_285 rfl rfl rfl (by decide +kernel) ⟨Nat.le_trans (by decide) hR.1, Nat.le_trans (by decide) hR.2⟩) rfl hl.1 rfl (Nat.le_of_ble_eq_true rfl) d_Q_fieldOfAll_15) hP hS (fun H locs hP hS => ?_)
      refine lv_if_eq hx hb d_Q_fieldOfAll_18 rfl (fun hc => ?_) (fun hc => ?_)
      · have h := mb_t hc h
        exact zQ_fieldOfAll_b35 Cx hR hret (mQ_fieldOfAll_l5  n) ih x1 x2 x3 x4 s h ls H locs (lv_sub hl [0, 1, 2, 3, 4] rfl) hP hS
      · have h := mb_f hc h
        refine lv_iload_n hx hb d_Q_fieldOfAll_21 rfl (lv_at hl 3 rfl) ?_
        refine lv_aload_n hx hb d_Q_fieldOfAll_22 rfl (lv_at hl 0 rfl) ?_
        refine va_get (ci := 2) (C := cnQ) (T := fTQ) (N := 6) hx hb hts uwQ hown hK hP 2 rfl rfl 2 (by decide) (hts _ wd_100) (fun _ h9 => h9) rfl d_Q_fieldOfAll_23 ?_
        refine lv_iload hx hb d_Q_fieldOfAll_26 (lv_at hl 4 rfl) ?_
        refine lv_iconst (v := (2 : Int32)) hx hb d_Q_fieldOfAll_28 (by decide) ?_
        refine lv_imul hx hb d_Q_fieldOfAll_29 ?_
        refine lv_iload_n hx hb d_Q_fieldOfAll_30 rfl (lv_at hl 2 rfl) ?_
        refine lv_iadd hx hb d_Q_fieldOfAll_31 ?_
        refine mb_iald hx hb hK hP 17 0 rfl rfl h d_Q_fieldOfAll_32 (fun v3 h => ?_)
        refine lv_ior hx hb d_Q_fieldOfAll_33 ?_
        refine lv_topi (fun v4 ev4 => ?_)
        have h := mb_at ev4 h
        refine lv_istore_n (lv' := [(3, .int v4), (0, .ref (X 2)), (1, .int x1), (2, .int x2), (4, .int x4)]) hx hb d_Q_fieldOfAll_34 rfl hl (by decide) rfl (fun ls hl => ?_)
        exact zQ_fieldOfAll_b35 Cx hR hret (mQ_fieldOfAll_l5  n) ih x1 x2 v4 x4 s h ls H locs (lv_sub hl [1, 2, 3, 0, 4] rfl) hP hS
set_option maxRecDepth 100000 in
set_option maxHeartbeats 4000000 in
theorem w_Q_fieldOfAll (l : Launch) (D : va_G) (X : Nat → Nat) (cI cZ cJ : ClassId) {x1 : Int32} {x2 : Int32} {s : mb_S} {rv : Int32} {rs : mb_S}
    (h : mQ_fieldOfAll x1 x2 s = some (rv, rs)) : mb_MI l y_Q_fieldOfAll ws_Q_fieldOfAll rm_Q_fieldOfAll mb_ZX vwCl D [(cI, .int), (cZ, .boolean), (cJ, .long)] (WX X cI cZ cJ) [.ref (X 2), .int x1, .int x2] s rv rs := by
  refine mb_ofI mb_ZXok (by decide) rfl (Nat.le_of_ble_eq_true rfl) mb_DXok ?_
  intro p e s0 m args below meth c Q A Cx hret
  have hR : 1 ≤ (rm_Q_fieldOfAll).frames ∧ 21 ≤ (rm_Q_fieldOfAll).locals := ⟨Nat.le_refl _, Nat.le_refl _⟩
  intro ls H locs hl hP hS
  have Cx0 := Cx
  obtain ⟨⟨hx, hb, hml, hown, hts⟩, hK, hD, hA, hZ⟩ := Cx0
  have hl : lv_has ls 5 [(0, .ref (X 2)), (1, .int x1), (2, .int x2)] := hl
  unfold mQ_fieldOfAll at h
  refine lv_iconst (v := (0 : Int32)) hx hb d_Q_fieldOfAll_0 (by decide) ?_
  refine lv_istore_n (lv' := [(3, .int (0 : Int32)), (0, .ref (X 2)), (1, .int x1), (2, .int x2)]) hx hb d_Q_fieldOfAll_1 rfl hl (by decide) rfl (fun ls hl => ?_)
  refine lv_iconst (v := (0 : Int32)) hx hb d_Q_fieldOfAll_2 (by decide) ?_
  refine lv_istore (lv' := [(4, .int (0 : Int32)), (3, .int (0 : Int32)), (0, .ref (X 2)), (1, .int x1), (2, .int x2)]) hx hb d_Q_fieldOfAll_3 hl (by decide) rfl (fun ls hl => ?_)
  exact zQ_fieldOfAll_l5 Cx hR hret  mb_fuel x1 x2 (0 : Int32) (0 : Int32) s h ls H locs (lv_sub hl [2, 3, 4, 1, 0] rfl) hP hS
set_option maxRecDepth 100000 in
set_option maxHeartbeats 4000000 in
theorem zQ_growFields_b57 {p : Program} {l : Launch} {e : Env} {R : Room} {s0 : State} {m : MethodId} {args : Array Value} {below : List Frame} {meth : Method} {c : Code} {Q : State → Prop} {A : Nat → Prop} {D : va_G} {X : Nat → Nat} {cI cZ cJ : ClassId} {rv : Unit} {rs : mb_S}
    (Cx : mb_C p s0 m args meth c c_Q_growFields 6 lw_w cnQ mb_ZX vwCl D [(cI, .int), (cZ, .boolean), (cJ, .long)] A (WX X cI cZ cJ)) (hR : 1 ≤ R.frames ∧ 21 ≤ R.locals)
    (hret : mb_R p l e R s0 m args below meth c Q vwCl D A (WX X cI cZ cJ) c_Q_growFields .return_ [] rs) (k3 : Int32 → Int32 → Int32 → Int32 → mb_S → Option (Unit × mb_S)) (hk3 : ∀ (x1 : Int32) (x2 : Int32) (x3 : Int32) (x4 : Int32) (s : mb_S), k3 x1 x2 x3 x4 s = some (rv, rs) → mb_B p l e R s0 m args below meth c Q vwCl D A (WX X cI cZ cJ) 6 [(0, .ref (X 2)), (1, .int x1), (2, .int x2), (3, .int x3), (4, .int x4)] [] 3 s) (x1 : Int32) (x2 : Int32) (x3 : Int32) (x4 : Int32) (s : mb_S)
    (h : mQ_growFields_b57 k3 x1 x2 x3 x4 s = some (rv, rs)) : mb_B p l e R s0 m args below meth c Q vwCl D A (WX X cI cZ cJ) 6 [(0, .ref (X 2)), (1, .int x1), (2, .int x2), (3, .int x3), (4, .int x4)] [] 57 s := by
  unfold mQ_growFields_b57 at h
  intro ls H locs hl hP hS
  have Cx0 := Cx
  obtain ⟨⟨hx, hb, hml, hown, hts⟩, hK, hD, hA, hZ⟩ := Cx0
  obtain ⟨v1, ev1, h⟩ := mb_ex h
  refine lv_iinc (k := 4) (v := v1) (lv' := [(4, .int v1), (0, .ref (X 2)), (1, .int x1), (2, .int x2), (3, .int x3)]) hx hb d_Q_growFields_57 hl rfl ev1 (by decide) rfl (fun ls hl => ?_)
  refine lv_goto hx hb d_Q_growFields_60 rfl ?_
  exact hk3 x1 x2 x3 v1 s h ls H locs (lv_sub hl [1, 2, 3, 4, 0] rfl) hP hS
set_option maxRecDepth 100000 in
set_option maxHeartbeats 4000000 in
theorem zQ_growFields_l3 {p : Program} {l : Launch} {e : Env} {R : Room} {s0 : State} {m : MethodId} {args : Array Value} {below : List Frame} {meth : Method} {c : Code} {Q : State → Prop} {A : Nat → Prop} {D : va_G} {X : Nat → Nat} {cI cZ cJ : ClassId} {rv : Unit} {rs : mb_S}
    (Cx : mb_C p s0 m args meth c c_Q_growFields 6 lw_w cnQ mb_ZX vwCl D [(cI, .int), (cZ, .boolean), (cJ, .long)] A (WX X cI cZ cJ)) (hR : 1 ≤ R.frames ∧ 21 ≤ R.locals)
    (hret : mb_R p l e R s0 m args below meth c Q vwCl D A (WX X cI cZ cJ) c_Q_growFields .return_ [] rs)  :
    ∀ (n : Nat) (x1 : Int32) (x2 : Int32) (x3 : Int32) (x4 : Int32) (s : mb_S), mQ_growFields_l3  n x1 x2 x3 x4 s = some (rv, rs) → mb_B p l e R s0 m args below meth c Q vwCl D A (WX X cI cZ cJ) 6 [(0, .ref (X 2)), (1, .int x1), (2, .int x2), (3, .int x3), (4, .int x4)] [] 3 s := by
  intro n
  induction n with
  | zero => intro x1 x2 x3 x4 s h; cases h
  | succ n ih =>
    intro x1 x2 x3 x4 s h
    rw [mQ_growFields_l3_s] at h
    intro ls H locs hl hP hS
    have Cx0 := Cx
    obtain ⟨⟨hx, hb, hml, hown, hts⟩, hK, hD, hA, hZ⟩ := Cx0
    refine lv_iload hx hb d_Q_growFields_3 (lv_at hl 4 rfl) ?_
    refine lv_bipush (v := (6 : Int32)) hx hb d_Q_growFields_5 (by decide) ?_
    refine lv_icmp_ge hx hb d_Q_growFields_7 rfl (fun hc => ?_) (fun hc => ?_)
    · have h := mb_t hc h
      exact mb_eV hret h d_Q_growFields_63 hP hS
    · have h := mb_f hc h
      refine lv_iload hx hb d_Q_growFields_10 (lv_at hl 4 rfl) ?_
      refine lv_iconst (v := (2 : Int32)) hx hb d_Q_growFields_12 (by decide) ?_
      refine lv_imul hx hb d_Q_growFields_13 ?_
      refine lv_iload_n hx hb d_Q_growFields_14 rfl (lv_at hl 2 rfl) ?_
      refine lv_iadd hx hb d_Q_growFields_15 ?_
      refine lv_topi (fun v2 ev2 => ?_)
      have h := mb_at ev2 h
      refine lv_istore (lv' := [(5, .int v2), (0, .ref (X 2)), (1, .int x1), (2, .int x2), (3, .int x3), (4, .int x4)]) hx hb d_Q_growFields_16 hl (by decide) rfl (fun ls hl => ?_)
      refine lv_iload_n hx hb d_Q_growFields_18 rfl (lv_at hl 2 rfl) ?_
      refine lv_iload hx hb d_Q_growFields_19 (lv_at hl 5 rfl) ?_
      obtain ⟨v3, hv3, h⟩ := mb_cal0_ex h
      refine mb_go0I (st := s) Cx (mb_runSN0 (As := [.int x1, .int x4]) (rest := []) Cx (w_X_has l D hv3 H.size) (mb_cn 2 hts wd_283 wd_284 wd_1 wd_285 rfl rfl rfl (by decide +kernel) ⟨Nat.le_trans (by decide) hR.1, Nat.le_trans (by decide) hR.2⟩) rfl hl.1 rfl (Nat.le_of_ble_eq_true rfl) d_Q_growFields_21) hP hS (fun H locs hP hS => ?_)
      refine lv_if_eq hx hb d_Q_growFields_24 rfl (fun hc => ?_) (fun hc => ?_)
      · have h := mb_t hc h
        exact zQ_growFields_b57 Cx hR hret (mQ_growFields_l3  n) ih x1 x2 x3 x4 s h ls H locs (lv_sub hl [1, 2, 3, 4, 5] rfl) hP hS
      · have h := mb_f hc h
        refine lv_iload_n hx hb d_Q_growFields_27 rfl (lv_at hl 4 rfl) ?_
        refine lv_aload_n hx hb d_Q_growFields_28 rfl (lv_at hl 1 rfl) ?_
        refine va_get (ci := 2) (C := cnQ) (T := fTQ) (N := 6) hx hb hts uwQ hown hK hP 2 rfl rfl 2 (by decide) (hts _ wd_100) (fun _ h9 => h9) rfl d_Q_growFields_29 ?_
        refine lv_iload hx hb d_Q_growFields_32 (lv_at hl 0 rfl) ?_
        refine mb_iald hx hb hK hP 17 0 rfl rfl h d_Q_growFields_34 (fun v4 h => ?_)
        refine lv_iconst (v := (-1 : Int32)) hx hb d_Q_growFields_35 (by decide) ?_
        refine lv_ixor hx hb d_Q_growFields_36 ?_
        refine lv_iand hx hb d_Q_growFields_37 ?_
        refine lv_if_eq hx hb d_Q_growFields_38 rfl (fun hc => ?_) (fun hc => ?_)
        · have h := mb_t hc h
          exact zQ_growFields_b57 Cx hR hret (mQ_growFields_l3  n) ih x1 x2 x3 x4 s h ls H locs (lv_sub hl [1, 2, 3, 4, 5] rfl) hP hS
        · have h := mb_f hc h
          refine lv_aload_n hx hb d_Q_growFields_41 rfl (lv_at hl 1 rfl) ?_
          refine va_get (ci := 2) (C := cnQ) (T := fTQ) (N := 6) hx hb hts uwQ hown hK hP 2 rfl rfl 2 (by decide) (hts _ wd_100) (fun _ h9 => h9) rfl d_Q_growFields_42 ?_
          refine lv_iload hx hb d_Q_growFields_45 (lv_at hl 0 rfl) ?_
          refine lv_dup2_11 hx hb d_Q_growFields_47 rfl rfl ?_
          refine mb_iald hx hb hK hP 17 0 rfl rfl h d_Q_growFields_48 (fun v5 h => ?_)
          refine lv_iload_n hx hb d_Q_growFields_49 rfl (lv_at hl 4 rfl) ?_
          refine lv_ior hx hb d_Q_growFields_50 ?_
          refine mb_iast (WS := WX X cI cZ cJ) hx hb hK hP hD hS 17 0 rfl rfl h d_Q_growFields_51 rfl (fun H locs s6 hP hS h => ?_)
          refine lv_aload_n hx hb d_Q_growFields_52 rfl (lv_at hl 1 rfl) ?_
          refine lv_iconst (v := (1 : Int32)) hx hb d_Q_growFields_53 (by decide) ?_
          obtain ⟨hzs7, h⟩ := mb_putZ_ex h
          refine va_put (ci := 2) (v := .int (1 : Int32)) (ty := .boolean) (C := cnQ) (T := fTQ) (N := 6) hx hb hts uwQ fyQ fyQ_ok fnQ hown hK hP (hD _) hS 2 rfl rfl 5 (by decide) (hts _ wd_105) (fun _ h9 => h9) rfl (by decide +kernel) (mb_narZ hzs7) (mb_fitZ hzs7) (Nat.le_of_ble_eq_true rfl) d_Q_growFields_54 (fun H locs hP _ hS => ?_)
          have hP : va_P D vwCl (WX X cI cZ cJ (mb_setF s6 3 (1 : Int32))) H := hP
          generalize mb_setF s6 3 (1 : Int32) = s7 at hP h
          exact zQ_growFields_b57 Cx hR hret (mQ_growFields_l3  n) ih x1 x2 x3 x4 s7 h ls H locs (lv_sub hl [1, 2, 3, 4, 5] rfl) hP hS
set_option maxRecDepth 100000 in
set_option maxHeartbeats 4000000 in
theorem w_Q_growFields (l : Launch) (D : va_G) (X : Nat → Nat) (cI cZ cJ : ClassId) {x1 : Int32} {x2 : Int32} {x3 : Int32} {s : mb_S} {rv : Unit} {rs : mb_S}
    (h : mQ_growFields x1 x2 x3 s = some (rv, rs)) : mb_MV l y_Q_growFields ws_Q_growFields rm_Q_growFields mb_ZX vwCl D [(cI, .int), (cZ, .boolean), (cJ, .long)] (WX X cI cZ cJ) [.ref (X 2), .int x1, .int x2, .int x3] s rs := by
  refine mb_ofV mb_ZXok (by decide) rfl (Nat.le_of_ble_eq_true rfl) mb_DXok ?_
  intro p e s0 m args below meth c Q A Cx hret
  have hR : 1 ≤ (rm_Q_growFields).frames ∧ 21 ≤ (rm_Q_growFields).locals := ⟨Nat.le_refl _, Nat.le_refl _⟩
  intro ls H locs hl hP hS
  have Cx0 := Cx
  obtain ⟨⟨hx, hb, hml, hown, hts⟩, hK, hD, hA, hZ⟩ := Cx0
  have hl : lv_has ls 6 [(0, .ref (X 2)), (1, .int x1), (2, .int x2), (3, .int x3)] := hl
  unfold mQ_growFields at h
  refine lv_iconst (v := (0 : Int32)) hx hb d_Q_growFields_0 (by decide) ?_
  refine lv_istore (lv' := [(4, .int (0 : Int32)), (0, .ref (X 2)), (1, .int x1), (2, .int x2), (3, .int x3)]) hx hb d_Q_growFields_1 hl (by decide) rfl (fun ls hl => ?_)
  exact zQ_growFields_l3 Cx hR hret  mb_fuel x1 x2 x3 (0 : Int32) s h ls H locs (lv_sub hl [1, 2, 3, 4, 0] rfl) hP hS
set_option maxRecDepth 100000 in
set_option maxHeartbeats 4000000 in
theorem zQ_reach_b40 {p : Program} {l : Launch} {e : Env} {R : Room} {s0 : State} {m : MethodId} {args : Array Value} {below : List Frame} {meth : Method} {c : Code} {Q : State → Prop} {A : Nat → Prop} {D : va_G} {X : Nat → Nat} {cI cZ cJ : ClassId} {rv : Unit} {rs : mb_S}
    (Cx : mb_C p s0 m args meth c c_Q_reach 3 lw_w cnQ mb_ZX vwCl D [(cI, .int), (cZ, .boolean), (cJ, .long)] A (WX X cI cZ cJ)) (hR : 1 ≤ R.frames ∧ 21 ≤ R.locals)
    (hret : mb_R p l e R s0 m args below meth c Q vwCl D A (WX X cI cZ cJ) c_Q_reach .return_ [] rs)   (s : mb_S)
    (h : mQ_reach_b40  s = some (rv, rs)) : mb_B p l e R s0 m args below meth c Q vwCl D A (WX X cI cZ cJ) 3 [] [] 40 s := by
  unfold mQ_reach_b40 at h
  intro ls H locs hl hP hS
  have Cx0 := Cx
  obtain ⟨⟨hx, hb, hml, hown, hts⟩, hK, hD, hA, hZ⟩ := Cx0
  exact mb_eV hret h d_Q_reach_40 hP hS
set_option maxRecDepth 100000 in
set_option maxHeartbeats 4000000 in
theorem w_Q_reach (l : Launch) (D : va_G) (X : Nat → Nat) (cI cZ cJ : ClassId) {x1 : Int32} {x2 : Int32} {s : mb_S} {rv : Unit} {rs : mb_S}
    (h : mQ_reach x1 x2 s = some (rv, rs)) : mb_MV l y_Q_reach ws_Q_reach rm_Q_reach mb_ZX vwCl D [(cI, .int), (cZ, .boolean), (cJ, .long)] (WX X cI cZ cJ) [.ref (X 2), .int x1, .int x2] s rs := by
  refine mb_ofV mb_ZXok (by decide) rfl (Nat.le_of_ble_eq_true rfl) mb_DXok ?_
  intro p e s0 m args below meth c Q A Cx hret
  have hR : 1 ≤ (rm_Q_reach).frames ∧ 21 ≤ (rm_Q_reach).locals := ⟨Nat.le_refl _, Nat.le_refl _⟩
  intro ls H locs hl hP hS
  have Cx0 := Cx
  obtain ⟨⟨hx, hb, hml, hown, hts⟩, hK, hD, hA, hZ⟩ := Cx0
  have hl : lv_has ls 3 [(0, .ref (X 2)), (1, .int x1), (2, .int x2)] := hl
  unfold mQ_reach at h
  refine lv_aload_n hx hb d_Q_reach_0 rfl (lv_at hl 0 rfl) ?_
  refine va_get (ci := 2) (C := cnQ) (T := fTQ) (N := 6) hx hb hts uwQ hown hK hP 2 rfl rfl 3 (by decide) (hts _ wd_102) (fun _ h9 => h9) rfl d_Q_reach_1 ?_
  refine lv_iload_n hx hb d_Q_reach_4 rfl (lv_at hl 1 rfl) ?_
  refine lv_dup2_11 hx hb d_Q_reach_5 rfl rfl ?_
  refine mb_iald hx hb hK hP 18 0 rfl rfl h d_Q_reach_6 (fun v1 h => ?_)
  refine lv_iconst (v := (1 : Int32)) hx hb d_Q_reach_7 (by decide) ?_
  refine lv_iload_n hx hb d_Q_reach_8 rfl (lv_at hl 2 rfl) ?_
  refine lv_ishl hx hb d_Q_reach_9 ?_
  refine lv_ior hx hb d_Q_reach_10 ?_
  refine mb_iast (WS := WX X cI cZ cJ) hx hb hK hP hD hS 18 0 rfl rfl h d_Q_reach_11 rfl (fun H locs s2 hP hS h => ?_)
  refine lv_aload_n hx hb d_Q_reach_12 rfl (lv_at hl 0 rfl) ?_
  refine va_get (ci := 2) (C := cnQ) (T := fTQ) (N := 6) hx hb hts uwQ hown hK hP 2 rfl rfl 4 (by decide) (hts _ wd_104) (fun _ h9 => h9) rfl d_Q_reach_13 ?_
  refine lv_iload_n hx hb d_Q_reach_16 rfl (lv_at hl 2 rfl) ?_
  obtain ⟨v3, hv3, h⟩ := mb_cal0_ex h
  refine mb_go0I (st := s2) Cx (mb_runSN0 (As := [.int (mb_F s2 2), .int x2]) (rest := []) Cx (w_X_has l D hv3 H.size) (mb_cn 2 hts wd_283 wd_284 wd_1 wd_285 rfl rfl rfl (by decide +kernel) ⟨Nat.le_trans (by decide) hR.1, Nat.le_trans (by decide) hR.2⟩) rfl hl.1 rfl (Nat.le_of_ble_eq_true rfl) d_Q_reach_17) hP hS (fun H locs hP hS => ?_)
  refine lv_if_ne hx hb d_Q_reach_20 rfl (fun hc => ?_) (fun hc => ?_)
  · have h := mb_f hc h
    exact zQ_reach_b40 Cx hR hret  s2 h ls H locs (lv_sub hl [] rfl) hP hS
  · have h := mb_t hc h
    refine lv_aload_n hx hb d_Q_reach_23 rfl (lv_at hl 0 rfl) ?_
    refine lv_dup hx hb d_Q_reach_24 rfl ?_
    refine va_get (ci := 2) (C := cnQ) (T := fTQ) (N := 6) hx hb hts uwQ hown hK hP 2 rfl rfl 4 (by decide) (hts _ wd_104) (fun _ h9 => h9) rfl d_Q_reach_25 ?_
    refine lv_iconst (v := (1 : Int32)) hx hb d_Q_reach_28 (by decide) ?_
    refine lv_iload_n hx hb d_Q_reach_29 rfl (lv_at hl 2 rfl) ?_
    refine lv_ishl hx hb d_Q_reach_30 ?_
    refine lv_ior hx hb d_Q_reach_31 ?_
    have h := mb_putF_ex h
    refine va_put (ci := 2) (v := .int ((mb_F s2 2) ||| ((1 : Int32) <<< (x2 &&& 31)))) (ty := .int) (C := cnQ) (T := fTQ) (N := 6) hx hb hts uwQ fyQ fyQ_ok fnQ hown hK hP (hD _) hS 2 rfl rfl 4 (by decide) (hts _ wd_104) (fun _ h9 => h9) rfl (by decide +kernel) rfl rfl (Nat.le_of_ble_eq_true rfl) d_Q_reach_32 (fun H locs hP _ hS => ?_)
    have hP : va_P D vwCl (WX X cI cZ cJ (mb_setF s2 2 ((mb_F s2 2) ||| ((1 : Int32) <<< (x2 &&& 31))))) H := hP
    generalize mb_setF s2 2 ((mb_F s2 2) ||| ((1 : Int32) <<< (x2 &&& 31))) = s4 at hP h
    refine lv_aload_n hx hb d_Q_reach_35 rfl (lv_at hl 0 rfl) ?_
    refine lv_iconst (v := (1 : Int32)) hx hb d_Q_reach_36 (by decide) ?_
    obtain ⟨hzs5, h⟩ := mb_putZ_ex h
    refine va_put (ci := 2) (v := .int (1 : Int32)) (ty := .boolean) (C := cnQ) (T := fTQ) (N := 6) hx hb hts uwQ fyQ fyQ_ok fnQ hown hK hP (hD _) hS 2 rfl rfl 5 (by decide) (hts _ wd_105) (fun _ h9 => h9) rfl (by decide +kernel) (mb_narZ hzs5) (mb_fitZ hzs5) (Nat.le_of_ble_eq_true rfl) d_Q_reach_37 (fun H locs hP _ hS => ?_)
    have hP : va_P D vwCl (WX X cI cZ cJ (mb_setF s4 3 (1 : Int32))) H := hP
    generalize mb_setF s4 3 (1 : Int32) = s5 at hP h
    exact zQ_reach_b40 Cx hR hret  s5 h ls H locs (lv_sub hl [] rfl) hP hS
set_option maxRecDepth 100000 in
set_option maxHeartbeats 4000000 in
theorem zQ_returned_b62 {p : Program} {l : Launch} {e : Env} {R : Room} {s0 : State} {m : MethodId} {args : Array Value} {below : List Frame} {meth : Method} {c : Code} {Q : State → Prop} {A : Nat → Prop} {D : va_G} {X : Nat → Nat} {cI cZ cJ : ClassId} {rv : Int32} {rs : mb_S}
    (Cx : mb_C p s0 m args meth c c_Q_returned 5 lw_w cnQ mb_ZX vwCl D [(cI, .int), (cZ, .boolean), (cJ, .long)] A (WX X cI cZ cJ)) (hR : 0 ≤ R.frames ∧ 0 ≤ R.locals)
    (hret : mb_R p l e R s0 m args below meth c Q vwCl D A (WX X cI cZ cJ) c_Q_returned .ireturn [.int rv] rs) (k4 : Int32 → Int32 → Int32 → mb_S → Option (Int32 × mb_S)) (hk4 : ∀ (x1 : Int32) (x2 : Int32) (x3 : Int32) (s : mb_S), k4 x1 x2 x3 s = some (rv, rs) → mb_B p l e R s0 m args below meth c Q vwCl D A (WX X cI cZ cJ) 5 [(0, .ref (X 2)), (1, .int x1), (2, .int x2), (3, .int x3)] [] 4 s) (x1 : Int32) (x2 : Int32) (x3 : Int32) (s : mb_S)
    (h : mQ_returned_b62 k4 x1 x2 x3 s = some (rv, rs)) : mb_B p l e R s0 m args below meth c Q vwCl D A (WX X cI cZ cJ) 5 [(0, .ref (X 2)), (1, .int x1), (2, .int x2), (3, .int x3)] [] 62 s := by
  unfold mQ_returned_b62 at h
  intro ls H locs hl hP hS
  have Cx0 := Cx
  obtain ⟨⟨hx, hb, hml, hown, hts⟩, hK, hD, hA, hZ⟩ := Cx0
  obtain ⟨v1, ev1, h⟩ := mb_ex h
  refine lv_iinc (k := 3) (v := v1) (lv' := [(3, .int v1), (0, .ref (X 2)), (1, .int x1), (2, .int x2)]) hx hb d_Q_returned_62 hl rfl ev1 (by decide) rfl (fun ls hl => ?_)
  refine lv_goto hx hb d_Q_returned_65 rfl ?_
  exact hk4 x1 x2 v1 s h ls H locs (lv_sub hl [1, 2, 3, 0] rfl) hP hS
set_option maxRecDepth 100000 in
set_option maxHeartbeats 4000000 in
theorem zQ_returned_l4 {p : Program} {l : Launch} {e : Env} {R : Room} {s0 : State} {m : MethodId} {args : Array Value} {below : List Frame} {meth : Method} {c : Code} {Q : State → Prop} {A : Nat → Prop} {D : va_G} {X : Nat → Nat} {cI cZ cJ : ClassId} {rv : Int32} {rs : mb_S}
    (Cx : mb_C p s0 m args meth c c_Q_returned 5 lw_w cnQ mb_ZX vwCl D [(cI, .int), (cZ, .boolean), (cJ, .long)] A (WX X cI cZ cJ)) (hR : 0 ≤ R.frames ∧ 0 ≤ R.locals)
    (hret : mb_R p l e R s0 m args below meth c Q vwCl D A (WX X cI cZ cJ) c_Q_returned .ireturn [.int rv] rs)  :
    ∀ (n : Nat) (x1 : Int32) (x2 : Int32) (x3 : Int32) (s : mb_S), mQ_returned_l4  n x1 x2 x3 s = some (rv, rs) → mb_B p l e R s0 m args below meth c Q vwCl D A (WX X cI cZ cJ) 5 [(0, .ref (X 2)), (1, .int x1), (2, .int x2), (3, .int x3)] [] 4 s := by
  intro n
  induction n with
  | zero => intro x1 x2 x3 s h; cases h
  | succ n ih =>
    intro x1 x2 x3 s h
    rw [mQ_returned_l4_s] at h
    intro ls H locs hl hP hS
    have Cx0 := Cx
    obtain ⟨⟨hx, hb, hml, hown, hts⟩, hK, hD, hA, hZ⟩ := Cx0
    refine lv_iload_n hx hb d_Q_returned_4 rfl (lv_at hl 3 rfl) ?_
    refine lv_aload_n hx hb d_Q_returned_5 rfl (lv_at hl 0 rfl) ?_
    refine va_get (ci := 2) (C := cnQ) (T := fTQ) (N := 6) hx hb hts uwQ hown hK hP 2 rfl rfl 0 (by decide) (hts _ wd_96) (fun _ h9 => h9) rfl d_Q_returned_6 ?_
    refine va_get (ci := 1) (C := cnP) (T := fTP) (N := 12) hx hb hts uwP hown hK hP 1 rfl rfl 5 (by decide) (hts _ wd_50) (fun _ h9 => h9) rfl d_Q_returned_9 ?_
    refine lv_iload_n hx hb d_Q_returned_12 rfl (lv_at hl 1 rfl) ?_
    refine mb_iald hx hb hK hP 10 0 rfl rfl h d_Q_returned_13 (fun v2 h => ?_)
    refine lv_icmp_ge hx hb d_Q_returned_14 rfl (fun hc => ?_) (fun hc => ?_)
    · have h := mb_t hc h
      refine lv_iload_n hx hb d_Q_returned_68 rfl (lv_at hl 2 rfl) ?_
      exact mb_eI hret h d_Q_returned_69 hP hS
    · have h := mb_f hc h
      refine lv_iload_n hx hb d_Q_returned_17 rfl (lv_at hl 1 rfl) ?_
      refine lv_bipush (v := (13 : Int32)) hx hb d_Q_returned_18 (by decide) ?_
      refine lv_imul hx hb d_Q_returned_20 ?_
      refine lv_iload_n hx hb d_Q_returned_21 rfl (lv_at hl 3 rfl) ?_
      refine lv_iadd hx hb d_Q_returned_22 ?_
      refine lv_topi (fun v3 ev3 => ?_)
      have h := mb_at ev3 h
      refine lv_istore (lv' := [(4, .int v3), (0, .ref (X 2)), (1, .int x1), (2, .int x2), (3, .int x3)]) hx hb d_Q_returned_23 hl (by decide) rfl (fun ls hl => ?_)
      refine lv_aload_n hx hb d_Q_returned_25 rfl (lv_at hl 1 rfl) ?_
      refine va_get (ci := 2) (C := cnQ) (T := fTQ) (N := 6) hx hb hts uwQ hown hK hP 2 rfl rfl 0 (by decide) (hts _ wd_96) (fun _ h9 => h9) rfl d_Q_returned_26 ?_
      refine va_get (ci := 1) (C := cnP) (T := fTP) (N := 12) hx hb hts uwP hown hK hP 1 rfl rfl 0 (by decide) (hts _ wd_28) (fun _ h9 => h9) rfl d_Q_returned_29 ?_
      refine lv_iload hx hb d_Q_returned_32 (lv_at hl 0 rfl) ?_
      refine mb_iald hx hb hK hP 5 0 rfl rfl h d_Q_returned_34 (fun v4 h => ?_)
      refine lv_bipush (v := (10 : Int32)) hx hb d_Q_returned_35 (by decide) ?_
      refine lv_icmp_ne hx hb d_Q_returned_37 rfl (fun hc => ?_) (fun hc => ?_)
      · have h := mb_f hc h
        exact zQ_returned_b62 Cx hR hret (mQ_returned_l4  n) ih x1 x2 x3 s h ls H locs (lv_sub hl [1, 2, 3, 4] rfl) hP hS
      · have h := mb_t hc h
        refine lv_iload_n hx hb d_Q_returned_40 rfl (lv_at hl 3 rfl) ?_
        refine lv_aload_n hx hb d_Q_returned_41 rfl (lv_at hl 1 rfl) ?_
        refine va_get (ci := 2) (C := cnQ) (T := fTQ) (N := 6) hx hb hts uwQ hown hK hP 2 rfl rfl 1 (by decide) (hts _ wd_97) (fun _ h9 => h9) rfl d_Q_returned_42 ?_
        refine lv_iload_n hx hb d_Q_returned_45 rfl (lv_at hl 2 rfl) ?_
        refine lv_iconst (v := (4 : Int32)) hx hb d_Q_returned_46 (by decide) ?_
        refine lv_imul hx hb d_Q_returned_47 ?_
        refine lv_aload_n hx hb d_Q_returned_48 rfl (lv_at hl 1 rfl) ?_
        refine va_get (ci := 2) (C := cnQ) (T := fTQ) (N := 6) hx hb hts uwQ hown hK hP 2 rfl rfl 0 (by decide) (hts _ wd_96) (fun _ h9 => h9) rfl d_Q_returned_49 ?_
        refine va_get (ci := 1) (C := cnP) (T := fTP) (N := 12) hx hb hts uwP hown hK hP 1 rfl rfl 1 (by decide) (hts _ wd_32) (fun _ h9 => h9) rfl d_Q_returned_52 ?_
        refine lv_iload hx hb d_Q_returned_55 (lv_at hl 0 rfl) ?_
        refine mb_iald hx hb hK hP 6 0 rfl rfl h d_Q_returned_57 (fun v5 h => ?_)
        refine lv_iadd hx hb d_Q_returned_58 ?_
        refine mb_iald hx hb hK hP 16 0 rfl rfl h d_Q_returned_59 (fun v6 h => ?_)
        refine lv_ior hx hb d_Q_returned_60 ?_
        refine lv_topi (fun v7 ev7 => ?_)
        have h := mb_at ev7 h
        refine lv_istore_n (lv' := [(2, .int v7), (4, .int v3), (0, .ref (X 2)), (1, .int x1), (3, .int x3)]) hx hb d_Q_returned_61 rfl hl (by decide) rfl (fun ls hl => ?_)
        exact zQ_returned_b62 Cx hR hret (mQ_returned_l4  n) ih x1 v7 x3 s h ls H locs (lv_sub hl [2, 3, 0, 4] rfl) hP hS
set_option maxRecDepth 100000 in
set_option maxHeartbeats 4000000 in
theorem w_Q_returned (l : Launch) (D : va_G) (X : Nat → Nat) (cI cZ cJ : ClassId) {x1 : Int32} {s : mb_S} {rv : Int32} {rs : mb_S}
    (h : mQ_returned x1 s = some (rv, rs)) : mb_MI l y_Q_returned ws_Q_returned rm_Q_returned mb_ZX vwCl D [(cI, .int), (cZ, .boolean), (cJ, .long)] (WX X cI cZ cJ) [.ref (X 2), .int x1] s rv rs := by
  refine mb_ofI mb_ZXok (by decide) rfl (Nat.le_of_ble_eq_true rfl) mb_DXok ?_
  intro p e s0 m args below meth c Q A Cx hret
  have hR : 0 ≤ (rm_Q_returned).frames ∧ 0 ≤ (rm_Q_returned).locals := ⟨Nat.le_refl _, Nat.le_refl _⟩
  intro ls H locs hl hP hS
  have Cx0 := Cx
  obtain ⟨⟨hx, hb, hml, hown, hts⟩, hK, hD, hA, hZ⟩ := Cx0
  have hl : lv_has ls 5 [(0, .ref (X 2)), (1, .int x1)] := hl
  unfold mQ_returned at h
  refine lv_iconst (v := (0 : Int32)) hx hb d_Q_returned_0 (by decide) ?_
  refine lv_istore_n (lv' := [(2, .int (0 : Int32)), (0, .ref (X 2)), (1, .int x1)]) hx hb d_Q_returned_1 rfl hl (by decide) rfl (fun ls hl => ?_)
  refine lv_iconst (v := (0 : Int32)) hx hb d_Q_returned_2 (by decide) ?_
  refine lv_istore_n (lv' := [(3, .int (0 : Int32)), (2, .int (0 : Int32)), (0, .ref (X 2)), (1, .int x1)]) hx hb d_Q_returned_3 rfl hl (by decide) rfl (fun ls hl => ?_)
  exact zQ_returned_l4 Cx hR hret  mb_fuel x1 (0 : Int32) (0 : Int32) s h ls H locs (lv_sub hl [2, 3, 1, 0] rfl) hP hS
set_option maxRecDepth 100000 in
set_option maxHeartbeats 4000000 in
theorem zQ_followCall_b151 {p : Program} {l : Launch} {e : Env} {R : Room} {s0 : State} {m : MethodId} {args : Array Value} {below : List Frame} {meth : Method} {c : Code} {Q : State → Prop} {A : Nat → Prop} {D : va_G} {X : Nat → Nat} {cI cZ cJ : ClassId} {rv : Unit} {rs : mb_S}
    (Cx : mb_C p s0 m args meth c c_Q_followCall 8 lw_w cnQ mb_ZX vwCl D [(cI, .int), (cZ, .boolean), (cJ, .long)] A (WX X cI cZ cJ)) (hR : 2 ≤ R.frames ∧ 43 ≤ R.locals)
    (hret : mb_R p l e R s0 m args below meth c Q vwCl D A (WX X cI cZ cJ) c_Q_followCall .return_ [] rs) (k48 : Int32 → Int32 → Int32 → Int32 → Int32 → Int32 → mb_S → Option (Unit × mb_S)) (hk48 : ∀ (x1 : Int32) (x2 : Int32) (x3 : Int32) (x4 : Int32) (x5 : Int32) (x6 : Int32) (s : mb_S), k48 x1 x2 x3 x4 x5 x6 s = some (rv, rs) → mb_B p l e R s0 m args below meth c Q vwCl D A (WX X cI cZ cJ) 8 [(0, .ref (X 2)), (1, .int x1), (2, .int x2), (3, .int x3), (4, .int x4), (5, .int x5), (6, .int x6)] [] 48 s) (x1 : Int32) (x2 : Int32) (x3 : Int32) (x4 : Int32) (x5 : Int32) (x6 : Int32) (s : mb_S)
    (h : mQ_followCall_b151 k48 x1 x2 x3 x4 x5 x6 s = some (rv, rs)) : mb_B p l e R s0 m args below meth c Q vwCl D A (WX X cI cZ cJ) 8 [(0, .ref (X 2)), (1, .int x1), (2, .int x2), (3, .int x3), (4, .int x4), (5, .int x5), (6, .int x6)] [] 151 s := by
  unfold mQ_followCall_b151 at h
  intro ls H locs hl hP hS
  have Cx0 := Cx
  obtain ⟨⟨hx, hb, hml, hown, hts⟩, hK, hD, hA, hZ⟩ := Cx0
  obtain ⟨v1, ev1, h⟩ := mb_ex h
  refine lv_iinc (k := 6) (v := v1) (lv' := [(6, .int v1), (0, .ref (X 2)), (1, .int x1), (2, .int x2), (3, .int x3), (4, .int x4), (5, .int x5)]) hx hb d_Q_followCall_151 hl rfl ev1 (by decide) rfl (fun ls hl => ?_)
  refine lv_goto hx hb d_Q_followCall_154 rfl ?_
  exact hk48 x1 x2 x3 x4 x5 v1 s h ls H locs (lv_sub hl [1, 2, 3, 4, 5, 6, 0] rfl) hP hS
set_option maxRecDepth 100000 in
set_option maxHeartbeats 4000000 in
theorem zQ_followCall_b87 {p : Program} {l : Launch} {e : Env} {R : Room} {s0 : State} {m : MethodId} {args : Array Value} {below : List Frame} {meth : Method} {c : Code} {Q : State → Prop} {A : Nat → Prop} {D : va_G} {X : Nat → Nat} {cI cZ cJ : ClassId} {rv : Unit} {rs : mb_S}
    (Cx : mb_C p s0 m args meth c c_Q_followCall 8 lw_w cnQ mb_ZX vwCl D [(cI, .int), (cZ, .boolean), (cJ, .long)] A (WX X cI cZ cJ)) (hR : 2 ≤ R.frames ∧ 43 ≤ R.locals)
    (hret : mb_R p l e R s0 m args below meth c Q vwCl D A (WX X cI cZ cJ) c_Q_followCall .return_ [] rs) (k48 : Int32 → Int32 → Int32 → Int32 → Int32 → Int32 → mb_S → Option (Unit × mb_S)) (hk48 : ∀ (x1 : Int32) (x2 : Int32) (x3 : Int32) (x4 : Int32) (x5 : Int32) (x6 : Int32) (s : mb_S), k48 x1 x2 x3 x4 x5 x6 s = some (rv, rs) → mb_B p l e R s0 m args below meth c Q vwCl D A (WX X cI cZ cJ) 8 [(0, .ref (X 2)), (1, .int x1), (2, .int x2), (3, .int x3), (4, .int x4), (5, .int x5), (6, .int x6)] [] 48 s) (x1 : Int32) (x2 : Int32) (x3 : Int32) (x4 : Int32) (x5 : Int32) (x6 : Int32) (y0 : Int32) (s : mb_S)
    (h : mQ_followCall_b87 k48 x1 x2 x3 x4 x5 x6 y0 s = some (rv, rs)) : mb_B p l e R s0 m args below meth c Q vwCl D A (WX X cI cZ cJ) 8 [(0, .ref (X 2)), (1, .int x1), (2, .int x2), (3, .int x3), (4, .int x4), (5, .int x5), (6, .int x6)] [.int y0] 87 s := by
  unfold mQ_followCall_b87 at h
  intro ls H locs hl hP hS
  have Cx0 := Cx
  obtain ⟨⟨hx, hb, hml, hown, hts⟩, hK, hD, hA, hZ⟩ := Cx0
  refine lv_istore (lv' := [(7, .int y0), (0, .ref (X 2)), (1, .int x1), (2, .int x2), (3, .int x3), (4, .int x4), (5, .int x5), (6, .int x6)]) hx hb d_Q_followCall_87 hl (by decide) rfl (fun ls hl => ?_)
  refine lv_iload hx hb d_Q_followCall_89 (lv_at hl 0 rfl) ?_
  refine lv_iconst (v := (-1 : Int32)) hx hb d_Q_followCall_91 (by decide) ?_
  refine lv_icmp_eq hx hb d_Q_followCall_92 rfl (fun hc => ?_) (fun hc => ?_)
  · have h := mb_t hc h
    exact zQ_followCall_b151 Cx hR hret k48 hk48 x1 x2 x3 x4 x5 x6 s h ls H locs (lv_sub hl [1, 2, 3, 4, 5, 6, 7] rfl) hP hS
  · have h := mb_f hc h
    refine lv_aload_n hx hb d_Q_followCall_95 rfl (lv_at hl 1 rfl) ?_
    refine lv_iload_n hx hb d_Q_followCall_96 rfl (lv_at hl 3 rfl) ?_
    refine lv_iload hx hb d_Q_followCall_97 (lv_at hl 0 rfl) ?_
    obtain ⟨_u, s2, hs2, h⟩ := mb_cal_ex h
    refine mb_goV Cx (mb_runV (As := [.int x2, .int y0]) (rest := []) mb_ZXok Cx (w_Q_reach l D X cI cZ cJ hs2 H.size) (mb_cwV 2 hts wd_307 wd_309 sel_8 wd_4 wd_310 rfl rfl rfl (by decide +kernel) ⟨Nat.le_trans (by decide) hR.1, Nat.le_trans (by decide) hR.2⟩) hP hS 2 rfl rfl rfl hl.1 rfl (Nat.le_of_ble_eq_true rfl) d_Q_followCall_99) hS (fun H locs hP hS => ?_)
    refine lv_aload_n hx hb d_Q_followCall_102 rfl (lv_at hl 1 rfl) ?_
    refine lv_iload hx hb d_Q_followCall_103 (lv_at hl 0 rfl) ?_
    refine lv_iconst (v := (0 : Int32)) hx hb d_Q_followCall_105 (by decide) ?_
    refine lv_iconst (v := (1 : Int32)) hx hb d_Q_followCall_106 (by decide) ?_
    refine lv_iload hx hb d_Q_followCall_107 (lv_at hl 7 rfl) ?_
    refine lv_ishl hx hb d_Q_followCall_109 ?_
    obtain ⟨_u, s3, hs3, h⟩ := mb_cal_ex h
    refine mb_goV Cx (mb_runV (As := [.int y0, .int (0 : Int32), .int ((1 : Int32) <<< (x6 &&& 31))]) (rest := []) mb_ZXok Cx (w_Q_growLocal l D X cI cZ cJ hs3 H.size) (mb_cwV 3 hts wd_290 wd_292 sel_4 wd_4 wd_293 rfl rfl rfl (by decide +kernel) ⟨Nat.le_trans (by decide) hR.1, Nat.le_trans (by decide) hR.2⟩) hP hS 2 rfl rfl rfl hl.1 rfl (Nat.le_of_ble_eq_true rfl) d_Q_followCall_110) hS (fun H locs hP hS => ?_)
    refine lv_aload_n hx hb d_Q_followCall_113 rfl (lv_at hl 1 rfl) ?_
    refine lv_iload hx hb d_Q_followCall_114 (lv_at hl 0 rfl) ?_
    refine lv_iconst (v := (1 : Int32)) hx hb d_Q_followCall_116 (by decide) ?_
    refine lv_aload_n hx hb d_Q_followCall_117 rfl (lv_at hl 1 rfl) ?_
    refine va_get (ci := 2) (C := cnQ) (T := fTQ) (N := 6) hx hb hts uwQ hown hK hP 2 rfl rfl 1 (by decide) (hts _ wd_97) (fun _ h9 => h9) rfl d_Q_followCall_118 ?_
    refine lv_iload_n hx hb d_Q_followCall_121 rfl (lv_at hl 2 rfl) ?_
    refine lv_iconst (v := (4 : Int32)) hx hb d_Q_followCall_122 (by decide) ?_
    refine lv_imul hx hb d_Q_followCall_123 ?_
    refine lv_iload hx hb d_Q_followCall_124 (lv_at hl 5 rfl) ?_
    refine lv_iadd hx hb d_Q_followCall_126 ?_
    refine mb_iald hx hb hK hP 16 0 rfl rfl h d_Q_followCall_127 (fun v4 h => ?_)
    obtain ⟨_u, s5, hs5, h⟩ := mb_cal_ex h
    refine mb_goV Cx (mb_runV (As := [.int y0, .int (1 : Int32), .int v4]) (rest := []) mb_ZXok Cx (w_Q_growLocal l D X cI cZ cJ hs5 H.size) (mb_cwV 3 hts wd_290 wd_292 sel_4 wd_4 wd_293 rfl rfl rfl (by decide +kernel) ⟨Nat.le_trans (by decide) hR.1, Nat.le_trans (by decide) hR.2⟩) hP hS 2 rfl rfl rfl hl.1 rfl (Nat.le_of_ble_eq_true rfl) d_Q_followCall_128) hS (fun H locs hP hS => ?_)
    refine lv_aload_n hx hb d_Q_followCall_131 rfl (lv_at hl 1 rfl) ?_
    refine lv_iload_n hx hb d_Q_followCall_132 rfl (lv_at hl 2 rfl) ?_
    refine lv_aload_n hx hb d_Q_followCall_133 rfl (lv_at hl 1 rfl) ?_
    refine va_get (ci := 2) (C := cnQ) (T := fTQ) (N := 6) hx hb hts uwQ hown hK hP 2 rfl rfl 0 (by decide) (hts _ wd_96) (fun _ h9 => h9) rfl d_Q_followCall_134 ?_
    refine va_get (ci := 1) (C := cnP) (T := fTP) (N := 12) hx hb hts uwP hown hK hP 1 rfl rfl 1 (by decide) (hts _ wd_32) (fun _ h9 => h9) rfl d_Q_followCall_137 ?_
    refine lv_iload_n hx hb d_Q_followCall_140 rfl (lv_at hl 3 rfl) ?_
    refine mb_iald hx hb hK hP 6 0 rfl rfl h d_Q_followCall_141 (fun v6 h => ?_)
    refine lv_aload_n hx hb d_Q_followCall_142 rfl (lv_at hl 1 rfl) ?_
    refine lv_iload hx hb d_Q_followCall_143 (lv_at hl 0 rfl) ?_
    obtain ⟨v7, s8, hs8, h⟩ := mb_cal_ex h
    refine mb_goI Cx (mb_runV (As := [.int y0]) (rest := [.int v6, .int x1, .ref (X 2)]) mb_ZXok Cx (w_Q_returned l D X cI cZ cJ hs8 H.size) (mb_cwV 1 hts wd_311 wd_313 sel_9 wd_4 wd_314 rfl rfl rfl (by decide +kernel) ⟨Nat.le_trans (by decide) hR.1, Nat.le_trans (by decide) hR.2⟩) hP hS 2 rfl rfl rfl hl.1 rfl (Nat.le_of_ble_eq_true rfl) d_Q_followCall_145) hS (fun H locs hP hS => ?_)
    obtain ⟨_u, s9, hs9, h⟩ := mb_cal_ex h
    refine mb_goV Cx (mb_runV (As := [.int x1, .int v6, .int v7]) (rest := []) mb_ZXok Cx (w_Q_growLocal l D X cI cZ cJ hs9 H.size) (mb_cwV 3 hts wd_290 wd_292 sel_4 wd_4 wd_293 rfl rfl rfl (by decide +kernel) ⟨Nat.le_trans (by decide) hR.1, Nat.le_trans (by decide) hR.2⟩) hP hS 2 rfl rfl rfl hl.1 rfl (Nat.le_of_ble_eq_true rfl) d_Q_followCall_148) hS (fun H locs hP hS => ?_)
    exact zQ_followCall_b151 Cx hR hret k48 hk48 x1 x2 x3 x4 x5 x6 s9 h ls H locs (lv_sub hl [1, 2, 3, 4, 5, 6, 7] rfl) hP hS
set_option maxRecDepth 100000 in
set_option maxHeartbeats 4000000 in
theorem zQ_followCall_l48 {p : Program} {l : Launch} {e : Env} {R : Room} {s0 : State} {m : MethodId} {args : Array Value} {below : List Frame} {meth : Method} {c : Code} {Q : State → Prop} {A : Nat → Prop} {D : va_G} {X : Nat → Nat} {cI cZ cJ : ClassId} {rv : Unit} {rs : mb_S}
    (Cx : mb_C p s0 m args meth c c_Q_followCall 8 lw_w cnQ mb_ZX vwCl D [(cI, .int), (cZ, .boolean), (cJ, .long)] A (WX X cI cZ cJ)) (hR : 2 ≤ R.frames ∧ 43 ≤ R.locals)
    (hret : mb_R p l e R s0 m args below meth c Q vwCl D A (WX X cI cZ cJ) c_Q_followCall .return_ [] rs)  :
    ∀ (n : Nat) (x1 : Int32) (x2 : Int32) (x3 : Int32) (x4 : Int32) (x5 : Int32) (x6 : Int32) (s : mb_S), mQ_followCall_l48  n x1 x2 x3 x4 x5 x6 s = some (rv, rs) → mb_B p l e R s0 m args below meth c Q vwCl D A (WX X cI cZ cJ) 8 [(0, .ref (X 2)), (1, .int x1), (2, .int x2), (3, .int x3), (4, .int x4), (5, .int x5), (6, .int x6)] [] 48 s := by
  intro n
  induction n with
  | zero => intro x1 x2 x3 x4 x5 x6 s h; cases h
  | succ n ih =>
    intro x1 x2 x3 x4 x5 x6 s h
    rw [mQ_followCall_l48_s] at h
    intro ls H locs hl hP hS
    have Cx0 := Cx
    obtain ⟨⟨hx, hb, hml, hown, hts⟩, hK, hD, hA, hZ⟩ := Cx0
    refine lv_iload hx hb d_Q_followCall_48 (lv_at hl 6 rfl) ?_
    refine lv_bipush (v := (6 : Int32)) hx hb d_Q_followCall_50 (by decide) ?_
    refine lv_icmp_ge hx hb d_Q_followCall_52 rfl (fun hc => ?_) (fun hc => ?_)
    · have h := mb_t hc h
      exact mb_eV hret h d_Q_followCall_157 hP hS
    · have h := mb_f hc h
      refine lv_iload hx hb d_Q_followCall_55 (lv_at hl 5 rfl) ?_
      refine lv_iload hx hb d_Q_followCall_57 (lv_at hl 6 rfl) ?_
      obtain ⟨v10, hv10, h⟩ := mb_cal0_ex h
      refine mb_go0I (st := s) Cx (mb_runSN0 (As := [.int x5, .int x6]) (rest := []) Cx (w_X_has l D hv10 H.size) (mb_cn 2 hts wd_283 wd_284 wd_1 wd_285 rfl rfl rfl (by decide +kernel) ⟨Nat.le_trans (by decide) hR.1, Nat.le_trans (by decide) hR.2⟩) rfl hl.1 rfl (Nat.le_of_ble_eq_true rfl) d_Q_followCall_59) hP hS (fun H locs hP hS => ?_)
      refine lv_if_eq hx hb d_Q_followCall_62 rfl (fun hc => ?_) (fun hc => ?_)
      · have h := mb_t hc h
        refine lv_iconst (v := (-1 : Int32)) hx hb d_Q_followCall_86 (by decide) ?_
        exact zQ_followCall_b87 Cx hR hret (mQ_followCall_l48  n) ih x1 x2 x3 x4 x5 x6 (-1 : Int32) s h ls H locs (lv_sub hl [0, 1, 2, 3, 4, 5, 6] rfl) hP hS
      · have h := mb_f hc h
        refine lv_aload_n hx hb d_Q_followCall_65 rfl (lv_at hl 0 rfl) ?_
        refine va_get (ci := 2) (C := cnQ) (T := fTQ) (N := 6) hx hb hts uwQ hown hK hP 2 rfl rfl 0 (by decide) (hts _ wd_96) (fun _ h9 => h9) rfl d_Q_followCall_66 ?_
        refine lv_aload_n hx hb d_Q_followCall_69 rfl (lv_at hl 0 rfl) ?_
        refine va_get (ci := 2) (C := cnQ) (T := fTQ) (N := 6) hx hb hts uwQ hown hK hP 2 rfl rfl 0 (by decide) (hts _ wd_96) (fun _ h9 => h9) rfl d_Q_followCall_70 ?_
        refine va_get (ci := 1) (C := cnP) (T := fTP) (N := 12) hx hb hts uwP hown hK hP 1 rfl rfl 7 (by decide) (hts _ wd_56) (fun _ h9 => h9) rfl d_Q_followCall_73 ?_
        refine lv_iload hx hb d_Q_followCall_76 (lv_at hl 6 rfl) ?_
        refine mb_iald hx hb hK hP 12 0 rfl rfl h d_Q_followCall_78 (fun v11 h => ?_)
        refine lv_iload_n hx hb d_Q_followCall_79 rfl (lv_at hl 3 rfl) ?_
        obtain ⟨v12, s13, hs13, h⟩ := mb_cal_ex h
        refine mb_goI Cx (mb_runV (As := [.int v11, .int x3]) (rest := []) mb_ZXok Cx (w_P_targetOf l D X cI cZ cJ hs13 H.size) (mb_cwV 2 hts wd_306 wd_262 wd_263 wd_2 wd_264 rfl rfl rfl (by decide +kernel) ⟨Nat.le_trans (by decide) hR.1, Nat.le_trans (by decide) hR.2⟩) hP hS 1 rfl rfl rfl hl.1 rfl (Nat.le_of_ble_eq_true rfl) d_Q_followCall_80) hS (fun H locs hP hS => ?_)
        refine lv_goto hx hb d_Q_followCall_83 rfl ?_
        exact zQ_followCall_b87 Cx hR hret (mQ_followCall_l48  n) ih x1 x2 x3 x4 x5 x6 v12 s13 h ls H locs (lv_sub hl [0, 1, 2, 3, 4, 5, 6] rfl) hP hS
set_option maxRecDepth 100000 in
set_option maxHeartbeats 4000000 in
theorem w_Q_followCall (l : Launch) (D : va_G) (X : Nat → Nat) (cI cZ cJ : ClassId) {x1 : Int32} {x2 : Int32} {s : mb_S} {rv : Unit} {rs : mb_S}
    (h : mQ_followCall x1 x2 s = some (rv, rs)) : mb_MV l y_Q_followCall ws_Q_followCall rm_Q_followCall mb_ZX vwCl D [(cI, .int), (cZ, .boolean), (cJ, .long)] (WX X cI cZ cJ) [.ref (X 2), .int x1, .int x2] s rs := by
  refine mb_ofV mb_ZXok (by decide) rfl (Nat.le_of_ble_eq_true rfl) mb_DXok ?_
  intro p e s0 m args below meth c Q A Cx hret
  have hR : 2 ≤ (rm_Q_followCall).frames ∧ 43 ≤ (rm_Q_followCall).locals := ⟨Nat.le_refl _, Nat.le_refl _⟩
  intro ls H locs hl hP hS
  have Cx0 := Cx
  obtain ⟨⟨hx, hb, hml, hown, hts⟩, hK, hD, hA, hZ⟩ := Cx0
  have hl : lv_has ls 8 [(0, .ref (X 2)), (1, .int x1), (2, .int x2)] := hl
  unfold mQ_followCall at h
  refine lv_aload_n hx hb d_Q_followCall_0 rfl (lv_at hl 0 rfl) ?_
  refine va_get (ci := 2) (C := cnQ) (T := fTQ) (N := 6) hx hb hts uwQ hown hK hP 2 rfl rfl 0 (by decide) (hts _ wd_96) (fun _ h9 => h9) rfl d_Q_followCall_1 ?_
  refine va_get (ci := 1) (C := cnP) (T := fTP) (N := 12) hx hb hts uwP hown hK hP 1 rfl rfl 3 (by decide) (hts _ wd_41) (fun _ h9 => h9) rfl d_Q_followCall_4 ?_
  refine lv_iload_n hx hb d_Q_followCall_7 rfl (lv_at hl 2 rfl) ?_
  refine mb_iald hx hb hK hP 8 0 rfl rfl h d_Q_followCall_8 (fun v14 h => ?_)
  refine lv_iconst (v := (4 : Int32)) hx hb d_Q_followCall_9 (by decide) ?_
  refine lv_idiv hx hb d_Q_followCall_10 (by decide) ?_
  refine lv_topi (fun v15 ev15 => ?_)
  have h := mb_at ev15 h
  refine lv_istore_n (lv' := [(3, .int v15), (0, .ref (X 2)), (1, .int x1), (2, .int x2)]) hx hb d_Q_followCall_11 rfl hl (by decide) rfl (fun ls hl => ?_)
  refine lv_aload_n hx hb d_Q_followCall_12 rfl (lv_at hl 1 rfl) ?_
  refine va_get (ci := 2) (C := cnQ) (T := fTQ) (N := 6) hx hb hts uwQ hown hK hP 2 rfl rfl 0 (by decide) (hts _ wd_96) (fun _ h9 => h9) rfl d_Q_followCall_13 ?_
  refine va_get (ci := 1) (C := cnP) (T := fTP) (N := 12) hx hb hts uwP hown hK hP 1 rfl rfl 3 (by decide) (hts _ wd_41) (fun _ h9 => h9) rfl d_Q_followCall_16 ?_
  refine lv_iload_n hx hb d_Q_followCall_19 rfl (lv_at hl 3 rfl) ?_
  refine mb_iald hx hb hK hP 8 0 rfl rfl h d_Q_followCall_20 (fun v16 h => ?_)
  refine lv_iconst (v := (4 : Int32)) hx hb d_Q_followCall_21 (by decide) ?_
  refine lv_irem hx hb d_Q_followCall_22 (by decide) ?_
  refine lv_topi (fun v17 ev17 => ?_)
  have h := mb_at ev17 h
  refine lv_istore (lv' := [(4, .int v17), (3, .int v15), (0, .ref (X 2)), (1, .int x1), (2, .int x2)]) hx hb d_Q_followCall_23 hl (by decide) rfl (fun ls hl => ?_)
  refine lv_aload_n hx hb d_Q_followCall_25 rfl (lv_at hl 2 rfl) ?_
  refine va_get (ci := 2) (C := cnQ) (T := fTQ) (N := 6) hx hb hts uwQ hown hK hP 2 rfl rfl 1 (by decide) (hts _ wd_97) (fun _ h9 => h9) rfl d_Q_followCall_26 ?_
  refine lv_iload_n hx hb d_Q_followCall_29 rfl (lv_at hl 3 rfl) ?_
  refine lv_iconst (v := (4 : Int32)) hx hb d_Q_followCall_30 (by decide) ?_
  refine lv_imul hx hb d_Q_followCall_31 ?_
  refine lv_aload_n hx hb d_Q_followCall_32 rfl (lv_at hl 2 rfl) ?_
  refine va_get (ci := 2) (C := cnQ) (T := fTQ) (N := 6) hx hb hts uwQ hown hK hP 2 rfl rfl 0 (by decide) (hts _ wd_96) (fun _ h9 => h9) rfl d_Q_followCall_33 ?_
  refine va_get (ci := 1) (C := cnP) (T := fTP) (N := 12) hx hb hts uwP hown hK hP 1 rfl rfl 2 (by decide) (hts _ wd_37) (fun _ h9 => h9) rfl d_Q_followCall_36 ?_
  refine lv_iload_n hx hb d_Q_followCall_39 rfl (lv_at hl 4 rfl) ?_
  refine mb_iald hx hb hK hP 7 0 rfl rfl h d_Q_followCall_40 (fun v18 h => ?_)
  refine lv_iadd hx hb d_Q_followCall_41 ?_
  refine mb_iald hx hb hK hP 16 0 rfl rfl h d_Q_followCall_42 (fun v19 h => ?_)
  refine lv_istore (lv' := [(5, .int v19), (4, .int v17), (3, .int v15), (0, .ref (X 2)), (1, .int x1), (2, .int x2)]) hx hb d_Q_followCall_43 hl (by decide) rfl (fun ls hl => ?_)
  refine lv_iconst (v := (0 : Int32)) hx hb d_Q_followCall_45 (by decide) ?_
  refine lv_istore (lv' := [(6, .int (0 : Int32)), (5, .int v19), (4, .int v17), (3, .int v15), (0, .ref (X 2)), (1, .int x1), (2, .int x2)]) hx hb d_Q_followCall_46 hl (by decide) rfl (fun ls hl => ?_)
  exact zQ_followCall_l48 Cx hR hret  mb_fuel x1 x2 v15 v17 v19 (0 : Int32) s h ls H locs (lv_sub hl [4, 5, 6, 3, 2, 1, 0] rfl) hP hS
set_option maxRecDepth 100000 in
set_option maxHeartbeats 4000000 in
theorem zQ_follow_b193 {p : Program} {l : Launch} {e : Env} {R : Room} {s0 : State} {m : MethodId} {args : Array Value} {below : List Frame} {meth : Method} {c : Code} {Q : State → Prop} {A : Nat → Prop} {D : va_G} {X : Nat → Nat} {cI cZ cJ : ClassId} {rv : Unit} {rs : mb_S}
    (Cx : mb_C p s0 m args meth c c_Q_follow 6 lw_w cnQ mb_ZX vwCl D [(cI, .int), (cZ, .boolean), (cJ, .long)] A (WX X cI cZ cJ)) (hR : 3 ≤ R.frames ∧ 70 ≤ R.locals)
    (hret : mb_R p l e R s0 m args below meth c Q vwCl D A (WX X cI cZ cJ) c_Q_follow .return_ [] rs)   (s : mb_S)
    (h : mQ_follow_b193  s = some (rv, rs)) : mb_B p l e R s0 m args below meth c Q vwCl D A (WX X cI cZ cJ) 6 [] [] 193 s := by
  unfold mQ_follow_b193 at h
  intro ls H locs hl hP hS
  have Cx0 := Cx
  obtain ⟨⟨hx, hb, hml, hown, hts⟩, hK, hD, hA, hZ⟩ := Cx0
  exact mb_eV hret h d_Q_follow_193 hP hS
set_option maxRecDepth 100000 in
set_option maxHeartbeats 4000000 in
theorem w_Q_follow (l : Launch) (D : va_G) (X : Nat → Nat) (cI cZ cJ : ClassId) {x1 : Int32} {x2 : Int32} {s : mb_S} {rv : Unit} {rs : mb_S}
    (h : mQ_follow x1 x2 s = some (rv, rs)) : mb_MV l y_Q_follow ws_Q_follow rm_Q_follow mb_ZX vwCl D [(cI, .int), (cZ, .boolean), (cJ, .long)] (WX X cI cZ cJ) [.ref (X 2), .int x1, .int x2] s rs := by
  refine mb_ofV mb_ZXok (by decide) rfl (Nat.le_of_ble_eq_true rfl) mb_DXok ?_
  intro p e s0 m args below meth c Q A Cx hret
  have hR : 3 ≤ (rm_Q_follow).frames ∧ 70 ≤ (rm_Q_follow).locals := ⟨Nat.le_refl _, Nat.le_refl _⟩
  intro ls H locs hl hP hS
  have Cx0 := Cx
  obtain ⟨⟨hx, hb, hml, hown, hts⟩, hK, hD, hA, hZ⟩ := Cx0
  have hl : lv_has ls 6 [(0, .ref (X 2)), (1, .int x1), (2, .int x2)] := hl
  unfold mQ_follow at h
  refine lv_aload_n hx hb d_Q_follow_0 rfl (lv_at hl 0 rfl) ?_
  refine va_get (ci := 2) (C := cnQ) (T := fTQ) (N := 6) hx hb hts uwQ hown hK hP 2 rfl rfl 0 (by decide) (hts _ wd_96) (fun _ h9 => h9) rfl d_Q_follow_1 ?_
  refine va_get (ci := 1) (C := cnP) (T := fTP) (N := 12) hx hb hts uwP hown hK hP 1 rfl rfl 1 (by decide) (hts _ wd_32) (fun _ h9 => h9) rfl d_Q_follow_4 ?_
  refine lv_iload_n hx hb d_Q_follow_7 rfl (lv_at hl 2 rfl) ?_
  refine mb_iald hx hb hK hP 6 0 rfl rfl h d_Q_follow_8 (fun v1 h => ?_)
  refine lv_istore_n (lv' := [(3, .int v1), (0, .ref (X 2)), (1, .int x1), (2, .int x2)]) hx hb d_Q_follow_9 rfl hl (by decide) rfl (fun ls hl => ?_)
  refine lv_aload_n hx hb d_Q_follow_10 rfl (lv_at hl 1 rfl) ?_
  refine va_get (ci := 2) (C := cnQ) (T := fTQ) (N := 6) hx hb hts uwQ hown hK hP 2 rfl rfl 0 (by decide) (hts _ wd_96) (fun _ h9 => h9) rfl d_Q_follow_11 ?_
  refine va_get (ci := 1) (C := cnP) (T := fTP) (N := 12) hx hb hts uwP hown hK hP 1 rfl rfl 2 (by decide) (hts _ wd_37) (fun _ h9 => h9) rfl d_Q_follow_14 ?_
  refine lv_iload_n hx hb d_Q_follow_17 rfl (lv_at hl 3 rfl) ?_
  refine mb_iald hx hb hK hP 7 0 rfl rfl h d_Q_follow_18 (fun v2 h => ?_)
  refine lv_istore (lv' := [(4, .int v2), (3, .int v1), (0, .ref (X 2)), (1, .int x1), (2, .int x2)]) hx hb d_Q_follow_19 hl (by decide) rfl (fun ls hl => ?_)
  refine lv_aload_n hx hb d_Q_follow_21 rfl (lv_at hl 2 rfl) ?_
  refine va_get (ci := 2) (C := cnQ) (T := fTQ) (N := 6) hx hb hts uwQ hown hK hP 2 rfl rfl 0 (by decide) (hts _ wd_96) (fun _ h9 => h9) rfl d_Q_follow_22 ?_
  refine va_get (ci := 1) (C := cnP) (T := fTP) (N := 12) hx hb hts uwP hown hK hP 1 rfl rfl 3 (by decide) (hts _ wd_41) (fun _ h9 => h9) rfl d_Q_follow_25 ?_
  refine lv_iload_n hx hb d_Q_follow_28 rfl (lv_at hl 4 rfl) ?_
  refine mb_iald hx hb hK hP 8 0 rfl rfl h d_Q_follow_29 (fun v3 h => ?_)
  refine lv_istore (lv' := [(5, .int v3), (4, .int v2), (3, .int v1), (0, .ref (X 2)), (1, .int x1), (2, .int x2)]) hx hb d_Q_follow_30 hl (by decide) rfl (fun ls hl => ?_)
  refine lv_aload_n hx hb d_Q_follow_32 rfl (lv_at hl 3 rfl) ?_
  refine va_get (ci := 2) (C := cnQ) (T := fTQ) (N := 6) hx hb hts uwQ hown hK hP 2 rfl rfl 0 (by decide) (hts _ wd_96) (fun _ h9 => h9) rfl d_Q_follow_33 ?_
  refine va_get (ci := 1) (C := cnP) (T := fTP) (N := 12) hx hb hts uwP hown hK hP 1 rfl rfl 0 (by decide) (hts _ wd_28) (fun _ h9 => h9) rfl d_Q_follow_36 ?_
  refine lv_iload_n hx hb d_Q_follow_39 rfl (lv_at hl 5 rfl) ?_
  refine mb_iald hx hb hK hP 5 0 rfl rfl h d_Q_follow_40 (fun v4 h => ?_)
  by_cases hc0 : v4 = (0 : Int32)
  · have h := mb_t hc0 h
    refine lv_tableIn (tgt := 88) hx hb d_Q_follow_41 (by rw [hc0]; decide) (by rw [hc0]; decide) (by rw [hc0]; rfl) rfl ?_
    refine lv_aload_n hx hb d_Q_follow_88 rfl (lv_at hl 3 rfl) ?_
    refine lv_iload_n hx hb d_Q_follow_89 rfl (lv_at hl 4 rfl) ?_
    refine lv_iload_n hx hb d_Q_follow_90 rfl (lv_at hl 2 rfl) ?_
    refine lv_iconst (v := (1 : Int32)) hx hb d_Q_follow_91 (by decide) ?_
    refine lv_aload_n hx hb d_Q_follow_92 rfl (lv_at hl 3 rfl) ?_
    refine va_get (ci := 2) (C := cnQ) (T := fTQ) (N := 6) hx hb hts uwQ hown hK hP 2 rfl rfl 0 (by decide) (hts _ wd_96) (fun _ h9 => h9) rfl d_Q_follow_93 ?_
    refine va_get (ci := 1) (C := cnP) (T := fTP) (N := 12) hx hb hts uwP hown hK hP 1 rfl rfl 4 (by decide) (hts _ wd_45) (fun _ h9 => h9) rfl d_Q_follow_96 ?_
    refine lv_iload_n hx hb d_Q_follow_99 rfl (lv_at hl 5 rfl) ?_
    refine mb_iald hx hb hK hP 9 0 rfl rfl h d_Q_follow_100 (fun v5 h => ?_)
    refine lv_ishl hx hb d_Q_follow_101 ?_
    obtain ⟨_u, s6, hs6, h⟩ := mb_cal_ex h
    refine mb_goV Cx (mb_runV (As := [.int x1, .int v1, .int ((1 : Int32) <<< (v5 &&& 31))]) (rest := []) mb_ZXok Cx (w_Q_growLocal l D X cI cZ cJ hs6 H.size) (mb_cwV 3 hts wd_290 wd_292 sel_4 wd_4 wd_293 rfl rfl rfl (by decide +kernel) ⟨Nat.le_trans (by decide) hR.1, Nat.le_trans (by decide) hR.2⟩) hP hS 2 rfl rfl rfl hl.1 rfl (Nat.le_of_ble_eq_true rfl) d_Q_follow_102) hS (fun H locs hP hS => ?_)
    refine lv_goto hx hb d_Q_follow_105 rfl ?_
    exact zQ_follow_b193 Cx hR hret  s6 h ls H locs (lv_sub hl [] rfl) hP hS
  have h := mb_f hc0 h
  by_cases hc4 : v4 = (4 : Int32)
  · have h := mb_t hc4 h
    refine lv_tableIn (tgt := 108) hx hb d_Q_follow_41 (by rw [hc4]; decide) (by rw [hc4]; decide) (by rw [hc4]; rfl) rfl ?_
    refine lv_aload_n hx hb d_Q_follow_108 rfl (lv_at hl 3 rfl) ?_
    refine lv_iload_n hx hb d_Q_follow_109 rfl (lv_at hl 4 rfl) ?_
    refine lv_iload_n hx hb d_Q_follow_110 rfl (lv_at hl 2 rfl) ?_
    refine lv_aload_n hx hb d_Q_follow_111 rfl (lv_at hl 3 rfl) ?_
    refine va_get (ci := 2) (C := cnQ) (T := fTQ) (N := 6) hx hb hts uwQ hown hK hP 2 rfl rfl 1 (by decide) (hts _ wd_97) (fun _ h9 => h9) rfl d_Q_follow_112 ?_
    refine lv_iload_n hx hb d_Q_follow_115 rfl (lv_at hl 4 rfl) ?_
    refine lv_iconst (v := (4 : Int32)) hx hb d_Q_follow_116 (by decide) ?_
    refine lv_imul hx hb d_Q_follow_117 ?_
    refine lv_iload hx hb d_Q_follow_118 (lv_at hl 1 rfl) ?_
    refine lv_iadd hx hb d_Q_follow_120 ?_
    refine mb_iald hx hb hK hP 16 0 rfl rfl h d_Q_follow_121 (fun v7 h => ?_)
    obtain ⟨_u, s8, hs8, h⟩ := mb_cal_ex h
    refine mb_goV Cx (mb_runV (As := [.int x1, .int v1, .int v7]) (rest := []) mb_ZXok Cx (w_Q_growLocal l D X cI cZ cJ hs8 H.size) (mb_cwV 3 hts wd_290 wd_292 sel_4 wd_4 wd_293 rfl rfl rfl (by decide +kernel) ⟨Nat.le_trans (by decide) hR.1, Nat.le_trans (by decide) hR.2⟩) hP hS 2 rfl rfl rfl hl.1 rfl (Nat.le_of_ble_eq_true rfl) d_Q_follow_122) hS (fun H locs hP hS => ?_)
    refine lv_goto hx hb d_Q_follow_125 rfl ?_
    exact zQ_follow_b193 Cx hR hret  s8 h ls H locs (lv_sub hl [] rfl) hP hS
  have h := mb_f hc4 h
  by_cases hc5 : v4 = (5 : Int32)
  · have h := mb_t hc5 h
    refine lv_tableIn (tgt := 128) hx hb d_Q_follow_41 (by rw [hc5]; decide) (by rw [hc5]; decide) (by rw [hc5]; rfl) rfl ?_
    refine lv_aload_n hx hb d_Q_follow_128 rfl (lv_at hl 3 rfl) ?_
    refine lv_iload_n hx hb d_Q_follow_129 rfl (lv_at hl 4 rfl) ?_
    refine lv_iload_n hx hb d_Q_follow_130 rfl (lv_at hl 2 rfl) ?_
    refine lv_aload_n hx hb d_Q_follow_131 rfl (lv_at hl 3 rfl) ?_
    refine lv_aload_n hx hb d_Q_follow_132 rfl (lv_at hl 3 rfl) ?_
    refine va_get (ci := 2) (C := cnQ) (T := fTQ) (N := 6) hx hb hts uwQ hown hK hP 2 rfl rfl 1 (by decide) (hts _ wd_97) (fun _ h9 => h9) rfl d_Q_follow_133 ?_
    refine lv_iload_n hx hb d_Q_follow_136 rfl (lv_at hl 4 rfl) ?_
    refine lv_iconst (v := (4 : Int32)) hx hb d_Q_follow_137 (by decide) ?_
    refine lv_imul hx hb d_Q_follow_138 ?_
    refine lv_iload hx hb d_Q_follow_139 (lv_at hl 1 rfl) ?_
    refine lv_iadd hx hb d_Q_follow_141 ?_
    refine mb_iald hx hb hK hP 16 0 rfl rfl h d_Q_follow_142 (fun v9 h => ?_)
    refine lv_iload hx hb d_Q_follow_143 (lv_at hl 0 rfl) ?_
    obtain ⟨v10, s11, hs11, h⟩ := mb_cal_ex h
    refine mb_goI Cx (mb_runV (As := [.int v9, .int v3]) (rest := [.int v1, .int x1, .ref (X 2)]) mb_ZXok Cx (w_Q_fieldOfAll l D X cI cZ cJ hs11 H.size) (mb_cwV 2 hts wd_294 wd_296 sel_5 wd_4 wd_297 rfl rfl rfl (by decide +kernel) ⟨Nat.le_trans (by decide) hR.1, Nat.le_trans (by decide) hR.2⟩) hP hS 2 rfl rfl rfl hl.1 rfl (Nat.le_of_ble_eq_true rfl) d_Q_follow_145) hS (fun H locs hP hS => ?_)
    obtain ⟨_u, s12, hs12, h⟩ := mb_cal_ex h
    refine mb_goV Cx (mb_runV (As := [.int x1, .int v1, .int v10]) (rest := []) mb_ZXok Cx (w_Q_growLocal l D X cI cZ cJ hs12 H.size) (mb_cwV 3 hts wd_290 wd_292 sel_4 wd_4 wd_293 rfl rfl rfl (by decide +kernel) ⟨Nat.le_trans (by decide) hR.1, Nat.le_trans (by decide) hR.2⟩) hP hS 2 rfl rfl rfl hl.1 rfl (Nat.le_of_ble_eq_true rfl) d_Q_follow_148) hS (fun H locs hP hS => ?_)
    refine lv_goto hx hb d_Q_follow_151 rfl ?_
    exact zQ_follow_b193 Cx hR hret  s12 h ls H locs (lv_sub hl [] rfl) hP hS
  have h := mb_f hc5 h
  by_cases hc6 : v4 = (6 : Int32)
  · have h := mb_t hc6 h
    refine lv_tableIn (tgt := 154) hx hb d_Q_follow_41 (by rw [hc6]; decide) (by rw [hc6]; decide) (by rw [hc6]; rfl) rfl ?_
    refine lv_aload_n hx hb d_Q_follow_154 rfl (lv_at hl 3 rfl) ?_
    refine lv_aload_n hx hb d_Q_follow_155 rfl (lv_at hl 3 rfl) ?_
    refine va_get (ci := 2) (C := cnQ) (T := fTQ) (N := 6) hx hb hts uwQ hown hK hP 2 rfl rfl 1 (by decide) (hts _ wd_97) (fun _ h9 => h9) rfl d_Q_follow_156 ?_
    refine lv_iload_n hx hb d_Q_follow_159 rfl (lv_at hl 4 rfl) ?_
    refine lv_iconst (v := (4 : Int32)) hx hb d_Q_follow_160 (by decide) ?_
    refine lv_imul hx hb d_Q_follow_161 ?_
    refine lv_iload_n hx hb d_Q_follow_162 rfl (lv_at hl 2 rfl) ?_
    refine lv_iadd hx hb d_Q_follow_163 ?_
    refine mb_iald hx hb hK hP 16 0 rfl rfl h d_Q_follow_164 (fun v13 h => ?_)
    refine lv_iload hx hb d_Q_follow_165 (lv_at hl 0 rfl) ?_
    refine lv_aload_n hx hb d_Q_follow_167 rfl (lv_at hl 3 rfl) ?_
    refine va_get (ci := 2) (C := cnQ) (T := fTQ) (N := 6) hx hb hts uwQ hown hK hP 2 rfl rfl 1 (by decide) (hts _ wd_97) (fun _ h9 => h9) rfl d_Q_follow_168 ?_
    refine lv_iload_n hx hb d_Q_follow_171 rfl (lv_at hl 4 rfl) ?_
    refine lv_iconst (v := (4 : Int32)) hx hb d_Q_follow_172 (by decide) ?_
    refine lv_imul hx hb d_Q_follow_173 ?_
    refine lv_iload hx hb d_Q_follow_174 (lv_at hl 1 rfl) ?_
    refine lv_iadd hx hb d_Q_follow_176 ?_
    refine mb_iald hx hb hK hP 16 0 rfl rfl h d_Q_follow_177 (fun v14 h => ?_)
    obtain ⟨_u, s15, hs15, h⟩ := mb_cal_ex h
    refine mb_goV Cx (mb_runV (As := [.int v13, .int v3, .int v14]) (rest := []) mb_ZXok Cx (w_Q_growFields l D X cI cZ cJ hs15 H.size) (mb_cwV 3 hts wd_298 wd_300 sel_6 wd_4 wd_301 rfl rfl rfl (by decide +kernel) ⟨Nat.le_trans (by decide) hR.1, Nat.le_trans (by decide) hR.2⟩) hP hS 2 rfl rfl rfl hl.1 rfl (Nat.le_of_ble_eq_true rfl) d_Q_follow_178) hS (fun H locs hP hS => ?_)
    refine lv_goto hx hb d_Q_follow_181 rfl ?_
    exact zQ_follow_b193 Cx hR hret  s15 h ls H locs (lv_sub hl [] rfl) hP hS
  have h := mb_f hc6 h
  by_cases hc7 : v4 = (7 : Int32)
  · have h := mb_t hc7 h
    refine lv_tableIn (tgt := 184) hx hb d_Q_follow_41 (by rw [hc7]; decide) (by rw [hc7]; decide) (by rw [hc7]; rfl) rfl ?_
    refine lv_aload_n hx hb d_Q_follow_184 rfl (lv_at hl 3 rfl) ?_
    refine lv_iload_n hx hb d_Q_follow_185 rfl (lv_at hl 4 rfl) ?_
    refine lv_iload_n hx hb d_Q_follow_186 rfl (lv_at hl 5 rfl) ?_
    obtain ⟨_u, s16, hs16, h⟩ := mb_cal_ex h
    refine mb_goV Cx (mb_runV (As := [.int x1, .int x2]) (rest := []) mb_ZXok Cx (w_Q_followCall l D X cI cZ cJ hs16 H.size) (mb_cwV 2 hts wd_302 wd_304 sel_7 wd_4 wd_305 rfl rfl rfl (by decide +kernel) ⟨Nat.le_trans (by decide) hR.1, Nat.le_trans (by decide) hR.2⟩) hP hS 2 rfl rfl rfl hl.1 rfl (Nat.le_of_ble_eq_true rfl) d_Q_follow_187) hS (fun H locs hP hS => ?_)
    refine lv_goto hx hb d_Q_follow_190 rfl ?_
    exact zQ_follow_b193 Cx hR hret  s16 h ls H locs (lv_sub hl [] rfl) hP hS
  have h := mb_f hc7 h
  have hn0 : ¬ Int32.toInt v4 = 0 := lv_neT hc0 (by decide)
  have hn4 : ¬ Int32.toInt v4 = 4 := lv_neT hc4 (by decide)
  have hn5 : ¬ Int32.toInt v4 = 5 := lv_neT hc5 (by decide)
  have hn6 : ¬ Int32.toInt v4 = 6 := lv_neT hc6 (by decide)
  have hn7 : ¬ Int32.toInt v4 = 7 := lv_neT hc7 (by decide)
  refine mb_tabD (tgt := 193) hx hb d_Q_follow_41 (fun h1 h2 => by rcases (show Int32.toInt v4 = 1 ∨ Int32.toInt v4 = 2 ∨ Int32.toInt v4 = 3 by omega) with q | q | q <;> (rw [q]; rfl)) rfl ?_
  exact zQ_follow_b193 Cx hR hret  s h ls H locs (lv_sub hl [] rfl) hP hS
