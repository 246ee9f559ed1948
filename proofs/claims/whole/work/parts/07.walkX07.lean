set_option maxRecDepth 100000 in
set_option maxHeartbeats 4000000 in
theorem w_X_run (l : Launch) (D : va_G) (X : Nat → Nat) (cI cZ cJ : ClassId) {x1 : Int32} {x2 : Int32} {s : mb_S} {rv : Int32} {rs : mb_S}
    (h : mX_run x1 x2 s = some (rv, rs)) : mb_MI l y_X_run ws_X_run rm_X_run mb_ZX vwCl D [(cI, .int), (cZ, .boolean), (cJ, .long)] (WX X cI cZ cJ) [.ref (X 0), .int x1, .int x2] s rv rs := by
  refine mb_ofI mb_ZXok (by decide) rfl (Nat.le_of_ble_eq_true rfl) mb_DXok ?_
  intro p e s0 m args below meth c Q A Cx hret
  have hR : 5 ≤ (rm_X_run).frames ∧ 118 ≤ (rm_X_run).locals := ⟨Nat.le_refl _, Nat.le_refl _⟩
  intro ls H locs hl hP hS
  have Cx0 := Cx
  obtain ⟨⟨hx, hb, hml, hown, hts⟩, hK, hD, hA, hZ⟩ := Cx0
  have hl : lv_has ls 3 [(0, .ref (X 0)), (1, .int x1), (2, .int x2)] := hl
  unfold mX_run at h
  refine lv_aload_n hx hb d_X_run_0 rfl (lv_at hl 0 rfl) ?_
  refine va_get (ci := 0) (C := cnX) (T := fTX) (N := 5) hx hb hts uwX hown hK hP 0 rfl rfl 3 (by decide) (hts _ wd_199) (fun _ h9 => h9) rfl d_X_run_1 ?_
  refine lv_iload_n hx hb d_X_run_4 rfl (lv_at hl 1 rfl) ?_
  refine lv_iload_n hx hb d_X_run_5 rfl (lv_at hl 2 rfl) ?_
  obtain ⟨v1, s2, hs2, h⟩ := mb_cal_ex h
  refine mb_goI Cx (mb_runV (As := [.int x1, .int x2]) (rest := []) mb_ZXok Cx (w_A_start l D X cI cZ cJ hs2 H.size) (mb_cwV 2 hts wd_447 wd_448 wd_449 wd_6 wd_450 rfl rfl rfl (by decide +kernel) ⟨Nat.le_trans (by decide) hR.1, Nat.le_trans (by decide) hR.2⟩) hP hS 4 rfl rfl rfl hl.1 rfl (Nat.le_of_ble_eq_true rfl) d_X_run_6) hS (fun H locs hP hS => ?_)
  exact mb_eI hret h d_X_run_9 hP hS
set_option maxRecDepth 100000 in
set_option maxHeartbeats 4000000 in
theorem w_X_outcome (l : Launch) (D : va_G) (X : Nat → Nat) (cI cZ cJ : ClassId)  {s : mb_S} {rv : Int32} {rs : mb_S}
    (h : mX_outcome  s = some (rv, rs)) : mb_MI l y_X_outcome ws_X_outcome rm_X_outcome mb_ZX vwCl D [(cI, .int), (cZ, .boolean), (cJ, .long)] (WX X cI cZ cJ) [.ref (X 0)] s rv rs := by
  refine mb_ofI mb_ZXok (by decide) rfl (Nat.le_of_ble_eq_true rfl) mb_DXok ?_
  intro p e s0 m args below meth c Q A Cx hret
  have hR : 0 ≤ (rm_X_outcome).frames ∧ 0 ≤ (rm_X_outcome).locals := ⟨Nat.le_refl _, Nat.le_refl _⟩
  intro ls H locs hl hP hS
  have Cx0 := Cx
  obtain ⟨⟨hx, hb, hml, hown, hts⟩, hK, hD, hA, hZ⟩ := Cx0
  have hl : lv_has ls 1 [(0, .ref (X 0))] := hl
  unfold mX_outcome at h
  refine lv_aload_n hx hb d_X_outcome_0 rfl (lv_at hl 0 rfl) ?_
  refine va_get (ci := 0) (C := cnX) (T := fTX) (N := 5) hx hb hts uwX hown hK hP 0 rfl rfl 3 (by decide) (hts _ wd_199) (fun _ h9 => h9) rfl d_X_outcome_1 ?_
  refine va_get (ci := 4) (C := cnA) (T := fTA) (N := 13) hx hb hts uwA hown hK hP 4 rfl rfl 12 (by decide) (hts _ wd_168) (fun _ h9 => h9) rfl d_X_outcome_4 ?_
  exact mb_eI hret h d_X_outcome_7 hP hS
set_option maxRecDepth 100000 in
set_option maxHeartbeats 4000000 in
theorem zX_hits_b26 {p : Program} {l : Launch} {e : Env} {R : Room} {s0 : State} {m : MethodId} {args : Array Value} {below : List Frame} {meth : Method} {c : Code} {Q : State → Prop} {A : Nat → Prop} {D : va_G} {X : Nat → Nat} {cI cZ cJ : ClassId} {rv : Int32} {rs : mb_S}
    (Cx : mb_C p s0 m args meth c c_X_hits 3 lw_w cnX mb_ZX vwCl D [(cI, .int), (cZ, .boolean), (cJ, .long)] A (WX X cI cZ cJ)) (hR : 2 ≤ R.frames ∧ 42 ≤ R.locals)
    (hret : mb_R p l e R s0 m args below meth c Q vwCl D A (WX X cI cZ cJ) c_X_hits .ireturn [.int rv] rs)   (s : mb_S)
    (h : mX_hits_b26  s = some (rv, rs)) : mb_B p l e R s0 m args below meth c Q vwCl D A (WX X cI cZ cJ) 3 [] [] 26 s := by
  unfold mX_hits_b26 at h
  intro ls H locs hl hP hS
  have Cx0 := Cx
  obtain ⟨⟨hx, hb, hml, hown, hts⟩, hK, hD, hA, hZ⟩ := Cx0
  refine lv_iconst (v := (0 : Int32)) hx hb d_X_hits_26 (by decide) ?_
  exact mb_eI hret h d_X_hits_27 hP hS
set_option maxRecDepth 100000 in
set_option maxHeartbeats 4000000 in
theorem w_X_hits (l : Launch) (D : va_G) (X : Nat → Nat) (cI cZ cJ : ClassId) {x1 : Int32} {x2 : Int32} {s : mb_S} {rv : Int32} {rs : mb_S}
    (h : mX_hits x1 x2 s = some (rv, rs)) : mb_MI l y_X_hits ws_X_hits rm_X_hits mb_ZX vwCl D [(cI, .int), (cZ, .boolean), (cJ, .long)] (WX X cI cZ cJ) [.ref (X 0), .int x1, .int x2] s rv rs := by
  refine mb_ofI mb_ZXok (by decide) rfl (Nat.le_of_ble_eq_true rfl) mb_DXok ?_
  intro p e s0 m args below meth c Q A Cx hret
  have hR : 2 ≤ (rm_X_hits).frames ∧ 42 ≤ (rm_X_hits).locals := ⟨Nat.le_refl _, Nat.le_refl _⟩
  intro ls H locs hl hP hS
  have Cx0 := Cx
  obtain ⟨⟨hx, hb, hml, hown, hts⟩, hK, hD, hA, hZ⟩ := Cx0
  have hl : lv_has ls 3 [(0, .ref (X 0)), (1, .int x1), (2, .int x2)] := hl
  unfold mX_hits at h
  refine lv_aload_n hx hb d_X_hits_0 rfl (lv_at hl 0 rfl) ?_
  refine va_get (ci := 0) (C := cnX) (T := fTX) (N := 5) hx hb hts uwX hown hK hP 0 rfl rfl 3 (by decide) (hts _ wd_199) (fun _ h9 => h9) rfl d_X_hits_1 ?_
  refine va_get (ci := 4) (C := cnA) (T := fTA) (N := 13) hx hb hts uwA hown hK hP 4 rfl rfl 12 (by decide) (hts _ wd_168) (fun _ h9 => h9) rfl d_X_hits_4 ?_
  refine lv_if_eq hx hb d_X_hits_7 rfl (fun hc => ?_) (fun hc => ?_)
  · have h := mb_t hc h
    exact zX_hits_b26 Cx hR hret  s h ls H locs (lv_sub hl [] rfl) hP hS
  · have h := mb_f hc h
    refine lv_aload_n hx hb d_X_hits_10 rfl (lv_at hl 0 rfl) ?_
    refine lv_iload_n hx hb d_X_hits_11 rfl (lv_at hl 1 rfl) ?_
    obtain ⟨v1, s2, hs2, h⟩ := mb_cal_ex h
    refine mb_goI Cx (mb_runV (As := [.int x1]) (rest := []) mb_ZXok Cx (w_X_isSource l D X cI cZ cJ hs2 H.size) (mb_cwV 1 hts wd_411 wd_413 sel_25 wd_1 wd_414 rfl rfl rfl (by decide +kernel) ⟨Nat.le_trans (by decide) hR.1, Nat.le_trans (by decide) hR.2⟩) hP hS 0 rfl rfl rfl hl.1 rfl (Nat.le_of_ble_eq_true rfl) d_X_hits_12) hS (fun H locs hP hS => ?_)
    refine lv_if_eq hx hb d_X_hits_15 rfl (fun hc => ?_) (fun hc => ?_)
    · have h := mb_t hc h
      exact zX_hits_b26 Cx hR hret  s2 h ls H locs (lv_sub hl [] rfl) hP hS
    · have h := mb_f hc h
      refine lv_aload_n hx hb d_X_hits_18 rfl (lv_at hl 0 rfl) ?_
      refine lv_iload_n hx hb d_X_hits_19 rfl (lv_at hl 2 rfl) ?_
      obtain ⟨v3, s4, hs4, h⟩ := mb_cal_ex h
      refine mb_goI Cx (mb_runV (As := [.int x2]) (rest := []) mb_ZXok Cx (w_X_isSink l D X cI cZ cJ hs4 H.size) (mb_cwV 1 hts wd_415 wd_417 sel_26 wd_1 wd_418 rfl rfl rfl (by decide +kernel) ⟨Nat.le_trans (by decide) hR.1, Nat.le_trans (by decide) hR.2⟩) hP hS 0 rfl rfl rfl hl.1 rfl (Nat.le_of_ble_eq_true rfl) d_X_hits_20) hS (fun H locs hP hS => ?_)
      refine lv_if_ne hx hb d_X_hits_23 rfl (fun hc => ?_) (fun hc => ?_)
      · have h := mb_f hc h
        refine lv_aload_n hx hb d_X_hits_28 rfl (lv_at hl 0 rfl) ?_
        refine va_get (ci := 0) (C := cnX) (T := fTX) (N := 5) hx hb hts uwX hown hK hP 0 rfl rfl 3 (by decide) (hts _ wd_199) (fun _ h9 => h9) rfl d_X_hits_29 ?_
        refine va_get (ci := 4) (C := cnA) (T := fTA) (N := 13) hx hb hts uwA hown hK hP 4 rfl rfl 11 (by decide) (hts _ wd_166) (fun _ h9 => h9) rfl d_X_hits_32 ?_
        refine lv_iload_n hx hb d_X_hits_35 rfl (lv_at hl 1 rfl) ?_
        refine lv_iconst (v := (4 : Int32)) hx hb d_X_hits_36 (by decide) ?_
        refine lv_imul hx hb d_X_hits_37 ?_
        refine lv_iload_n hx hb d_X_hits_38 rfl (lv_at hl 2 rfl) ?_
        refine lv_iadd hx hb d_X_hits_39 ?_
        refine mb_iald hx hb hK hP 28 0 rfl rfl h d_X_hits_40 (fun v5 h => ?_)
        exact mb_eI hret h d_X_hits_41 hP hS
      · have h := mb_t hc h
        exact zX_hits_b26 Cx hR hret  s4 h ls H locs (lv_sub hl [] rfl) hP hS
set_option maxRecDepth 100000 in
set_option maxHeartbeats 4000000 in
theorem zX_made_b21 {p : Program} {l : Launch} {e : Env} {R : Room} {s0 : State} {m : MethodId} {args : Array Value} {below : List Frame} {meth : Method} {c : Code} {Q : State → Prop} {A : Nat → Prop} {D : va_G} {X : Nat → Nat} {cI cZ cJ : ClassId} {rv : Int32} {rs : mb_S}
    (Cx : mb_C p s0 m args meth c c_X_made 1 lw_w cnX mb_ZX vwCl D [(cI, .int), (cZ, .boolean), (cJ, .long)] A (WX X cI cZ cJ)) (hR : 0 ≤ R.frames ∧ 0 ≤ R.locals)
    (hret : mb_R p l e R s0 m args below meth c Q vwCl D A (WX X cI cZ cJ) c_X_made .ireturn [.int rv] rs)  (y0 : Int32) (s : mb_S)
    (h : mX_made_b21  y0 s = some (rv, rs)) : mb_B p l e R s0 m args below meth c Q vwCl D A (WX X cI cZ cJ) 1 [] [.int y0] 21 s := by
  unfold mX_made_b21 at h
  intro ls H locs hl hP hS
  have Cx0 := Cx
  obtain ⟨⟨hx, hb, hml, hown, hts⟩, hK, hD, hA, hZ⟩ := Cx0
  exact mb_eI hret h d_X_made_21 hP hS
set_option maxRecDepth 100000 in
set_option maxHeartbeats 4000000 in
theorem w_X_made (l : Launch) (D : va_G) (X : Nat → Nat) (cI cZ cJ : ClassId)  {s : mb_S} {rv : Int32} {rs : mb_S}
    (h : mX_made  s = some (rv, rs)) : mb_MI l y_X_made ws_X_made rm_X_made mb_ZX vwCl D [(cI, .int), (cZ, .boolean), (cJ, .long)] (WX X cI cZ cJ) [.ref (X 0)] s rv rs := by
  refine mb_ofI mb_ZXok (by decide) rfl (Nat.le_of_ble_eq_true rfl) mb_DXok ?_
  intro p e s0 m args below meth c Q A Cx hret
  have hR : 0 ≤ (rm_X_made).frames ∧ 0 ≤ (rm_X_made).locals := ⟨Nat.le_refl _, Nat.le_refl _⟩
  intro ls H locs hl hP hS
  have Cx0 := Cx
  obtain ⟨⟨hx, hb, hml, hown, hts⟩, hK, hD, hA, hZ⟩ := Cx0
  have hl : lv_has ls 1 [(0, .ref (X 0))] := hl
  unfold mX_made at h
  refine lv_aload_n hx hb d_X_made_0 rfl (lv_at hl 0 rfl) ?_
  refine va_get (ci := 0) (C := cnX) (T := fTX) (N := 5) hx hb hts uwX hown hK hP 0 rfl rfl 3 (by decide) (hts _ wd_199) (fun _ h9 => h9) rfl d_X_made_1 ?_
  refine va_get (ci := 4) (C := cnA) (T := fTA) (N := 13) hx hb hts uwA hown hK hP 4 rfl rfl 12 (by decide) (hts _ wd_168) (fun _ h9 => h9) rfl d_X_made_4 ?_
  refine lv_if_ne hx hb d_X_made_7 rfl (fun hc => ?_) (fun hc => ?_)
  · have h := mb_f hc h
    refine lv_aload_n hx hb d_X_made_14 rfl (lv_at hl 0 rfl) ?_
    refine va_get (ci := 0) (C := cnX) (T := fTX) (N := 5) hx hb hts uwX hown hK hP 0 rfl rfl 3 (by decide) (hts _ wd_199) (fun _ h9 => h9) rfl d_X_made_15 ?_
    refine va_get (ci := 4) (C := cnA) (T := fTA) (N := 13) hx hb hts uwA hown hK hP 4 rfl rfl 10 (by decide) (hts _ wd_164) (fun _ h9 => h9) rfl d_X_made_18 ?_
    exact zX_made_b21 Cx hR hret  (mb_F s 9) s h ls H locs (lv_sub hl [] rfl) hP hS
  · have h := mb_t hc h
    refine lv_iconst (v := (0 : Int32)) hx hb d_X_made_10 (by decide) ?_
    refine lv_goto hx hb d_X_made_11 rfl ?_
    exact zX_made_b21 Cx hR hret  (0 : Int32) s h ls H locs (lv_sub hl [] rfl) hP hS
