set_option maxRecDepth 100000 in
set_option maxHeartbeats 4000000 in
theorem zX_entries_b17 {p : Program} {l : Launch} {e : Env} {R : Room} {s0 : State} {m : MethodId} {args : Array Value} {below : List Frame} {meth : Method} {c : Code} {Q : State → Prop} {A : Nat → Prop} {D : va_G} {X : Nat → Nat} {cI cZ cJ : ClassId} {rv : Int32} {rs : mb_S}
    (Cx : mb_C p s0 m args meth c c_X_entries 2 lw_w cnX mb_ZX vwCl D [(cI, .int), (cZ, .boolean), (cJ, .long)] A (WX X cI cZ cJ)) (hR : 2 ≤ R.frames ∧ 43 ≤ R.locals)
    (hret : mb_R p l e R s0 m args below meth c Q vwCl D A (WX X cI cZ cJ) c_X_entries .ireturn [.int rv] rs)   (s : mb_S)
    (h : mX_entries_b17  s = some (rv, rs)) : mb_B p l e R s0 m args below meth c Q vwCl D A (WX X cI cZ cJ) 2 [] [] 17 s := by
  unfold mX_entries_b17 at h
  intro ls H locs hl hP hS
  have Cx0 := Cx
  obtain ⟨⟨hx, hb, hml, hown, hts⟩, hK, hD, hA, hZ⟩ := Cx0
  refine lv_iconst (v := (-1 : Int32)) hx hb d_X_entries_17 (by decide) ?_
  exact mb_eI hret h d_X_entries_18 hP hS
set_option maxRecDepth 100000 in
set_option maxHeartbeats 4000000 in
theorem w_X_entries (l : Launch) (D : va_G) (X : Nat → Nat) (cI cZ cJ : ClassId) {x1 : Int32} {s : mb_S} {rv : Int32} {rs : mb_S}
    (h : mX_entries x1 s = some (rv, rs)) : mb_MI l y_X_entries ws_X_entries rm_X_entries mb_ZX vwCl D [(cI, .int), (cZ, .boolean), (cJ, .long)] (WX X cI cZ cJ) [.ref (X 0), .int x1] s rv rs := by
  refine mb_ofI mb_ZXok (by decide) rfl (Nat.le_of_ble_eq_true rfl) mb_DXok ?_
  intro p e s0 m args below meth c Q A Cx hret
  have hR : 2 ≤ (rm_X_entries).frames ∧ 43 ≤ (rm_X_entries).locals := ⟨Nat.le_refl _, Nat.le_refl _⟩
  intro ls H locs hl hP hS
  have Cx0 := Cx
  obtain ⟨⟨hx, hb, hml, hown, hts⟩, hK, hD, hA, hZ⟩ := Cx0
  have hl : lv_has ls 2 [(0, .ref (X 0)), (1, .int x1)] := hl
  unfold mX_entries at h
  refine lv_aload_n hx hb d_X_entries_0 rfl (lv_at hl 0 rfl) ?_
  refine va_get (ci := 0) (C := cnX) (T := fTX) (N := 5) hx hb hts uwX hown hK hP 0 rfl rfl 4 (by decide) (hts _ wd_200) (fun _ h9 => h9) rfl d_X_entries_1 ?_
  refine lv_iconst (v := (1 : Int32)) hx hb d_X_entries_4 (by decide) ?_
  refine lv_icmp_ne hx hb d_X_entries_5 rfl (fun hc => ?_) (fun hc => ?_)
  · have h := mb_f hc h
    exact zX_entries_b17 Cx hR hret  s h ls H locs (lv_sub hl [] rfl) hP hS
  · have h := mb_t hc h
    refine lv_iload_n hx hb d_X_entries_8 rfl (lv_at hl 1 rfl) ?_
    refine lv_bipush (v := (6 : Int32)) hx hb d_X_entries_9 (by decide) ?_
    obtain ⟨v1, hv1, h⟩ := mb_cal0_ex h
    refine mb_go0I (st := s) Cx (mb_runS0 (As := [.int x1, .int (6 : Int32)]) (rest := []) Cx (w_X_isBelow l D hv1 H.size) (mb_cwS 2 hts wd_228 wd_221 wd_1 wd_222 rfl rfl rfl (by decide +kernel) ⟨Nat.le_trans (by decide) hR.1, Nat.le_trans (by decide) hR.2⟩) rfl hl.1 rfl (Nat.le_of_ble_eq_true rfl) d_X_entries_11) hP hS (fun H locs hP hS => ?_)
    refine lv_if_ne hx hb d_X_entries_14 rfl (fun hc => ?_) (fun hc => ?_)
    · have h := mb_f hc h
      refine lv_aload_n hx hb d_X_entries_19 rfl (lv_at hl 0 rfl) ?_
      refine va_get (ci := 0) (C := cnX) (T := fTX) (N := 5) hx hb hts uwX hown hK hP 0 rfl rfl 2 (by decide) (hts _ wd_198) (fun _ h9 => h9) rfl d_X_entries_20 ?_
      refine lv_iload_n hx hb d_X_entries_23 rfl (lv_at hl 1 rfl) ?_
      obtain ⟨v2, s3, hs3, h⟩ := mb_cal_ex h
      refine mb_goI Cx (mb_runV (As := [.int x1]) (rest := []) mb_ZXok Cx (w_F_countEntries l D X cI cZ cJ hs3 H.size) (mb_cwV 1 hts wd_431 wd_432 wd_433 wd_5 wd_434 rfl rfl rfl (by decide +kernel) ⟨Nat.le_trans (by decide) hR.1, Nat.le_trans (by decide) hR.2⟩) hP hS 3 rfl rfl rfl hl.1 rfl (Nat.le_of_ble_eq_true rfl) d_X_entries_24) hS (fun H locs hP hS => ?_)
      exact mb_eI hret h d_X_entries_27 hP hS
    · have h := mb_t hc h
      exact zX_entries_b17 Cx hR hret  s h ls H locs (lv_sub hl [] rfl) hP hS
set_option maxRecDepth 100000 in
set_option maxHeartbeats 4000000 in
theorem zX_points_b25 {p : Program} {l : Launch} {e : Env} {R : Room} {s0 : State} {m : MethodId} {args : Array Value} {below : List Frame} {meth : Method} {c : Code} {Q : State → Prop} {A : Nat → Prop} {D : va_G} {X : Nat → Nat} {cI cZ cJ : ClassId} {rv : Int32} {rs : mb_S}
    (Cx : mb_C p s0 m args meth c c_X_points 3 lw_w cnX mb_ZX vwCl D [(cI, .int), (cZ, .boolean), (cJ, .long)] A (WX X cI cZ cJ)) (hR : 1 ≤ R.frames ∧ 21 ≤ R.locals)
    (hret : mb_R p l e R s0 m args below meth c Q vwCl D A (WX X cI cZ cJ) c_X_points .ireturn [.int rv] rs)   (s : mb_S)
    (h : mX_points_b25  s = some (rv, rs)) : mb_B p l e R s0 m args below meth c Q vwCl D A (WX X cI cZ cJ) 3 [] [] 25 s := by
  unfold mX_points_b25 at h
  intro ls H locs hl hP hS
  have Cx0 := Cx
  obtain ⟨⟨hx, hb, hml, hown, hts⟩, hK, hD, hA, hZ⟩ := Cx0
  refine lv_iconst (v := (-1 : Int32)) hx hb d_X_points_25 (by decide) ?_
  exact mb_eI hret h d_X_points_26 hP hS
set_option maxRecDepth 100000 in
set_option maxHeartbeats 4000000 in
theorem w_X_points (l : Launch) (D : va_G) (X : Nat → Nat) (cI cZ cJ : ClassId) {x1 : Int32} {x2 : Int32} {s : mb_S} {rv : Int32} {rs : mb_S}
    (h : mX_points x1 x2 s = some (rv, rs)) : mb_MI l y_X_points ws_X_points rm_X_points mb_ZX vwCl D [(cI, .int), (cZ, .boolean), (cJ, .long)] (WX X cI cZ cJ) [.ref (X 0), .int x1, .int x2] s rv rs := by
  refine mb_ofI mb_ZXok (by decide) rfl (Nat.le_of_ble_eq_true rfl) mb_DXok ?_
  intro p e s0 m args below meth c Q A Cx hret
  have hR : 1 ≤ (rm_X_points).frames ∧ 21 ≤ (rm_X_points).locals := ⟨Nat.le_refl _, Nat.le_refl _⟩
  intro ls H locs hl hP hS
  have Cx0 := Cx
  obtain ⟨⟨hx, hb, hml, hown, hts⟩, hK, hD, hA, hZ⟩ := Cx0
  have hl : lv_has ls 3 [(0, .ref (X 0)), (1, .int x1), (2, .int x2)] := hl
  unfold mX_points at h
  refine lv_aload_n hx hb d_X_points_0 rfl (lv_at hl 0 rfl) ?_
  refine va_get (ci := 0) (C := cnX) (T := fTX) (N := 5) hx hb hts uwX hown hK hP 0 rfl rfl 4 (by decide) (hts _ wd_200) (fun _ h9 => h9) rfl d_X_points_1 ?_
  refine lv_iconst (v := (1 : Int32)) hx hb d_X_points_4 (by decide) ?_
  refine lv_icmp_ne hx hb d_X_points_5 rfl (fun hc => ?_) (fun hc => ?_)
  · have h := mb_f hc h
    exact zX_points_b25 Cx hR hret  s h ls H locs (lv_sub hl [] rfl) hP hS
  · have h := mb_t hc h
    refine lv_iload_n hx hb d_X_points_8 rfl (lv_at hl 1 rfl) ?_
    refine lv_bipush (v := (6 : Int32)) hx hb d_X_points_9 (by decide) ?_
    obtain ⟨v1, hv1, h⟩ := mb_cal0_ex h
    refine mb_go0I (st := s) Cx (mb_runS0 (As := [.int x1, .int (6 : Int32)]) (rest := []) Cx (w_X_isBelow l D hv1 H.size) (mb_cwS 2 hts wd_228 wd_221 wd_1 wd_222 rfl rfl rfl (by decide +kernel) ⟨Nat.le_trans (by decide) hR.1, Nat.le_trans (by decide) hR.2⟩) rfl hl.1 rfl (Nat.le_of_ble_eq_true rfl) d_X_points_11) hP hS (fun H locs hP hS => ?_)
    refine lv_if_eq hx hb d_X_points_14 rfl (fun hc => ?_) (fun hc => ?_)
    · have h := mb_t hc h
      exact zX_points_b25 Cx hR hret  s h ls H locs (lv_sub hl [] rfl) hP hS
    · have h := mb_f hc h
      refine lv_iload_n hx hb d_X_points_17 rfl (lv_at hl 2 rfl) ?_
      refine lv_iconst (v := (4 : Int32)) hx hb d_X_points_18 (by decide) ?_
      obtain ⟨v2, hv2, h⟩ := mb_cal0_ex h
      refine mb_go0I (st := s) Cx (mb_runS0 (As := [.int x2, .int (4 : Int32)]) (rest := []) Cx (w_X_isBelow l D hv2 H.size) (mb_cwS 2 hts wd_228 wd_221 wd_1 wd_222 rfl rfl rfl (by decide +kernel) ⟨Nat.le_trans (by decide) hR.1, Nat.le_trans (by decide) hR.2⟩) rfl hl.1 rfl (Nat.le_of_ble_eq_true rfl) d_X_points_19) hP hS (fun H locs hP hS => ?_)
      refine lv_if_ne hx hb d_X_points_22 rfl (fun hc => ?_) (fun hc => ?_)
      · have h := mb_f hc h
        refine lv_aload_n hx hb d_X_points_27 rfl (lv_at hl 0 rfl) ?_
        refine va_get (ci := 0) (C := cnX) (T := fTX) (N := 5) hx hb hts uwX hown hK hP 0 rfl rfl 1 (by decide) (hts _ wd_197) (fun _ h9 => h9) rfl d_X_points_28 ?_
        refine va_get (ci := 2) (C := cnQ) (T := fTQ) (N := 6) hx hb hts uwQ hown hK hP 2 rfl rfl 1 (by decide) (hts _ wd_99) (fun _ h9 => h9) rfl d_X_points_31 ?_
        refine lv_iload_n hx hb d_X_points_34 rfl (lv_at hl 1 rfl) ?_
        refine lv_iconst (v := (4 : Int32)) hx hb d_X_points_35 (by decide) ?_
        refine lv_imul hx hb d_X_points_36 ?_
        refine lv_iload_n hx hb d_X_points_37 rfl (lv_at hl 2 rfl) ?_
        refine lv_iadd hx hb d_X_points_38 ?_
        refine mb_iald hx hb hK hP 16 0 rfl rfl h d_X_points_39 (fun v3 h => ?_)
        exact mb_eI hret h d_X_points_40 hP hS
      · have h := mb_t hc h
        exact zX_points_b25 Cx hR hret  s h ls H locs (lv_sub hl [] rfl) hP hS
set_option maxRecDepth 100000 in
set_option maxHeartbeats 4000000 in
theorem zX_cell_b25 {p : Program} {l : Launch} {e : Env} {R : Room} {s0 : State} {m : MethodId} {args : Array Value} {below : List Frame} {meth : Method} {c : Code} {Q : State → Prop} {A : Nat → Prop} {D : va_G} {X : Nat → Nat} {cI cZ cJ : ClassId} {rv : Int32} {rs : mb_S}
    (Cx : mb_C p s0 m args meth c c_X_cell 3 lw_w cnX mb_ZX vwCl D [(cI, .int), (cZ, .boolean), (cJ, .long)] A (WX X cI cZ cJ)) (hR : 1 ≤ R.frames ∧ 21 ≤ R.locals)
    (hret : mb_R p l e R s0 m args below meth c Q vwCl D A (WX X cI cZ cJ) c_X_cell .ireturn [.int rv] rs)   (s : mb_S)
    (h : mX_cell_b25  s = some (rv, rs)) : mb_B p l e R s0 m args below meth c Q vwCl D A (WX X cI cZ cJ) 3 [] [] 25 s := by
  unfold mX_cell_b25 at h
  intro ls H locs hl hP hS
  have Cx0 := Cx
  obtain ⟨⟨hx, hb, hml, hown, hts⟩, hK, hD, hA, hZ⟩ := Cx0
  refine lv_iconst (v := (-1 : Int32)) hx hb d_X_cell_25 (by decide) ?_
  exact mb_eI hret h d_X_cell_26 hP hS
set_option maxRecDepth 100000 in
set_option maxHeartbeats 4000000 in
theorem w_X_cell (l : Launch) (D : va_G) (X : Nat → Nat) (cI cZ cJ : ClassId) {x1 : Int32} {x2 : Int32} {s : mb_S} {rv : Int32} {rs : mb_S}
    (h : mX_cell x1 x2 s = some (rv, rs)) : mb_MI l y_X_cell ws_X_cell rm_X_cell mb_ZX vwCl D [(cI, .int), (cZ, .boolean), (cJ, .long)] (WX X cI cZ cJ) [.ref (X 0), .int x1, .int x2] s rv rs := by
  refine mb_ofI mb_ZXok (by decide) rfl (Nat.le_of_ble_eq_true rfl) mb_DXok ?_
  intro p e s0 m args below meth c Q A Cx hret
  have hR : 1 ≤ (rm_X_cell).frames ∧ 21 ≤ (rm_X_cell).locals := ⟨Nat.le_refl _, Nat.le_refl _⟩
  intro ls H locs hl hP hS
  have Cx0 := Cx
  obtain ⟨⟨hx, hb, hml, hown, hts⟩, hK, hD, hA, hZ⟩ := Cx0
  have hl : lv_has ls 3 [(0, .ref (X 0)), (1, .int x1), (2, .int x2)] := hl
  unfold mX_cell at h
  refine lv_aload_n hx hb d_X_cell_0 rfl (lv_at hl 0 rfl) ?_
  refine va_get (ci := 0) (C := cnX) (T := fTX) (N := 5) hx hb hts uwX hown hK hP 0 rfl rfl 4 (by decide) (hts _ wd_200) (fun _ h9 => h9) rfl d_X_cell_1 ?_
  refine lv_iconst (v := (1 : Int32)) hx hb d_X_cell_4 (by decide) ?_
  refine lv_icmp_ne hx hb d_X_cell_5 rfl (fun hc => ?_) (fun hc => ?_)
  · have h := mb_f hc h
    exact zX_cell_b25 Cx hR hret  s h ls H locs (lv_sub hl [] rfl) hP hS
  · have h := mb_t hc h
    refine lv_iload_n hx hb d_X_cell_8 rfl (lv_at hl 1 rfl) ?_
    refine lv_bipush (v := (6 : Int32)) hx hb d_X_cell_9 (by decide) ?_
    obtain ⟨v1, hv1, h⟩ := mb_cal0_ex h
    refine mb_go0I (st := s) Cx (mb_runS0 (As := [.int x1, .int (6 : Int32)]) (rest := []) Cx (w_X_isBelow l D hv1 H.size) (mb_cwS 2 hts wd_228 wd_221 wd_1 wd_222 rfl rfl rfl (by decide +kernel) ⟨Nat.le_trans (by decide) hR.1, Nat.le_trans (by decide) hR.2⟩) rfl hl.1 rfl (Nat.le_of_ble_eq_true rfl) d_X_cell_11) hP hS (fun H locs hP hS => ?_)
    refine lv_if_eq hx hb d_X_cell_14 rfl (fun hc => ?_) (fun hc => ?_)
    · have h := mb_t hc h
      exact zX_cell_b25 Cx hR hret  s h ls H locs (lv_sub hl [] rfl) hP hS
    · have h := mb_f hc h
      refine lv_iload_n hx hb d_X_cell_17 rfl (lv_at hl 2 rfl) ?_
      refine lv_iconst (v := (2 : Int32)) hx hb d_X_cell_18 (by decide) ?_
      obtain ⟨v2, hv2, h⟩ := mb_cal0_ex h
      refine mb_go0I (st := s) Cx (mb_runS0 (As := [.int x2, .int (2 : Int32)]) (rest := []) Cx (w_X_isBelow l D hv2 H.size) (mb_cwS 2 hts wd_228 wd_221 wd_1 wd_222 rfl rfl rfl (by decide +kernel) ⟨Nat.le_trans (by decide) hR.1, Nat.le_trans (by decide) hR.2⟩) rfl hl.1 rfl (Nat.le_of_ble_eq_true rfl) d_X_cell_19) hP hS (fun H locs hP hS => ?_)
      refine lv_if_ne hx hb d_X_cell_22 rfl (fun hc => ?_) (fun hc => ?_)
      · have h := mb_f hc h
        refine lv_aload_n hx hb d_X_cell_27 rfl (lv_at hl 0 rfl) ?_
        refine va_get (ci := 0) (C := cnX) (T := fTX) (N := 5) hx hb hts uwX hown hK hP 0 rfl rfl 1 (by decide) (hts _ wd_197) (fun _ h9 => h9) rfl d_X_cell_28 ?_
        refine va_get (ci := 2) (C := cnQ) (T := fTQ) (N := 6) hx hb hts uwQ hown hK hP 2 rfl rfl 2 (by decide) (hts _ wd_101) (fun _ h9 => h9) rfl d_X_cell_31 ?_
        refine lv_iload_n hx hb d_X_cell_34 rfl (lv_at hl 1 rfl) ?_
        refine lv_iconst (v := (2 : Int32)) hx hb d_X_cell_35 (by decide) ?_
        refine lv_imul hx hb d_X_cell_36 ?_
        refine lv_iload_n hx hb d_X_cell_37 rfl (lv_at hl 2 rfl) ?_
        refine lv_iadd hx hb d_X_cell_38 ?_
        refine mb_iald hx hb hK hP 17 0 rfl rfl h d_X_cell_39 (fun v3 h => ?_)
        exact mb_eI hret h d_X_cell_40 hP hS
      · have h := mb_t hc h
        exact zX_cell_b25 Cx hR hret  s h ls H locs (lv_sub hl [] rfl) hP hS
set_option maxRecDepth 100000 in
set_option maxHeartbeats 4000000 in
theorem w_A_begin (l : Launch) (D : va_G) (X : Nat → Nat) (cI cZ cJ : ClassId) {x1 : Int32} {x2 : Int32} {x3 : Int32} {s : mb_S} {rv : Unit} {rs : mb_S}
    (h : mA_begin x1 x2 x3 s = some (rv, rs)) : mb_MV l y_A_begin ws_A_begin rm_A_begin mb_ZX vwCl D [(cI, .int), (cZ, .boolean), (cJ, .long)] (WX X cI cZ cJ) [.ref (X 4), .int x1, .int x2, .int x3] s rs := by
  refine mb_ofV mb_ZXok (by decide) rfl (Nat.le_of_ble_eq_true rfl) mb_DXok ?_
  intro p e s0 m args below meth c Q A Cx hret
  have hR : 0 ≤ (rm_A_begin).frames ∧ 0 ≤ (rm_A_begin).locals := ⟨Nat.le_refl _, Nat.le_refl _⟩
  intro ls H locs hl hP hS
  have Cx0 := Cx
  obtain ⟨⟨hx, hb, hml, hown, hts⟩, hK, hD, hA, hZ⟩ := Cx0
  have hl : lv_has ls 4 [(0, .ref (X 4)), (1, .int x1), (2, .int x2), (3, .int x3)] := hl
  unfold mA_begin at h
  refine lv_aload_n hx hb d_A_begin_0 rfl (lv_at hl 0 rfl) ?_
  refine va_get (ci := 4) (C := cnA) (T := fTA) (N := 13) hx hb hts uwA hown hK hP 4 rfl rfl 1 (by decide) (hts _ wd_154) (fun _ h9 => h9) rfl d_A_begin_1 ?_
  refine lv_aload_n hx hb d_A_begin_4 rfl (lv_at hl 0 rfl) ?_
  refine va_get (ci := 4) (C := cnA) (T := fTA) (N := 13) hx hb hts uwA hown hK hP 4 rfl rfl 3 (by decide) (hts _ wd_156) (fun _ h9 => h9) rfl d_A_begin_5 ?_
  refine lv_iload_n hx hb d_A_begin_8 rfl (lv_at hl 1 rfl) ?_
  refine mb_iast (WS := WX X cI cZ cJ) hx hb hK hP hD hS 23 0 rfl rfl h d_A_begin_9 rfl (fun H locs s1 hP hS h => ?_)
  refine lv_aload_n hx hb d_A_begin_10 rfl (lv_at hl 0 rfl) ?_
  refine va_get (ci := 4) (C := cnA) (T := fTA) (N := 13) hx hb hts uwA hown hK hP 4 rfl rfl 2 (by decide) (hts _ wd_155) (fun _ h9 => h9) rfl d_A_begin_11 ?_
  refine lv_aload_n hx hb d_A_begin_14 rfl (lv_at hl 0 rfl) ?_
  refine va_get (ci := 4) (C := cnA) (T := fTA) (N := 13) hx hb hts uwA hown hK hP 4 rfl rfl 3 (by decide) (hts _ wd_156) (fun _ h9 => h9) rfl d_A_begin_15 ?_
  refine lv_iload_n hx hb d_A_begin_18 rfl (lv_at hl 1 rfl) ?_
  refine lv_bipush (v := (13 : Int32)) hx hb d_A_begin_19 (by decide) ?_
  refine lv_imul hx hb d_A_begin_21 ?_
  refine mb_iast (WS := WX X cI cZ cJ) hx hb hK hP hD hS 24 0 rfl rfl h d_A_begin_22 rfl (fun H locs s2 hP hS h => ?_)
  refine lv_aload_n hx hb d_A_begin_23 rfl (lv_at hl 0 rfl) ?_
  refine va_get (ci := 4) (C := cnA) (T := fTA) (N := 13) hx hb hts uwA hown hK hP 4 rfl rfl 4 (by decide) (hts _ wd_157) (fun _ h9 => h9) rfl d_A_begin_24 ?_
  refine lv_aload_n hx hb d_A_begin_27 rfl (lv_at hl 0 rfl) ?_
  refine va_get (ci := 4) (C := cnA) (T := fTA) (N := 13) hx hb hts uwA hown hK hP 4 rfl rfl 3 (by decide) (hts _ wd_156) (fun _ h9 => h9) rfl d_A_begin_28 ?_
  refine lv_iconst (v := (4 : Int32)) hx hb d_A_begin_31 (by decide) ?_
  refine lv_imul hx hb d_A_begin_32 ?_
  refine lv_iload_n hx hb d_A_begin_33 rfl (lv_at hl 2 rfl) ?_
  refine mb_iast (WS := WX X cI cZ cJ) hx hb hK hP hD hS 25 0 rfl rfl h d_A_begin_34 rfl (fun H locs s3 hP hS h => ?_)
  refine lv_aload_n hx hb d_A_begin_35 rfl (lv_at hl 0 rfl) ?_
  refine va_get (ci := 4) (C := cnA) (T := fTA) (N := 13) hx hb hts uwA hown hK hP 4 rfl rfl 4 (by decide) (hts _ wd_157) (fun _ h9 => h9) rfl d_A_begin_36 ?_
  refine lv_aload_n hx hb d_A_begin_39 rfl (lv_at hl 0 rfl) ?_
  refine va_get (ci := 4) (C := cnA) (T := fTA) (N := 13) hx hb hts uwA hown hK hP 4 rfl rfl 3 (by decide) (hts _ wd_156) (fun _ h9 => h9) rfl d_A_begin_40 ?_
  refine lv_iconst (v := (4 : Int32)) hx hb d_A_begin_43 (by decide) ?_
  refine lv_imul hx hb d_A_begin_44 ?_
  refine lv_iconst (v := (1 : Int32)) hx hb d_A_begin_45 (by decide) ?_
  refine lv_iadd hx hb d_A_begin_46 ?_
  refine lv_iload_n hx hb d_A_begin_47 rfl (lv_at hl 3 rfl) ?_
  refine mb_iast (WS := WX X cI cZ cJ) hx hb hK hP hD hS 25 0 rfl rfl h d_A_begin_48 rfl (fun H locs s4 hP hS h => ?_)
  refine lv_aload_n hx hb d_A_begin_49 rfl (lv_at hl 0 rfl) ?_
  refine va_get (ci := 4) (C := cnA) (T := fTA) (N := 13) hx hb hts uwA hown hK hP 4 rfl rfl 4 (by decide) (hts _ wd_157) (fun _ h9 => h9) rfl d_A_begin_50 ?_
  refine lv_aload_n hx hb d_A_begin_53 rfl (lv_at hl 0 rfl) ?_
  refine va_get (ci := 4) (C := cnA) (T := fTA) (N := 13) hx hb hts uwA hown hK hP 4 rfl rfl 3 (by decide) (hts _ wd_156) (fun _ h9 => h9) rfl d_A_begin_54 ?_
  refine lv_iconst (v := (4 : Int32)) hx hb d_A_begin_57 (by decide) ?_
  refine lv_imul hx hb d_A_begin_58 ?_
  refine lv_iconst (v := (2 : Int32)) hx hb d_A_begin_59 (by decide) ?_
  refine lv_iadd hx hb d_A_begin_60 ?_
  refine lv_iconst (v := (0 : Int32)) hx hb d_A_begin_61 (by decide) ?_
  refine mb_iast (WS := WX X cI cZ cJ) hx hb hK hP hD hS 25 0 rfl rfl h d_A_begin_62 rfl (fun H locs s5 hP hS h => ?_)
  refine lv_aload_n hx hb d_A_begin_63 rfl (lv_at hl 0 rfl) ?_
  refine va_get (ci := 4) (C := cnA) (T := fTA) (N := 13) hx hb hts uwA hown hK hP 4 rfl rfl 4 (by decide) (hts _ wd_157) (fun _ h9 => h9) rfl d_A_begin_64 ?_
  refine lv_aload_n hx hb d_A_begin_67 rfl (lv_at hl 0 rfl) ?_
  refine va_get (ci := 4) (C := cnA) (T := fTA) (N := 13) hx hb hts uwA hown hK hP 4 rfl rfl 3 (by decide) (hts _ wd_156) (fun _ h9 => h9) rfl d_A_begin_68 ?_
  refine lv_iconst (v := (4 : Int32)) hx hb d_A_begin_71 (by decide) ?_
  refine lv_imul hx hb d_A_begin_72 ?_
  refine lv_iconst (v := (3 : Int32)) hx hb d_A_begin_73 (by decide) ?_
  refine lv_iadd hx hb d_A_begin_74 ?_
  refine lv_iconst (v := (0 : Int32)) hx hb d_A_begin_75 (by decide) ?_
  refine mb_iast (WS := WX X cI cZ cJ) hx hb hK hP hD hS 25 0 rfl rfl h d_A_begin_76 rfl (fun H locs s6 hP hS h => ?_)
  refine lv_aload_n hx hb d_A_begin_77 rfl (lv_at hl 0 rfl) ?_
  refine lv_dup hx hb d_A_begin_78 rfl ?_
  refine va_get (ci := 4) (C := cnA) (T := fTA) (N := 13) hx hb hts uwA hown hK hP 4 rfl rfl 3 (by decide) (hts _ wd_156) (fun _ h9 => h9) rfl d_A_begin_79 ?_
  refine lv_iconst (v := (1 : Int32)) hx hb d_A_begin_82 (by decide) ?_
  refine lv_iadd hx hb d_A_begin_83 ?_
  have h := mb_putF_ex h
  refine va_put (ci := 4) (v := .int ((mb_F s6 5) + (1 : Int32))) (ty := .int) (C := cnA) (T := fTA) (N := 13) hx hb hts uwA fyA fyA_ok fnA hown hK hP (hD _) hS 4 rfl rfl 3 (by decide) (hts _ wd_156) (fun _ h9 => h9) rfl (by decide +kernel) rfl rfl (Nat.le_of_ble_eq_true rfl) d_A_begin_84 (fun H locs hP _ hS => ?_)
  have hP : va_P D vwCl (WX X cI cZ cJ (mb_setF s6 5 ((mb_F s6 5) + (1 : Int32)))) H := hP
  generalize mb_setF s6 5 ((mb_F s6 5) + (1 : Int32)) = s7 at hP h
  exact mb_eV hret h d_A_begin_87 hP hS
set_option maxRecDepth 100000 in
set_option maxHeartbeats 4000000 in
theorem w_A_reset (l : Launch) (D : va_G) (X : Nat → Nat) (cI cZ cJ : ClassId) {x1 : Int32} {s : mb_S} {rv : Unit} {rs : mb_S}
    (h : mA_reset x1 s = some (rv, rs)) : mb_MV l y_A_reset ws_A_reset rm_A_reset mb_ZX vwCl D [(cI, .int), (cZ, .boolean), (cJ, .long)] (WX X cI cZ cJ) [.ref (X 4), .int x1] s rs := by
  refine mb_ofV mb_ZXok (by decide) rfl (Nat.le_of_ble_eq_true rfl) mb_DXok ?_
  intro p e s0 m args below meth c Q A Cx hret
  have hR : 1 ≤ (rm_A_reset).frames ∧ 23 ≤ (rm_A_reset).locals := ⟨Nat.le_refl _, Nat.le_refl _⟩
  intro ls H locs hl hP hS
  have Cx0 := Cx
  obtain ⟨⟨hx, hb, hml, hown, hts⟩, hK, hD, hA, hZ⟩ := Cx0
  have hl : lv_has ls 2 [(0, .ref (X 4)), (1, .int x1)] := hl
  unfold mA_reset at h
  refine lv_aload_n hx hb d_A_reset_0 rfl (lv_at hl 0 rfl) ?_
  refine va_get (ci := 4) (C := cnA) (T := fTA) (N := 13) hx hb hts uwA hown hK hP 4 rfl rfl 11 (by decide) (hts _ wd_165) (fun _ h9 => h9) rfl d_A_reset_1 ?_
  refine lv_iconst (v := (0 : Int32)) hx hb d_A_reset_4 (by decide) ?_
  refine mb_kfill (WS := WX X cI cZ cJ) Cx hP hS 28 rfl rfl h (mb_cwS 2 hts wd_459 wd_25 wd_3 wd_26 rfl rfl rfl (by decide +kernel) ⟨Nat.le_trans (by decide) hR.1, Nat.le_trans (by decide) hR.2⟩) (rest := []) hl.1 rfl (Nat.le_of_ble_eq_true rfl) d_A_reset_5 (by decide) rfl (fun H locs s1 hP hS h => ?_)
  refine lv_aload_n hx hb d_A_reset_8 rfl (lv_at hl 0 rfl) ?_
  refine lv_iload_n hx hb d_A_reset_9 rfl (lv_at hl 1 rfl) ?_
  have h := mb_putF_ex h
  refine va_put (ci := 4) (v := .int x1) (ty := .int) (C := cnA) (T := fTA) (N := 13) hx hb hts uwA fyA fyA_ok fnA hown hK hP (hD _) hS 4 rfl rfl 7 (by decide) (hts _ wd_160) (fun _ h9 => h9) rfl (by decide +kernel) rfl rfl (Nat.le_of_ble_eq_true rfl) d_A_reset_10 (fun H locs hP _ hS => ?_)
  have hP : va_P D vwCl (WX X cI cZ cJ (mb_setF s1 6 x1)) H := hP
  generalize mb_setF s1 6 x1 = s2 at hP h
  refine lv_aload_n hx hb d_A_reset_13 rfl (lv_at hl 0 rfl) ?_
  refine lv_iconst (v := (0 : Int32)) hx hb d_A_reset_14 (by decide) ?_
  have h := mb_putF_ex h
  refine va_put (ci := 4) (v := .int (0 : Int32)) (ty := .int) (C := cnA) (T := fTA) (N := 13) hx hb hts uwA fyA fyA_ok fnA hown hK hP (hD _) hS 4 rfl rfl 8 (by decide) (hts _ wd_161) (fun _ h9 => h9) rfl (by decide +kernel) rfl rfl (Nat.le_of_ble_eq_true rfl) d_A_reset_15 (fun H locs hP _ hS => ?_)
  have hP : va_P D vwCl (WX X cI cZ cJ (mb_setF s2 7 (0 : Int32))) H := hP
  generalize mb_setF s2 7 (0 : Int32) = s3 at hP h
  refine lv_aload_n hx hb d_A_reset_18 rfl (lv_at hl 0 rfl) ?_
  refine lv_iconst (v := (0 : Int32)) hx hb d_A_reset_19 (by decide) ?_
  have h := mb_putF_ex h
  refine va_put (ci := 4) (v := .int (0 : Int32)) (ty := .int) (C := cnA) (T := fTA) (N := 13) hx hb hts uwA fyA fyA_ok fnA hown hK hP (hD _) hS 4 rfl rfl 9 (by decide) (hts _ wd_162) (fun _ h9 => h9) rfl (by decide +kernel) rfl rfl (Nat.le_of_ble_eq_true rfl) d_A_reset_20 (fun H locs hP _ hS => ?_)
  have hP : va_P D vwCl (WX X cI cZ cJ (mb_setF s3 8 (0 : Int32))) H := hP
  generalize mb_setF s3 8 (0 : Int32) = s4 at hP h
  refine lv_aload_n hx hb d_A_reset_23 rfl (lv_at hl 0 rfl) ?_
  refine lv_iconst (v := (0 : Int32)) hx hb d_A_reset_24 (by decide) ?_
  have h := mb_putF_ex h
  refine va_put (ci := 4) (v := .int (0 : Int32)) (ty := .int) (C := cnA) (T := fTA) (N := 13) hx hb hts uwA fyA fyA_ok fnA hown hK hP (hD _) hS 4 rfl rfl 10 (by decide) (hts _ wd_163) (fun _ h9 => h9) rfl (by decide +kernel) rfl rfl (Nat.le_of_ble_eq_true rfl) d_A_reset_25 (fun H locs hP _ hS => ?_)
  have hP : va_P D vwCl (WX X cI cZ cJ (mb_setF s4 9 (0 : Int32))) H := hP
  generalize mb_setF s4 9 (0 : Int32) = s5 at hP h
  refine lv_aload_n hx hb d_A_reset_28 rfl (lv_at hl 0 rfl) ?_
  refine lv_iconst (v := (0 : Int32)) hx hb d_A_reset_29 (by decide) ?_
  have h := mb_putF_ex h
  refine va_put (ci := 4) (v := .int (0 : Int32)) (ty := .int) (C := cnA) (T := fTA) (N := 13) hx hb hts uwA fyA fyA_ok fnA hown hK hP (hD _) hS 4 rfl rfl 12 (by decide) (hts _ wd_167) (fun _ h9 => h9) rfl (by decide +kernel) rfl rfl (Nat.le_of_ble_eq_true rfl) d_A_reset_30 (fun H locs hP _ hS => ?_)
  have hP : va_P D vwCl (WX X cI cZ cJ (mb_setF s5 10 (0 : Int32))) H := hP
  generalize mb_setF s5 10 (0 : Int32) = s6 at hP h
  refine lv_aload_n hx hb d_A_reset_33 rfl (lv_at hl 0 rfl) ?_
  refine lv_iconst (v := (0 : Int32)) hx hb d_A_reset_34 (by decide) ?_
  have h := mb_putF_ex h
  refine va_put (ci := 4) (v := .int (0 : Int32)) (ty := .int) (C := cnA) (T := fTA) (N := 13) hx hb hts uwA fyA fyA_ok fnA hown hK hP (hD _) hS 4 rfl rfl 3 (by decide) (hts _ wd_156) (fun _ h9 => h9) rfl (by decide +kernel) rfl rfl (Nat.le_of_ble_eq_true rfl) d_A_reset_35 (fun H locs hP _ hS => ?_)
  have hP : va_P D vwCl (WX X cI cZ cJ (mb_setF s6 5 (0 : Int32))) H := hP
  generalize mb_setF s6 5 (0 : Int32) = s7 at hP h
  refine lv_aload_n hx hb d_A_reset_38 rfl (lv_at hl 0 rfl) ?_
  refine lv_iconst (v := (0 : Int32)) hx hb d_A_reset_39 (by decide) ?_
  refine lv_iconst (v := (0 : Int32)) hx hb d_A_reset_40 (by decide) ?_
  refine lv_iconst (v := (0 : Int32)) hx hb d_A_reset_41 (by decide) ?_
  obtain ⟨_u, s8, hs8, h⟩ := mb_cal_ex h
  refine mb_goV Cx (mb_runV (As := [.int (0 : Int32), .int (0 : Int32), .int (0 : Int32)]) (rest := []) mb_ZXok Cx (w_A_begin l D X cI cZ cJ hs8 H.size) (mb_cwV 3 hts wd_460 wd_462 sel_28 wd_6 wd_463 rfl rfl rfl (by decide +kernel) ⟨Nat.le_trans (by decide) hR.1, Nat.le_trans (by decide) hR.2⟩) hP hS 4 rfl rfl rfl hl.1 rfl (Nat.le_of_ble_eq_true rfl) d_A_reset_42) hS (fun H locs hP hS => ?_)
  exact mb_eV hret h d_A_reset_45 hP hS
set_option maxRecDepth 100000 in
set_option maxHeartbeats 4000000 in
theorem zA_standsAtEnd_b45 {p : Program} {l : Launch} {e : Env} {R : Room} {s0 : State} {m : MethodId} {args : Array Value} {below : List Frame} {meth : Method} {c : Code} {Q : State → Prop} {A : Nat → Prop} {D : va_G} {X : Nat → Nat} {cI cZ cJ : ClassId} {rv : Int32} {rs : mb_S}
    (Cx : mb_C p s0 m args meth c c_A_standsAtEnd 2 lw_w cnA mb_ZX vwCl D [(cI, .int), (cZ, .boolean), (cJ, .long)] A (WX X cI cZ cJ)) (hR : 0 ≤ R.frames ∧ 0 ≤ R.locals)
    (hret : (rv = 0 ∨ rv = 1) → mb_R p l e R s0 m args below meth c Q vwCl D A (WX X cI cZ cJ) c_A_standsAtEnd .ireturn [.int rv] rs)  (y0 : Int32) (s : mb_S)
    (h : mA_standsAtEnd_b45  y0 s = some (rv, rs)) : mb_B p l e R s0 m args below meth c Q vwCl D A (WX X cI cZ cJ) 2 [] [.int y0] 45 s := by
  unfold mA_standsAtEnd_b45 at h
  intro ls H locs hl hP hS
  have Cx0 := Cx
  obtain ⟨⟨hx, hb, hml, hown, hts⟩, hK, hD, hA, hZ⟩ := Cx0
  exact mb_eZ hret h d_A_standsAtEnd_45 hP hS
set_option maxRecDepth 100000 in
set_option maxHeartbeats 4000000 in
theorem w_A_standsAtEnd (l : Launch) (D : va_G) (X : Nat → Nat) (cI cZ cJ : ClassId)  {s : mb_S} {rv : Int32} {rs : mb_S}
    (h : mA_standsAtEnd  s = some (rv, rs)) : mb_MI l y_A_standsAtEnd ws_A_standsAtEnd rm_A_standsAtEnd mb_ZX vwCl D [(cI, .int), (cZ, .boolean), (cJ, .long)] (WX X cI cZ cJ) [.ref (X 4)] s rv rs := by
  refine mb_ofZ mb_ZXok (by decide) rfl (Nat.le_of_ble_eq_true rfl) mb_DXok ?_
  intro p e s0 m args below meth c Q A Cx hret
  have hR : 0 ≤ (rm_A_standsAtEnd).frames ∧ 0 ≤ (rm_A_standsAtEnd).locals := ⟨Nat.le_refl _, Nat.le_refl _⟩
  intro ls H locs hl hP hS
  have Cx0 := Cx
  obtain ⟨⟨hx, hb, hml, hown, hts⟩, hK, hD, hA, hZ⟩ := Cx0
  have hl : lv_has ls 2 [(0, .ref (X 4))] := hl
  unfold mA_standsAtEnd at h
  refine lv_aload_n hx hb d_A_standsAtEnd_0 rfl (lv_at hl 0 rfl) ?_
  refine va_get (ci := 4) (C := cnA) (T := fTA) (N := 13) hx hb hts uwA hown hK hP 4 rfl rfl 1 (by decide) (hts _ wd_154) (fun _ h9 => h9) rfl d_A_standsAtEnd_1 ?_
  refine lv_aload_n hx hb d_A_standsAtEnd_4 rfl (lv_at hl 0 rfl) ?_
  refine va_get (ci := 4) (C := cnA) (T := fTA) (N := 13) hx hb hts uwA hown hK hP 4 rfl rfl 3 (by decide) (hts _ wd_156) (fun _ h9 => h9) rfl d_A_standsAtEnd_5 ?_
  refine lv_iconst (v := (1 : Int32)) hx hb d_A_standsAtEnd_8 (by decide) ?_
  refine lv_isub hx hb d_A_standsAtEnd_9 ?_
  refine mb_iald hx hb hK hP 23 0 rfl rfl h d_A_standsAtEnd_10 (fun v1 h => ?_)
  refine lv_istore_n (lv' := [(1, .int v1), (0, .ref (X 4))]) hx hb d_A_standsAtEnd_11 rfl hl (by decide) rfl (fun ls hl => ?_)
  refine lv_aload_n hx hb d_A_standsAtEnd_12 rfl (lv_at hl 1 rfl) ?_
  refine va_get (ci := 4) (C := cnA) (T := fTA) (N := 13) hx hb hts uwA hown hK hP 4 rfl rfl 2 (by decide) (hts _ wd_155) (fun _ h9 => h9) rfl d_A_standsAtEnd_13 ?_
  refine lv_aload_n hx hb d_A_standsAtEnd_16 rfl (lv_at hl 1 rfl) ?_
  refine va_get (ci := 4) (C := cnA) (T := fTA) (N := 13) hx hb hts uwA hown hK hP 4 rfl rfl 3 (by decide) (hts _ wd_156) (fun _ h9 => h9) rfl d_A_standsAtEnd_17 ?_
  refine lv_iconst (v := (1 : Int32)) hx hb d_A_standsAtEnd_20 (by decide) ?_
  refine lv_isub hx hb d_A_standsAtEnd_21 ?_
  refine mb_iald hx hb hK hP 24 0 rfl rfl h d_A_standsAtEnd_22 (fun v2 h => ?_)
  refine lv_iload_n hx hb d_A_standsAtEnd_23 rfl (lv_at hl 0 rfl) ?_
  refine lv_bipush (v := (13 : Int32)) hx hb d_A_standsAtEnd_24 (by decide) ?_
  refine lv_imul hx hb d_A_standsAtEnd_26 ?_
  refine lv_aload_n hx hb d_A_standsAtEnd_27 rfl (lv_at hl 1 rfl) ?_
  refine va_get (ci := 4) (C := cnA) (T := fTA) (N := 13) hx hb hts uwA hown hK hP 4 rfl rfl 0 (by decide) (hts _ wd_153) (fun _ h9 => h9) rfl d_A_standsAtEnd_28 ?_
  refine va_get (ci := 1) (C := cnP) (T := fTP) (N := 12) hx hb hts uwP hown hK hP 1 rfl rfl 5 (by decide) (hts _ wd_52) (fun _ h9 => h9) rfl d_A_standsAtEnd_31 ?_
  refine lv_iload_n hx hb d_A_standsAtEnd_34 rfl (lv_at hl 0 rfl) ?_
  refine mb_iald hx hb hK hP 10 0 rfl rfl h d_A_standsAtEnd_35 (fun v3 h => ?_)
  refine lv_iadd hx hb d_A_standsAtEnd_36 ?_
  refine lv_icmp_ne hx hb d_A_standsAtEnd_37 rfl (fun hc => ?_) (fun hc => ?_)
  · have h := mb_f hc h
    refine lv_iconst (v := (0 : Int32)) hx hb d_A_standsAtEnd_44 (by decide) ?_
    exact zA_standsAtEnd_b45 Cx hR hret  (0 : Int32) s h ls H locs (lv_sub hl [] rfl) hP hS
  · have h := mb_t hc h
    refine lv_iconst (v := (1 : Int32)) hx hb d_A_standsAtEnd_40 (by decide) ?_
    refine lv_goto hx hb d_A_standsAtEnd_41 rfl ?_
    exact zA_standsAtEnd_b45 Cx hR hret  (1 : Int32) s h ls H locs (lv_sub hl [] rfl) hP hS
set_option maxRecDepth 100000 in
set_option maxHeartbeats 4000000 in
theorem zA_endMethod_b68 {p : Program} {l : Launch} {e : Env} {R : Room} {s0 : State} {m : MethodId} {args : Array Value} {below : List Frame} {meth : Method} {c : Code} {Q : State → Prop} {A : Nat → Prop} {D : va_G} {X : Nat → Nat} {cI cZ cJ : ClassId} {rv : Unit} {rs : mb_S}
    (Cx : mb_C p s0 m args meth c c_A_endMethod 3 lw_w cnA mb_ZX vwCl D [(cI, .int), (cZ, .boolean), (cJ, .long)] A (WX X cI cZ cJ)) (hR : 0 ≤ R.frames ∧ 0 ≤ R.locals)
    (hret : mb_R p l e R s0 m args below meth c Q vwCl D A (WX X cI cZ cJ) c_A_endMethod .return_ [] rs)   (s : mb_S)
    (h : mA_endMethod_b68  s = some (rv, rs)) : mb_B p l e R s0 m args below meth c Q vwCl D A (WX X cI cZ cJ) 3 [] [] 68 s := by
  unfold mA_endMethod_b68 at h
  intro ls H locs hl hP hS
  have Cx0 := Cx
  obtain ⟨⟨hx, hb, hml, hown, hts⟩, hK, hD, hA, hZ⟩ := Cx0
  exact mb_eV hret h d_A_endMethod_68 hP hS
set_option maxRecDepth 100000 in
set_option maxHeartbeats 4000000 in
theorem w_A_endMethod (l : Launch) (D : va_G) (X : Nat → Nat) (cI cZ cJ : ClassId) {x1 : Int32} {s : mb_S} {rv : Unit} {rs : mb_S}
    (h : mA_endMethod x1 s = some (rv, rs)) : mb_MV l y_A_endMethod ws_A_endMethod rm_A_endMethod mb_ZX vwCl D [(cI, .int), (cZ, .boolean), (cJ, .long)] (WX X cI cZ cJ) [.ref (X 4), .int x1] s rs := by
  refine mb_ofV mb_ZXok (by decide) rfl (Nat.le_of_ble_eq_true rfl) mb_DXok ?_
  intro p e s0 m args below meth c Q A Cx hret
  have hR : 0 ≤ (rm_A_endMethod).frames ∧ 0 ≤ (rm_A_endMethod).locals := ⟨Nat.le_refl _, Nat.le_refl _⟩
  intro ls H locs hl hP hS
  have Cx0 := Cx
  obtain ⟨⟨hx, hb, hml, hown, hts⟩, hK, hD, hA, hZ⟩ := Cx0
  have hl : lv_has ls 3 [(0, .ref (X 4)), (1, .int x1)] := hl
  unfold mA_endMethod at h
  refine lv_aload_n hx hb d_A_endMethod_0 rfl (lv_at hl 0 rfl) ?_
  refine lv_dup hx hb d_A_endMethod_1 rfl ?_
  refine va_get (ci := 4) (C := cnA) (T := fTA) (N := 13) hx hb hts uwA hown hK hP 4 rfl rfl 3 (by decide) (hts _ wd_156) (fun _ h9 => h9) rfl d_A_endMethod_2 ?_
  refine lv_iconst (v := (1 : Int32)) hx hb d_A_endMethod_5 (by decide) ?_
  refine lv_isub hx hb d_A_endMethod_6 ?_
  have h := mb_putF_ex h
  refine va_put (ci := 4) (v := .int ((mb_F s 5) - (1 : Int32))) (ty := .int) (C := cnA) (T := fTA) (N := 13) hx hb hts uwA fyA fyA_ok fnA hown hK hP (hD _) hS 4 rfl rfl 3 (by decide) (hts _ wd_156) (fun _ h9 => h9) rfl (by decide +kernel) rfl rfl (Nat.le_of_ble_eq_true rfl) d_A_endMethod_7 (fun H locs hP _ hS => ?_)
  have hP : va_P D vwCl (WX X cI cZ cJ (mb_setF s 5 ((mb_F s 5) - (1 : Int32)))) H := hP
  generalize mb_setF s 5 ((mb_F s 5) - (1 : Int32)) = s1 at hP h
  refine lv_aload_n hx hb d_A_endMethod_10 rfl (lv_at hl 0 rfl) ?_
  refine va_get (ci := 4) (C := cnA) (T := fTA) (N := 13) hx hb hts uwA hown hK hP 4 rfl rfl 3 (by decide) (hts _ wd_156) (fun _ h9 => h9) rfl d_A_endMethod_11 ?_
  refine lv_if_le hx hb d_A_endMethod_14 rfl (fun hc => ?_) (fun hc => ?_)
  · have h := mb_t hc h
    exact zA_endMethod_b68 Cx hR hret  s1 h ls H locs (lv_sub hl [] rfl) hP hS
  · have h := mb_f hc h
    refine lv_aload_n hx hb d_A_endMethod_17 rfl (lv_at hl 0 rfl) ?_
    refine va_get (ci := 4) (C := cnA) (T := fTA) (N := 13) hx hb hts uwA hown hK hP 4 rfl rfl 0 (by decide) (hts _ wd_153) (fun _ h9 => h9) rfl d_A_endMethod_18 ?_
    refine va_get (ci := 1) (C := cnP) (T := fTP) (N := 12) hx hb hts uwP hown hK hP 1 rfl rfl 1 (by decide) (hts _ wd_34) (fun _ h9 => h9) rfl d_A_endMethod_21 ?_
    refine lv_aload_n hx hb d_A_endMethod_24 rfl (lv_at hl 0 rfl) ?_
    refine va_get (ci := 4) (C := cnA) (T := fTA) (N := 13) hx hb hts uwA hown hK hP 4 rfl rfl 2 (by decide) (hts _ wd_155) (fun _ h9 => h9) rfl d_A_endMethod_25 ?_
    refine lv_aload_n hx hb d_A_endMethod_28 rfl (lv_at hl 0 rfl) ?_
    refine va_get (ci := 4) (C := cnA) (T := fTA) (N := 13) hx hb hts uwA hown hK hP 4 rfl rfl 3 (by decide) (hts _ wd_156) (fun _ h9 => h9) rfl d_A_endMethod_29 ?_
    refine lv_iconst (v := (1 : Int32)) hx hb d_A_endMethod_32 (by decide) ?_
    refine lv_isub hx hb d_A_endMethod_33 ?_
    refine mb_iald hx hb hK hP 24 0 rfl rfl h d_A_endMethod_34 (fun v2 h => ?_)
    refine mb_iald hx hb hK hP 6 0 rfl rfl h d_A_endMethod_35 (fun v3 h => ?_)
    refine lv_istore_n (lv' := [(2, .int v3), (0, .ref (X 4)), (1, .int x1)]) hx hb d_A_endMethod_36 rfl hl (by decide) rfl (fun ls hl => ?_)
    refine lv_aload_n hx hb d_A_endMethod_37 rfl (lv_at hl 1 rfl) ?_
    refine va_get (ci := 4) (C := cnA) (T := fTA) (N := 13) hx hb hts uwA hown hK hP 4 rfl rfl 4 (by decide) (hts _ wd_157) (fun _ h9 => h9) rfl d_A_endMethod_38 ?_
    refine lv_aload_n hx hb d_A_endMethod_41 rfl (lv_at hl 1 rfl) ?_
    refine va_get (ci := 4) (C := cnA) (T := fTA) (N := 13) hx hb hts uwA hown hK hP 4 rfl rfl 3 (by decide) (hts _ wd_156) (fun _ h9 => h9) rfl d_A_endMethod_42 ?_
    refine lv_iconst (v := (1 : Int32)) hx hb d_A_endMethod_45 (by decide) ?_
    refine lv_isub hx hb d_A_endMethod_46 ?_
    refine lv_iconst (v := (4 : Int32)) hx hb d_A_endMethod_47 (by decide) ?_
    refine lv_imul hx hb d_A_endMethod_48 ?_
    refine lv_iload_n hx hb d_A_endMethod_49 rfl (lv_at hl 0 rfl) ?_
    refine lv_iadd hx hb d_A_endMethod_50 ?_
    refine lv_iload_n hx hb d_A_endMethod_51 rfl (lv_at hl 2 rfl) ?_
    refine mb_iast (WS := WX X cI cZ cJ) hx hb hK hP hD hS 25 0 rfl rfl h d_A_endMethod_52 rfl (fun H locs s4 hP hS h => ?_)
    refine lv_aload_n hx hb d_A_endMethod_53 rfl (lv_at hl 1 rfl) ?_
    refine va_get (ci := 4) (C := cnA) (T := fTA) (N := 13) hx hb hts uwA hown hK hP 4 rfl rfl 2 (by decide) (hts _ wd_155) (fun _ h9 => h9) rfl d_A_endMethod_54 ?_
    refine lv_aload_n hx hb d_A_endMethod_57 rfl (lv_at hl 1 rfl) ?_
    refine va_get (ci := 4) (C := cnA) (T := fTA) (N := 13) hx hb hts uwA hown hK hP 4 rfl rfl 3 (by decide) (hts _ wd_156) (fun _ h9 => h9) rfl d_A_endMethod_58 ?_
    refine lv_iconst (v := (1 : Int32)) hx hb d_A_endMethod_61 (by decide) ?_
    refine lv_isub hx hb d_A_endMethod_62 ?_
    refine lv_dup2_11 hx hb d_A_endMethod_63 rfl rfl ?_
    refine mb_iald hx hb hK hP 24 0 rfl rfl h d_A_endMethod_64 (fun v5 h => ?_)
    refine lv_iconst (v := (1 : Int32)) hx hb d_A_endMethod_65 (by decide) ?_
    refine lv_iadd hx hb d_A_endMethod_66 ?_
    refine mb_iast (WS := WX X cI cZ cJ) hx hb hK hP hD hS 24 0 rfl rfl h d_A_endMethod_67 rfl (fun H locs s6 hP hS h => ?_)
    exact zA_endMethod_b68 Cx hR hret  s6 h ls H locs (lv_sub hl [] rfl) hP hS
set_option maxRecDepth 100000 in
set_option maxHeartbeats 4000000 in
theorem zA_endMethods_b33 {p : Program} {l : Launch} {e : Env} {R : Room} {s0 : State} {m : MethodId} {args : Array Value} {below : List Frame} {meth : Method} {c : Code} {Q : State → Prop} {A : Nat → Prop} {D : va_G} {X : Nat → Nat} {cI cZ cJ : ClassId} {rv : Unit} {rs : mb_S}
    (Cx : mb_C p s0 m args meth c c_A_endMethods 2 lw_w cnA mb_ZX vwCl D [(cI, .int), (cZ, .boolean), (cJ, .long)] A (WX X cI cZ cJ)) (hR : 1 ≤ R.frames ∧ 22 ≤ R.locals)
    (hret : mb_R p l e R s0 m args below meth c Q vwCl D A (WX X cI cZ cJ) c_A_endMethods .return_ [] rs)   (s : mb_S)
    (h : mA_endMethods_b33  s = some (rv, rs)) : mb_B p l e R s0 m args below meth c Q vwCl D A (WX X cI cZ cJ) 2 [] [] 33 s := by
  unfold mA_endMethods_b33 at h
  intro ls H locs hl hP hS
  have Cx0 := Cx
  obtain ⟨⟨hx, hb, hml, hown, hts⟩, hK, hD, hA, hZ⟩ := Cx0
  exact mb_eV hret h d_A_endMethods_33 hP hS
set_option maxRecDepth 100000 in
set_option maxHeartbeats 4000000 in
theorem zA_endMethods_l2 {p : Program} {l : Launch} {e : Env} {R : Room} {s0 : State} {m : MethodId} {args : Array Value} {below : List Frame} {meth : Method} {c : Code} {Q : State → Prop} {A : Nat → Prop} {D : va_G} {X : Nat → Nat} {cI cZ cJ : ClassId} {rv : Unit} {rs : mb_S}
    (Cx : mb_C p s0 m args meth c c_A_endMethods 2 lw_w cnA mb_ZX vwCl D [(cI, .int), (cZ, .boolean), (cJ, .long)] A (WX X cI cZ cJ)) (hR : 1 ≤ R.frames ∧ 22 ≤ R.locals)
    (hret : mb_R p l e R s0 m args below meth c Q vwCl D A (WX X cI cZ cJ) c_A_endMethods .return_ [] rs)  :
    ∀ (n : Nat) (x1 : Int32) (s : mb_S), mA_endMethods_l2  n x1 s = some (rv, rs) → mb_B p l e R s0 m args below meth c Q vwCl D A (WX X cI cZ cJ) 2 [(0, .ref (X 4)), (1, .int x1)] [] 2 s := by
  intro n
  induction n with
  | zero => intro x1 s h; cases h
  | succ n ih =>
    intro x1 s h
    rw [mA_endMethods_l2_s] at h
    intro ls H locs hl hP hS
    have Cx0 := Cx
    obtain ⟨⟨hx, hb, hml, hown, hts⟩, hK, hD, hA, hZ⟩ := Cx0
    refine lv_iload_n hx hb d_A_endMethods_2 rfl (lv_at hl 1 rfl) ?_
    refine lv_bipush (v := (6 : Int32)) hx hb d_A_endMethods_3 (by decide) ?_
    refine lv_icmp_ge hx hb d_A_endMethods_5 rfl (fun hc => ?_) (fun hc => ?_)
    · have h := mb_t hc h
      exact zA_endMethods_b33 Cx hR hret  s h ls H locs (lv_sub hl [] rfl) hP hS
    · have h := mb_f hc h
      refine lv_aload_n hx hb d_A_endMethods_8 rfl (lv_at hl 0 rfl) ?_
      refine va_get (ci := 4) (C := cnA) (T := fTA) (N := 13) hx hb hts uwA hown hK hP 4 rfl rfl 3 (by decide) (hts _ wd_156) (fun _ h9 => h9) rfl d_A_endMethods_9 ?_
      refine lv_if_le hx hb d_A_endMethods_12 rfl (fun hc => ?_) (fun hc => ?_)
      · have h := mb_t hc h
        exact zA_endMethods_b33 Cx hR hret  s h ls H locs (lv_sub hl [] rfl) hP hS
      · have h := mb_f hc h
        refine lv_aload_n hx hb d_A_endMethods_15 rfl (lv_at hl 0 rfl) ?_
        obtain ⟨v1, s2, hs2, h⟩ := mb_cal_ex h
        refine mb_goI Cx (mb_runV (As := []) (rest := []) mb_ZXok Cx (w_A_standsAtEnd l D X cI cZ cJ hs2 H.size) (mb_cwV 0 hts wd_468 wd_470 sel_30 wd_6 wd_471 rfl rfl rfl (by decide +kernel) ⟨Nat.le_trans (by decide) hR.1, Nat.le_trans (by decide) hR.2⟩) hP hS 4 rfl rfl rfl hl.1 rfl (Nat.le_of_ble_eq_true rfl) d_A_endMethods_16) hS (fun H locs hP hS => ?_)
        refine lv_if_eq hx hb d_A_endMethods_19 rfl (fun hc => ?_) (fun hc => ?_)
        · have h := mb_t hc h
          exact zA_endMethods_b33 Cx hR hret  s2 h ls H locs (lv_sub hl [] rfl) hP hS
        · have h := mb_f hc h
          refine lv_aload_n hx hb d_A_endMethods_22 rfl (lv_at hl 0 rfl) ?_
          refine lv_iconst (v := (0 : Int32)) hx hb d_A_endMethods_23 (by decide) ?_
          obtain ⟨_u, s3, hs3, h⟩ := mb_cal_ex h
          refine mb_goV Cx (mb_runV (As := [.int (0 : Int32)]) (rest := []) mb_ZXok Cx (w_A_endMethod l D X cI cZ cJ hs3 H.size) (mb_cwV 1 hts wd_472 wd_474 sel_31 wd_6 wd_475 rfl rfl rfl (by decide +kernel) ⟨Nat.le_trans (by decide) hR.1, Nat.le_trans (by decide) hR.2⟩) hP hS 4 rfl rfl rfl hl.1 rfl (Nat.le_of_ble_eq_true rfl) d_A_endMethods_24) hS (fun H locs hP hS => ?_)
          obtain ⟨v4, ev4, h⟩ := mb_ex h
          refine lv_iinc (k := 1) (v := v4) (lv' := [(1, .int v4), (0, .ref (X 4))]) hx hb d_A_endMethods_27 hl rfl ev4 (by decide) rfl (fun ls hl => ?_)
          refine lv_goto hx hb d_A_endMethods_30 rfl ?_
          exact ih v4 s3 h ls H locs (lv_sub hl [1, 0] rfl) hP hS
set_option maxRecDepth 100000 in
set_option maxHeartbeats 4000000 in
theorem w_A_endMethods (l : Launch) (D : va_G) (X : Nat → Nat) (cI cZ cJ : ClassId)  {s : mb_S} {rv : Unit} {rs : mb_S}
    (h : mA_endMethods  s = some (rv, rs)) : mb_MV l y_A_endMethods ws_A_endMethods rm_A_endMethods mb_ZX vwCl D [(cI, .int), (cZ, .boolean), (cJ, .long)] (WX X cI cZ cJ) [.ref (X 4)] s rs := by
  refine mb_ofV mb_ZXok (by decide) rfl (Nat.le_of_ble_eq_true rfl) mb_DXok ?_
  intro p e s0 m args below meth c Q A Cx hret
  have hR : 1 ≤ (rm_A_endMethods).frames ∧ 22 ≤ (rm_A_endMethods).locals := ⟨Nat.le_refl _, Nat.le_refl _⟩
  intro ls H locs hl hP hS
  have Cx0 := Cx
  obtain ⟨⟨hx, hb, hml, hown, hts⟩, hK, hD, hA, hZ⟩ := Cx0
  have hl : lv_has ls 2 [(0, .ref (X 4))] := hl
  unfold mA_endMethods at h
  refine lv_iconst (v := (0 : Int32)) hx hb d_A_endMethods_0 (by decide) ?_
  refine lv_istore_n (lv' := [(1, .int (0 : Int32)), (0, .ref (X 4))]) hx hb d_A_endMethods_1 rfl hl (by decide) rfl (fun ls hl => ?_)
  exact zA_endMethods_l2 Cx hR hret  mb_fuel (0 : Int32) s h ls H locs (lv_sub hl [1, 0] rfl) hP hS
set_option maxRecDepth 100000 in
set_option maxHeartbeats 4000000 in
theorem w_A_objectOf (l : Launch) (D : va_G) (X : Nat → Nat) (cI cZ cJ : ClassId) {x1 : Int32} {s : mb_S} {rv : Int32} {rs : mb_S}
    (h : mA_objectOf x1 s = some (rv, rs)) : mb_MI l y_A_objectOf ws_A_objectOf rm_A_objectOf mb_ZX vwCl D [(cI, .int), (cZ, .boolean), (cJ, .long)] (WX X cI cZ cJ) [.ref (X 4), .int x1] s rv rs := by
  refine mb_ofI mb_ZXok (by decide) rfl (Nat.le_of_ble_eq_true rfl) mb_DXok ?_
  intro p e s0 m args below meth c Q A Cx hret
  have hR : 0 ≤ (rm_A_objectOf).frames ∧ 0 ≤ (rm_A_objectOf).locals := ⟨Nat.le_refl _, Nat.le_refl _⟩
  intro ls H locs hl hP hS
  have Cx0 := Cx
  obtain ⟨⟨hx, hb, hml, hown, hts⟩, hK, hD, hA, hZ⟩ := Cx0
  have hl : lv_has ls 2 [(0, .ref (X 4)), (1, .int x1)] := hl
  unfold mA_objectOf at h
  refine lv_aload_n hx hb d_A_objectOf_0 rfl (lv_at hl 0 rfl) ?_
  refine va_get (ci := 4) (C := cnA) (T := fTA) (N := 13) hx hb hts uwA hown hK hP 4 rfl rfl 4 (by decide) (hts _ wd_157) (fun _ h9 => h9) rfl d_A_objectOf_1 ?_
  refine lv_aload_n hx hb d_A_objectOf_4 rfl (lv_at hl 0 rfl) ?_
  refine va_get (ci := 4) (C := cnA) (T := fTA) (N := 13) hx hb hts uwA hown hK hP 4 rfl rfl 3 (by decide) (hts _ wd_156) (fun _ h9 => h9) rfl d_A_objectOf_5 ?_
  refine lv_iconst (v := (1 : Int32)) hx hb d_A_objectOf_8 (by decide) ?_
  refine lv_isub hx hb d_A_objectOf_9 ?_
  refine lv_iconst (v := (4 : Int32)) hx hb d_A_objectOf_10 (by decide) ?_
  refine lv_imul hx hb d_A_objectOf_11 ?_
  refine lv_iload_n hx hb d_A_objectOf_12 rfl (lv_at hl 1 rfl) ?_
  refine lv_iadd hx hb d_A_objectOf_13 ?_
  refine mb_iald hx hb hK hP 25 0 rfl rfl h d_A_objectOf_14 (fun v1 h => ?_)
  refine lv_iconst (v := (4 : Int32)) hx hb d_A_objectOf_15 (by decide) ?_
  refine lv_ishr hx hb d_A_objectOf_16 ?_
  refine lv_iconst (v := (1 : Int32)) hx hb d_A_objectOf_17 (by decide) ?_
  refine lv_isub hx hb d_A_objectOf_18 ?_
  exact mb_eI hret h d_A_objectOf_19 hP hS
set_option maxRecDepth 100000 in
set_option maxHeartbeats 4000000 in
theorem w_A_calledMethod (l : Launch) (D : va_G) (X : Nat → Nat) (cI cZ cJ : ClassId) {x1 : Int32} {s : mb_S} {rv : Int32} {rs : mb_S}
    (h : mA_calledMethod x1 s = some (rv, rs)) : mb_MI l y_A_calledMethod ws_A_calledMethod rm_A_calledMethod mb_ZX vwCl D [(cI, .int), (cZ, .boolean), (cJ, .long)] (WX X cI cZ cJ) [.ref (X 4), .int x1] s rv rs := by
  refine mb_ofI mb_ZXok (by decide) rfl (Nat.le_of_ble_eq_true rfl) mb_DXok ?_
  intro p e s0 m args below meth c Q A Cx hret
  have hR : 1 ≤ (rm_A_calledMethod).frames ∧ 25 ≤ (rm_A_calledMethod).locals := ⟨Nat.le_refl _, Nat.le_refl _⟩
  intro ls H locs hl hP hS
  have Cx0 := Cx
  obtain ⟨⟨hx, hb, hml, hown, hts⟩, hK, hD, hA, hZ⟩ := Cx0
  have hl : lv_has ls 3 [(0, .ref (X 4)), (1, .int x1)] := hl
  unfold mA_calledMethod at h
  refine lv_aload_n hx hb d_A_calledMethod_0 rfl (lv_at hl 0 rfl) ?_
  refine lv_aload_n hx hb d_A_calledMethod_1 rfl (lv_at hl 0 rfl) ?_
  refine va_get (ci := 4) (C := cnA) (T := fTA) (N := 13) hx hb hts uwA hown hK hP 4 rfl rfl 0 (by decide) (hts _ wd_153) (fun _ h9 => h9) rfl d_A_calledMethod_2 ?_
  refine va_get (ci := 1) (C := cnP) (T := fTP) (N := 12) hx hb hts uwP hown hK hP 1 rfl rfl 2 (by decide) (hts _ wd_38) (fun _ h9 => h9) rfl d_A_calledMethod_5 ?_
  refine lv_iload_n hx hb d_A_calledMethod_8 rfl (lv_at hl 1 rfl) ?_
  refine mb_iald hx hb hK hP 7 0 rfl rfl h d_A_calledMethod_9 (fun v1 h => ?_)
  obtain ⟨v2, s3, hs3, h⟩ := mb_cal_ex h
  refine mb_goI Cx (mb_runV (As := [.int v1]) (rest := []) mb_ZXok Cx (w_A_objectOf l D X cI cZ cJ hs3 H.size) (mb_cwV 1 hts wd_480 wd_482 sel_33 wd_6 wd_483 rfl rfl rfl (by decide +kernel) ⟨Nat.le_trans (by decide) hR.1, Nat.le_trans (by decide) hR.2⟩) hP hS 4 rfl rfl rfl hl.1 rfl (Nat.le_of_ble_eq_true rfl) d_A_calledMethod_10) hS (fun H locs hP hS => ?_)
  refine lv_istore_n (lv' := [(2, .int v2), (0, .ref (X 4)), (1, .int x1)]) hx hb d_A_calledMethod_13 rfl hl (by decide) rfl (fun ls hl => ?_)
  refine lv_iload_n hx hb d_A_calledMethod_14 rfl (lv_at hl 0 rfl) ?_
  refine lv_iconst (v := (-1 : Int32)) hx hb d_A_calledMethod_15 (by decide) ?_
  refine lv_icmp_ne hx hb d_A_calledMethod_16 rfl (fun hc => ?_) (fun hc => ?_)
  · have h := mb_f hc h
    refine lv_aload_n hx hb d_A_calledMethod_21 rfl (lv_at hl 1 rfl) ?_
    refine va_get (ci := 4) (C := cnA) (T := fTA) (N := 13) hx hb hts uwA hown hK hP 4 rfl rfl 0 (by decide) (hts _ wd_153) (fun _ h9 => h9) rfl d_A_calledMethod_22 ?_
    refine lv_aload_n hx hb d_A_calledMethod_25 rfl (lv_at hl 1 rfl) ?_
    refine va_get (ci := 4) (C := cnA) (T := fTA) (N := 13) hx hb hts uwA hown hK hP 4 rfl rfl 5 (by decide) (hts _ wd_158) (fun _ h9 => h9) rfl d_A_calledMethod_26 ?_
    refine lv_iload_n hx hb d_A_calledMethod_29 rfl (lv_at hl 0 rfl) ?_
    refine mb_iald hx hb hK hP 26 0 rfl rfl h d_A_calledMethod_30 (fun v4 h => ?_)
    refine lv_aload_n hx hb d_A_calledMethod_31 rfl (lv_at hl 1 rfl) ?_
    refine va_get (ci := 4) (C := cnA) (T := fTA) (N := 13) hx hb hts uwA hown hK hP 4 rfl rfl 0 (by decide) (hts _ wd_153) (fun _ h9 => h9) rfl d_A_calledMethod_32 ?_
    refine va_get (ci := 1) (C := cnP) (T := fTP) (N := 12) hx hb hts uwP hown hK hP 1 rfl rfl 3 (by decide) (hts _ wd_43) (fun _ h9 => h9) rfl d_A_calledMethod_35 ?_
    refine lv_iload_n hx hb d_A_calledMethod_38 rfl (lv_at hl 2 rfl) ?_
    refine mb_iald hx hb hK hP 8 0 rfl rfl h d_A_calledMethod_39 (fun v5 h => ?_)
    refine lv_iconst (v := (4 : Int32)) hx hb d_A_calledMethod_40 (by decide) ?_
    refine lv_idiv hx hb d_A_calledMethod_41 (by decide) ?_
    obtain ⟨v6, s7, hs7, h⟩ := mb_cal_ex h
    refine mb_goI Cx (mb_runV (As := [.int v4, .int (v5 / (4 : Int32))]) (rest := []) mb_ZXok Cx (w_P_targetOf l D X cI cZ cJ hs7 H.size) (mb_cwV 2 hts wd_488 wd_262 wd_263 wd_2 wd_264 rfl rfl rfl (by decide +kernel) ⟨Nat.le_trans (by decide) hR.1, Nat.le_trans (by decide) hR.2⟩) hP hS 1 rfl rfl rfl hl.1 rfl (Nat.le_of_ble_eq_true rfl) d_A_calledMethod_42) hS (fun H locs hP hS => ?_)
    exact mb_eI hret h d_A_calledMethod_45 hP hS
  · have h := mb_t hc h
    refine lv_iconst (v := (-1 : Int32)) hx hb d_A_calledMethod_19 (by decide) ?_
    exact mb_eI hret h d_A_calledMethod_20 hP hS
set_option maxRecDepth 100000 in
set_option maxHeartbeats 4000000 in
theorem zA_endingBeforeStep_b175 {p : Program} {l : Launch} {e : Env} {R : Room} {s0 : State} {m : MethodId} {args : Array Value} {below : List Frame} {meth : Method} {c : Code} {Q : State → Prop} {A : Nat → Prop} {D : va_G} {X : Nat → Nat} {cI cZ cJ : ClassId} {rv : Int32} {rs : mb_S}
    (Cx : mb_C p s0 m args meth c c_A_endingBeforeStep 3 lw_w cnA mb_ZX vwCl D [(cI, .int), (cZ, .boolean), (cJ, .long)] A (WX X cI cZ cJ)) (hR : 2 ≤ R.frames ∧ 47 ≤ R.locals)
    (hret : mb_R p l e R s0 m args below meth c Q vwCl D A (WX X cI cZ cJ) c_A_endingBeforeStep .ireturn [.int rv] rs)   (s : mb_S)
    (h : mA_endingBeforeStep_b175  s = some (rv, rs)) : mb_B p l e R s0 m args below meth c Q vwCl D A (WX X cI cZ cJ) 3 [] [] 175 s := by
  unfold mA_endingBeforeStep_b175 at h
  intro ls H locs hl hP hS
  have Cx0 := Cx
  obtain ⟨⟨hx, hb, hml, hown, hts⟩, hK, hD, hA, hZ⟩ := Cx0
  refine lv_iconst (v := (0 : Int32)) hx hb d_A_endingBeforeStep_175 (by decide) ?_
  exact mb_eI hret h d_A_endingBeforeStep_176 hP hS
set_option maxRecDepth 100000 in
set_option maxHeartbeats 4000000 in
theorem zA_endingBeforeStep_b174 {p : Program} {l : Launch} {e : Env} {R : Room} {s0 : State} {m : MethodId} {args : Array Value} {below : List Frame} {meth : Method} {c : Code} {Q : State → Prop} {A : Nat → Prop} {D : va_G} {X : Nat → Nat} {cI cZ cJ : ClassId} {rv : Int32} {rs : mb_S}
    (Cx : mb_C p s0 m args meth c c_A_endingBeforeStep 3 lw_w cnA mb_ZX vwCl D [(cI, .int), (cZ, .boolean), (cJ, .long)] A (WX X cI cZ cJ)) (hR : 2 ≤ R.frames ∧ 47 ≤ R.locals)
    (hret : mb_R p l e R s0 m args below meth c Q vwCl D A (WX X cI cZ cJ) c_A_endingBeforeStep .ireturn [.int rv] rs)  (y0 : Int32) (s : mb_S)
    (h : mA_endingBeforeStep_b174  y0 s = some (rv, rs)) : mb_B p l e R s0 m args below meth c Q vwCl D A (WX X cI cZ cJ) 3 [] [.int y0] 174 s := by
  unfold mA_endingBeforeStep_b174 at h
  intro ls H locs hl hP hS
  have Cx0 := Cx
  obtain ⟨⟨hx, hb, hml, hown, hts⟩, hK, hD, hA, hZ⟩ := Cx0
  exact mb_eI hret h d_A_endingBeforeStep_174 hP hS
set_option maxRecDepth 100000 in
set_option maxHeartbeats 4000000 in
theorem zA_endingBeforeStep_b148 {p : Program} {l : Launch} {e : Env} {R : Room} {s0 : State} {m : MethodId} {args : Array Value} {below : List Frame} {meth : Method} {c : Code} {Q : State → Prop} {A : Nat → Prop} {D : va_G} {X : Nat → Nat} {cI cZ cJ : ClassId} {rv : Int32} {rs : mb_S}
    (Cx : mb_C p s0 m args meth c c_A_endingBeforeStep 3 lw_w cnA mb_ZX vwCl D [(cI, .int), (cZ, .boolean), (cJ, .long)] A (WX X cI cZ cJ)) (hR : 2 ≤ R.frames ∧ 47 ≤ R.locals)
    (hret : mb_R p l e R s0 m args below meth c Q vwCl D A (WX X cI cZ cJ) c_A_endingBeforeStep .ireturn [.int rv] rs)  (y0 : Int32) (s : mb_S)
    (h : mA_endingBeforeStep_b148  y0 s = some (rv, rs)) : mb_B p l e R s0 m args below meth c Q vwCl D A (WX X cI cZ cJ) 3 [] [.int y0] 148 s := by
  unfold mA_endingBeforeStep_b148 at h
  intro ls H locs hl hP hS
  have Cx0 := Cx
  obtain ⟨⟨hx, hb, hml, hown, hts⟩, hK, hD, hA, hZ⟩ := Cx0
  exact mb_eI hret h d_A_endingBeforeStep_148 hP hS
set_option maxRecDepth 100000 in
set_option maxHeartbeats 4000000 in
theorem zA_endingBeforeStep_b125 {p : Program} {l : Launch} {e : Env} {R : Room} {s0 : State} {m : MethodId} {args : Array Value} {below : List Frame} {meth : Method} {c : Code} {Q : State → Prop} {A : Nat → Prop} {D : va_G} {X : Nat → Nat} {cI cZ cJ : ClassId} {rv : Int32} {rs : mb_S}
    (Cx : mb_C p s0 m args meth c c_A_endingBeforeStep 3 lw_w cnA mb_ZX vwCl D [(cI, .int), (cZ, .boolean), (cJ, .long)] A (WX X cI cZ cJ)) (hR : 2 ≤ R.frames ∧ 47 ≤ R.locals)
    (hret : mb_R p l e R s0 m args below meth c Q vwCl D A (WX X cI cZ cJ) c_A_endingBeforeStep .ireturn [.int rv] rs)  (y0 : Int32) (s : mb_S)
    (h : mA_endingBeforeStep_b125  y0 s = some (rv, rs)) : mb_B p l e R s0 m args below meth c Q vwCl D A (WX X cI cZ cJ) 3 [] [.int y0] 125 s := by
  unfold mA_endingBeforeStep_b125 at h
  intro ls H locs hl hP hS
  have Cx0 := Cx
  obtain ⟨⟨hx, hb, hml, hown, hts⟩, hK, hD, hA, hZ⟩ := Cx0
  exact mb_eI hret h d_A_endingBeforeStep_125 hP hS
set_option maxRecDepth 100000 in
set_option maxHeartbeats 4000000 in
theorem zA_endingBeforeStep_b102 {p : Program} {l : Launch} {e : Env} {R : Room} {s0 : State} {m : MethodId} {args : Array Value} {below : List Frame} {meth : Method} {c : Code} {Q : State → Prop} {A : Nat → Prop} {D : va_G} {X : Nat → Nat} {cI cZ cJ : ClassId} {rv : Int32} {rs : mb_S}
    (Cx : mb_C p s0 m args meth c c_A_endingBeforeStep 3 lw_w cnA mb_ZX vwCl D [(cI, .int), (cZ, .boolean), (cJ, .long)] A (WX X cI cZ cJ)) (hR : 2 ≤ R.frames ∧ 47 ≤ R.locals)
    (hret : mb_R p l e R s0 m args below meth c Q vwCl D A (WX X cI cZ cJ) c_A_endingBeforeStep .ireturn [.int rv] rs)  (y0 : Int32) (s : mb_S)
    (h : mA_endingBeforeStep_b102  y0 s = some (rv, rs)) : mb_B p l e R s0 m args below meth c Q vwCl D A (WX X cI cZ cJ) 3 [] [.int y0] 102 s := by
  unfold mA_endingBeforeStep_b102 at h
  intro ls H locs hl hP hS
  have Cx0 := Cx
  obtain ⟨⟨hx, hb, hml, hown, hts⟩, hK, hD, hA, hZ⟩ := Cx0
  exact mb_eI hret h d_A_endingBeforeStep_102 hP hS
set_option maxRecDepth 100000 in
set_option maxHeartbeats 4000000 in
theorem w_A_endingBeforeStep (l : Launch) (D : va_G) (X : Nat → Nat) (cI cZ cJ : ClassId) {x1 : Int32} {s : mb_S} {rv : Int32} {rs : mb_S}
    (h : mA_endingBeforeStep x1 s = some (rv, rs)) : mb_MI l y_A_endingBeforeStep ws_A_endingBeforeStep rm_A_endingBeforeStep mb_ZX vwCl D [(cI, .int), (cZ, .boolean), (cJ, .long)] (WX X cI cZ cJ) [.ref (X 4), .int x1] s rv rs := by
  refine mb_ofI mb_ZXok (by decide) rfl (Nat.le_of_ble_eq_true rfl) mb_DXok ?_
  intro p e s0 m args below meth c Q A Cx hret
  have hR : 2 ≤ (rm_A_endingBeforeStep).frames ∧ 47 ≤ (rm_A_endingBeforeStep).locals := ⟨Nat.le_refl _, Nat.le_refl _⟩
  intro ls H locs hl hP hS
  have Cx0 := Cx
  obtain ⟨⟨hx, hb, hml, hown, hts⟩, hK, hD, hA, hZ⟩ := Cx0
  have hl : lv_has ls 3 [(0, .ref (X 4)), (1, .int x1)] := hl
  unfold mA_endingBeforeStep at h
  refine lv_aload_n hx hb d_A_endingBeforeStep_0 rfl (lv_at hl 0 rfl) ?_
  refine va_get (ci := 4) (C := cnA) (T := fTA) (N := 13) hx hb hts uwA hown hK hP 4 rfl rfl 3 (by decide) (hts _ wd_156) (fun _ h9 => h9) rfl d_A_endingBeforeStep_1 ?_
  refine lv_if_ne hx hb d_A_endingBeforeStep_4 rfl (fun hc => ?_) (fun hc => ?_)
  · have h := mb_f hc h
    refine lv_aload_n hx hb d_A_endingBeforeStep_9 rfl (lv_at hl 0 rfl) ?_
    refine va_get (ci := 4) (C := cnA) (T := fTA) (N := 13) hx hb hts uwA hown hK hP 4 rfl rfl 9 (by decide) (hts _ wd_162) (fun _ h9 => h9) rfl d_A_endingBeforeStep_10 ?_
    refine lv_iload_n hx hb d_A_endingBeforeStep_13 rfl (lv_at hl 1 rfl) ?_
    refine lv_icmp_lt hx hb d_A_endingBeforeStep_14 rfl (fun hc => ?_) (fun hc => ?_)
    · have h := mb_t hc h
      refine lv_aload_n hx hb d_A_endingBeforeStep_19 rfl (lv_at hl 0 rfl) ?_
      refine va_get (ci := 4) (C := cnA) (T := fTA) (N := 13) hx hb hts uwA hown hK hP 4 rfl rfl 2 (by decide) (hts _ wd_155) (fun _ h9 => h9) rfl d_A_endingBeforeStep_20 ?_
      refine lv_aload_n hx hb d_A_endingBeforeStep_23 rfl (lv_at hl 0 rfl) ?_
      refine va_get (ci := 4) (C := cnA) (T := fTA) (N := 13) hx hb hts uwA hown hK hP 4 rfl rfl 3 (by decide) (hts _ wd_156) (fun _ h9 => h9) rfl d_A_endingBeforeStep_24 ?_
      refine lv_iconst (v := (1 : Int32)) hx hb d_A_endingBeforeStep_27 (by decide) ?_
      refine lv_isub hx hb d_A_endingBeforeStep_28 ?_
      refine mb_iald hx hb hK hP 24 0 rfl rfl h d_A_endingBeforeStep_29 (fun v1 h => ?_)
      refine lv_istore_n (lv' := [(2, .int v1), (0, .ref (X 4)), (1, .int x1)]) hx hb d_A_endingBeforeStep_30 rfl hl (by decide) rfl (fun ls hl => ?_)
      refine lv_aload_n hx hb d_A_endingBeforeStep_31 rfl (lv_at hl 1 rfl) ?_
      refine va_get (ci := 4) (C := cnA) (T := fTA) (N := 13) hx hb hts uwA hown hK hP 4 rfl rfl 0 (by decide) (hts _ wd_153) (fun _ h9 => h9) rfl d_A_endingBeforeStep_32 ?_
      refine va_get (ci := 1) (C := cnP) (T := fTP) (N := 12) hx hb hts uwP hown hK hP 1 rfl rfl 0 (by decide) (hts _ wd_30) (fun _ h9 => h9) rfl d_A_endingBeforeStep_35 ?_
      refine lv_iload_n hx hb d_A_endingBeforeStep_38 rfl (lv_at hl 0 rfl) ?_
      refine mb_iald hx hb hK hP 5 0 rfl rfl h d_A_endingBeforeStep_39 (fun v2 h => ?_)
      by_cases hc0 : v2 = (0 : Int32)
      · have h := mb_t hc0 h
        refine lv_tableIn (tgt := 88) hx hb d_A_endingBeforeStep_40 (by rw [hc0]; decide) (by rw [hc0]; decide) (by rw [hc0]; rfl) rfl ?_
        refine lv_aload_n hx hb d_A_endingBeforeStep_88 rfl (lv_at hl 1 rfl) ?_
        refine va_get (ci := 4) (C := cnA) (T := fTA) (N := 13) hx hb hts uwA hown hK hP 4 rfl rfl 10 (by decide) (hts _ wd_163) (fun _ h9 => h9) rfl d_A_endingBeforeStep_89 ?_
        refine lv_bipush (v := (12 : Int32)) hx hb d_A_endingBeforeStep_92 (by decide) ?_
        refine lv_icmp_ne hx hb d_A_endingBeforeStep_94 rfl (fun hc => ?_) (fun hc => ?_)
        · have h := mb_f hc h
          refine lv_iconst (v := (0 : Int32)) hx hb d_A_endingBeforeStep_101 (by decide) ?_
          exact zA_endingBeforeStep_b102 Cx hR hret  (0 : Int32) s h ls H locs (lv_sub hl [] rfl) hP hS
        · have h := mb_t hc h
          refine lv_iconst (v := (5 : Int32)) hx hb d_A_endingBeforeStep_97 (by decide) ?_
          refine lv_goto hx hb d_A_endingBeforeStep_98 rfl ?_
          exact zA_endingBeforeStep_b102 Cx hR hret  (5 : Int32) s h ls H locs (lv_sub hl [] rfl) hP hS
      have h := mb_f hc0 h
      by_cases hc5 : v2 = (5 : Int32)
      · have h := mb_t hc5 h
        refine lv_tableIn (tgt := 103) hx hb d_A_endingBeforeStep_40 (by rw [hc5]; decide) (by rw [hc5]; decide) (by rw [hc5]; rfl) rfl ?_
        refine lv_aload_n hx hb d_A_endingBeforeStep_103 rfl (lv_at hl 1 rfl) ?_
        refine lv_aload_n hx hb d_A_endingBeforeStep_104 rfl (lv_at hl 1 rfl) ?_
        refine va_get (ci := 4) (C := cnA) (T := fTA) (N := 13) hx hb hts uwA hown hK hP 4 rfl rfl 0 (by decide) (hts _ wd_153) (fun _ h9 => h9) rfl d_A_endingBeforeStep_105 ?_
        refine va_get (ci := 1) (C := cnP) (T := fTP) (N := 12) hx hb hts uwP hown hK hP 1 rfl rfl 2 (by decide) (hts _ wd_38) (fun _ h9 => h9) rfl d_A_endingBeforeStep_108 ?_
        refine lv_iload_n hx hb d_A_endingBeforeStep_111 rfl (lv_at hl 0 rfl) ?_
        refine mb_iald hx hb hK hP 7 0 rfl rfl h d_A_endingBeforeStep_112 (fun v3 h => ?_)
        obtain ⟨v4, s5, hs5, h⟩ := mb_cal_ex h
        refine mb_goI Cx (mb_runV (As := [.int v3]) (rest := []) mb_ZXok Cx (w_A_objectOf l D X cI cZ cJ hs5 H.size) (mb_cwV 1 hts wd_480 wd_482 sel_33 wd_6 wd_483 rfl rfl rfl (by decide +kernel) ⟨Nat.le_trans (by decide) hR.1, Nat.le_trans (by decide) hR.2⟩) hP hS 4 rfl rfl rfl hl.1 rfl (Nat.le_of_ble_eq_true rfl) d_A_endingBeforeStep_113) hS (fun H locs hP hS => ?_)
        refine lv_iconst (v := (-1 : Int32)) hx hb d_A_endingBeforeStep_116 (by decide) ?_
        refine lv_icmp_ne hx hb d_A_endingBeforeStep_117 rfl (fun hc => ?_) (fun hc => ?_)
        · have h := mb_f hc h
          refine lv_iconst (v := (0 : Int32)) hx hb d_A_endingBeforeStep_124 (by decide) ?_
          exact zA_endingBeforeStep_b125 Cx hR hret  (0 : Int32) s5 h ls H locs (lv_sub hl [] rfl) hP hS
        · have h := mb_t hc h
          refine lv_iconst (v := (3 : Int32)) hx hb d_A_endingBeforeStep_120 (by decide) ?_
          refine lv_goto hx hb d_A_endingBeforeStep_121 rfl ?_
          exact zA_endingBeforeStep_b125 Cx hR hret  (3 : Int32) s5 h ls H locs (lv_sub hl [] rfl) hP hS
      have h := mb_f hc5 h
      by_cases hc6 : v2 = (6 : Int32)
      · have h := mb_t hc6 h
        refine lv_tableIn (tgt := 126) hx hb d_A_endingBeforeStep_40 (by rw [hc6]; decide) (by rw [hc6]; decide) (by rw [hc6]; rfl) rfl ?_
        refine lv_aload_n hx hb d_A_endingBeforeStep_126 rfl (lv_at hl 1 rfl) ?_
        refine lv_aload_n hx hb d_A_endingBeforeStep_127 rfl (lv_at hl 1 rfl) ?_
        refine va_get (ci := 4) (C := cnA) (T := fTA) (N := 13) hx hb hts uwA hown hK hP 4 rfl rfl 0 (by decide) (hts _ wd_153) (fun _ h9 => h9) rfl d_A_endingBeforeStep_128 ?_
        refine va_get (ci := 1) (C := cnP) (T := fTP) (N := 12) hx hb hts uwP hown hK hP 1 rfl rfl 1 (by decide) (hts _ wd_34) (fun _ h9 => h9) rfl d_A_endingBeforeStep_131 ?_
        refine lv_iload_n hx hb d_A_endingBeforeStep_134 rfl (lv_at hl 0 rfl) ?_
        refine mb_iald hx hb hK hP 6 0 rfl rfl h d_A_endingBeforeStep_135 (fun v6 h => ?_)
        obtain ⟨v7, s8, hs8, h⟩ := mb_cal_ex h
        refine mb_goI Cx (mb_runV (As := [.int v6]) (rest := []) mb_ZXok Cx (w_A_objectOf l D X cI cZ cJ hs8 H.size) (mb_cwV 1 hts wd_480 wd_482 sel_33 wd_6 wd_483 rfl rfl rfl (by decide +kernel) ⟨Nat.le_trans (by decide) hR.1, Nat.le_trans (by decide) hR.2⟩) hP hS 4 rfl rfl rfl hl.1 rfl (Nat.le_of_ble_eq_true rfl) d_A_endingBeforeStep_136) hS (fun H locs hP hS => ?_)
        refine lv_iconst (v := (-1 : Int32)) hx hb d_A_endingBeforeStep_139 (by decide) ?_
        refine lv_icmp_ne hx hb d_A_endingBeforeStep_140 rfl (fun hc => ?_) (fun hc => ?_)
        · have h := mb_f hc h
          refine lv_iconst (v := (0 : Int32)) hx hb d_A_endingBeforeStep_147 (by decide) ?_
          exact zA_endingBeforeStep_b148 Cx hR hret  (0 : Int32) s8 h ls H locs (lv_sub hl [] rfl) hP hS
        · have h := mb_t hc h
          refine lv_iconst (v := (3 : Int32)) hx hb d_A_endingBeforeStep_143 (by decide) ?_
          refine lv_goto hx hb d_A_endingBeforeStep_144 rfl ?_
          exact zA_endingBeforeStep_b148 Cx hR hret  (3 : Int32) s8 h ls H locs (lv_sub hl [] rfl) hP hS
      have h := mb_f hc6 h
      by_cases hc7 : v2 = (7 : Int32)
      · have h := mb_t hc7 h
        refine lv_tableIn (tgt := 149) hx hb d_A_endingBeforeStep_40 (by rw [hc7]; decide) (by rw [hc7]; decide) (by rw [hc7]; rfl) rfl ?_
        refine lv_aload_n hx hb d_A_endingBeforeStep_149 rfl (lv_at hl 1 rfl) ?_
        refine lv_iload_n hx hb d_A_endingBeforeStep_150 rfl (lv_at hl 0 rfl) ?_
        obtain ⟨v9, s10, hs10, h⟩ := mb_cal_ex h
        refine mb_goI Cx (mb_runV (As := [.int v1]) (rest := []) mb_ZXok Cx (w_A_calledMethod l D X cI cZ cJ hs10 H.size) (mb_cwV 1 hts wd_484 wd_486 sel_34 wd_6 wd_487 rfl rfl rfl (by decide +kernel) ⟨Nat.le_trans (by decide) hR.1, Nat.le_trans (by decide) hR.2⟩) hP hS 4 rfl rfl rfl hl.1 rfl (Nat.le_of_ble_eq_true rfl) d_A_endingBeforeStep_151) hS (fun H locs hP hS => ?_)
        refine lv_iconst (v := (-1 : Int32)) hx hb d_A_endingBeforeStep_154 (by decide) ?_
        refine lv_icmp_ne hx hb d_A_endingBeforeStep_155 rfl (fun hc => ?_) (fun hc => ?_)
        · have h := mb_f hc h
          refine lv_aload_n hx hb d_A_endingBeforeStep_160 rfl (lv_at hl 1 rfl) ?_
          refine va_get (ci := 4) (C := cnA) (T := fTA) (N := 13) hx hb hts uwA hown hK hP 4 rfl rfl 3 (by decide) (hts _ wd_156) (fun _ h9 => h9) rfl d_A_endingBeforeStep_161 ?_
          refine lv_bipush (v := (6 : Int32)) hx hb d_A_endingBeforeStep_164 (by decide) ?_
          refine lv_icmp_ne hx hb d_A_endingBeforeStep_166 rfl (fun hc => ?_) (fun hc => ?_)
          · have h := mb_f hc h
            refine lv_iconst (v := (0 : Int32)) hx hb d_A_endingBeforeStep_173 (by decide) ?_
            exact zA_endingBeforeStep_b174 Cx hR hret  (0 : Int32) s10 h ls H locs (lv_sub hl [] rfl) hP hS
          · have h := mb_t hc h
            refine lv_iconst (v := (4 : Int32)) hx hb d_A_endingBeforeStep_169 (by decide) ?_
            refine lv_goto hx hb d_A_endingBeforeStep_170 rfl ?_
            exact zA_endingBeforeStep_b174 Cx hR hret  (4 : Int32) s10 h ls H locs (lv_sub hl [] rfl) hP hS
        · have h := mb_t hc h
          refine lv_iconst (v := (3 : Int32)) hx hb d_A_endingBeforeStep_158 (by decide) ?_
          exact mb_eI hret h d_A_endingBeforeStep_159 hP hS
      have h := mb_f hc7 h
      have hn0 : ¬ Int32.toInt v2 = 0 := lv_neT hc0 (by decide)
      have hn5 : ¬ Int32.toInt v2 = 5 := lv_neT hc5 (by decide)
      have hn6 : ¬ Int32.toInt v2 = 6 := lv_neT hc6 (by decide)
      have hn7 : ¬ Int32.toInt v2 = 7 := lv_neT hc7 (by decide)
      refine mb_tabD (tgt := 175) hx hb d_A_endingBeforeStep_40 (fun h1 h2 => by rcases (show Int32.toInt v2 = 1 ∨ Int32.toInt v2 = 2 ∨ Int32.toInt v2 = 3 ∨ Int32.toInt v2 = 4 by omega) with q | q | q | q <;> (rw [q]; rfl)) rfl ?_
      exact zA_endingBeforeStep_b175 Cx hR hret  s h ls H locs (lv_sub hl [] rfl) hP hS
    · have h := mb_f hc h
      refine lv_iconst (v := (2 : Int32)) hx hb d_A_endingBeforeStep_17 (by decide) ?_
      exact mb_eI hret h d_A_endingBeforeStep_18 hP hS
  · have h := mb_t hc h
    refine lv_iconst (v := (1 : Int32)) hx hb d_A_endingBeforeStep_7 (by decide) ?_
    exact mb_eI hret h d_A_endingBeforeStep_8 hP hS
