set_option maxRecDepth 100000 in
set_option maxHeartbeats 4000000 in
theorem zM_entries_b42 {p : Program} {l : Launch} {e : Env} {R : Room} {s0 : State} {m : MethodId} {args : Array Value} {below : List Frame} {meth : Method} {c : Code} {Q : State → Prop} {A : Nat → Prop} {D : va_G} {X : Nat → Nat} {cI cZ cJ : ClassId} {rv : Int32} {rs : mb_S}
    (Cx : mb_C p s0 m args meth c c_M_entries 2 lw_w cnM (fun _ _ => True) vwCl D [(cI, .int), (cZ, .boolean), (cJ, .long)] A (WM X cI cZ cJ)) (hR : 1 ≤ R.frames ∧ 23 ≤ R.locals)
    (hret : mb_R p l e R s0 m args below meth c Q vwCl D A (WM X cI cZ cJ) c_M_entries .ireturn [.int rv] rs)  (y0 : Int32) (y1 : Int32) (s : mb_S)
    (h : mM_entries_b42  y0 y1 s = some (rv, rs)) : mb_B p l e R s0 m args below meth c Q vwCl D A (WM X cI cZ cJ) 2 [] [.int y0, .int y1] 42 s := by
  unfold mM_entries_b42 at h
  intro ls H locs hl hP hS
  have Cx0 := Cx
  obtain ⟨⟨hx, hb, hml, hown, hts⟩, hK, hD, hA, hZ⟩ := Cx0
  refine lv_iadd hx hb d_M_entries_42 ?_
  exact mb_eI hret h d_M_entries_43 hP hS
set_option maxRecDepth 100000 in
set_option maxHeartbeats 4000000 in
theorem zM_entries_b17 {p : Program} {l : Launch} {e : Env} {R : Room} {s0 : State} {m : MethodId} {args : Array Value} {below : List Frame} {meth : Method} {c : Code} {Q : State → Prop} {A : Nat → Prop} {D : va_G} {X : Nat → Nat} {cI cZ cJ : ClassId} {rv : Int32} {rs : mb_S}
    (Cx : mb_C p s0 m args meth c c_M_entries 2 lw_w cnM (fun _ _ => True) vwCl D [(cI, .int), (cZ, .boolean), (cJ, .long)] A (WM X cI cZ cJ)) (hR : 1 ≤ R.frames ∧ 23 ≤ R.locals)
    (hret : mb_R p l e R s0 m args below meth c Q vwCl D A (WM X cI cZ cJ) c_M_entries .ireturn [.int rv] rs)   (s : mb_S)
    (h : mM_entries_b17  s = some (rv, rs)) : mb_B p l e R s0 m args below meth c Q vwCl D A (WM X cI cZ cJ) 2 [] [] 17 s := by
  unfold mM_entries_b17 at h
  intro ls H locs hl hP hS
  have Cx0 := Cx
  obtain ⟨⟨hx, hb, hml, hown, hts⟩, hK, hD, hA, hZ⟩ := Cx0
  refine lv_iconst (v := (-1 : Int32)) hx hb d_M_entries_17 (by decide) ?_
  exact mb_eI hret h d_M_entries_18 hP hS
set_option maxRecDepth 100000 in
set_option maxHeartbeats 4000000 in
theorem w_M_entries (l : Launch) (D : va_G) (X : Nat → Nat) (cI cZ cJ : ClassId) {x1 : Int32} {s : mb_S} {rv : Int32} {rs : mb_S}
    (h : mM_entries x1 s = some (rv, rs)) : mb_MI l y_M_entries ws_M_entries rm_M_entries (fun _ _ => True) vwCl D [(cI, .int), (cZ, .boolean), (cJ, .long)] (WM X cI cZ cJ) [.ref (X 0), .int x1] s rv rs := by
  refine mb_ofI mb_Z0ok (by decide) rfl (Nat.le_of_ble_eq_true rfl) mb_DMok ?_
  intro p e s0 m args below meth c Q A Cx hret
  have hR : 1 ≤ (rm_M_entries).frames ∧ 23 ≤ (rm_M_entries).locals := ⟨Nat.le_refl _, Nat.le_refl _⟩
  intro ls H locs hl hP hS
  have Cx0 := Cx
  obtain ⟨⟨hx, hb, hml, hown, hts⟩, hK, hD, hA, hZ⟩ := Cx0
  have hl : lv_has ls 2 [(0, .ref (X 0)), (1, .int x1)] := hl
  unfold mM_entries at h
  refine lv_aload_n hx hb d_M_entries_0 rfl (lv_at hl 0 rfl) ?_
  refine va_get (ci := 5) (C := cnM) (T := fTM) (N := 30) hx hb hts uwM hown hK hP 0 rfl rfl 7 (by decide) (hts _ wd_532) (fun _ h9 => h9) rfl d_M_entries_1 ?_
  refine lv_iconst (v := (1 : Int32)) hx hb d_M_entries_4 (by decide) ?_
  refine lv_icmp_ne hx hb d_M_entries_5 rfl (fun hc => ?_) (fun hc => ?_)
  · have h := mb_f hc h
    exact zM_entries_b17 Cx hR hret  s h ls H locs (lv_sub hl [] rfl) hP hS
  · have h := mb_t hc h
    refine lv_iload_n hx hb d_M_entries_8 rfl (lv_at hl 1 rfl) ?_
    refine lv_iconst (v := (0 : Int32)) hx hb d_M_entries_9 (by decide) ?_
    refine lv_iconst (v := (5 : Int32)) hx hb d_M_entries_10 (by decide) ?_
    obtain ⟨v1, hv1, h⟩ := mb_cal0_ex h
    refine mb_go0I (st := s) Cx (mb_runS0 (As := [.int x1, .int (0 : Int32), .int (5 : Int32)]) (rest := []) Cx (w_M_within l D hv1 H.size) (mb_cwS 3 hts wd_622 wd_623 wd_7 wd_624 rfl rfl rfl (by decide +kernel) ⟨Nat.le_trans (by decide) hR.1, Nat.le_trans (by decide) hR.2⟩) rfl hl.1 rfl (Nat.le_of_ble_eq_true rfl) d_M_entries_11) hP hS (fun H locs hP hS => ?_)
    refine lv_if_ne hx hb d_M_entries_14 rfl (fun hc => ?_) (fun hc => ?_)
    · have h := mb_f hc h
      refine lv_aload_n hx hb d_M_entries_19 rfl (lv_at hl 0 rfl) ?_
      refine va_get (ci := 5) (C := cnM) (T := fTM) (N := 30) hx hb hts uwM hown hK hP 0 rfl rfl 15 (by decide) (hts _ wd_540) (fun _ h9 => h9) rfl d_M_entries_20 ?_
      refine lv_iload_n hx hb d_M_entries_23 rfl (lv_at hl 1 rfl) ?_
      refine mb_lald hx hb hK hP 14 2 rfl rfl h d_M_entries_24 (fun v2 h => ?_)
      obtain ⟨v3, hv3, h⟩ := mb_cal0_ex h
      refine mb_go0I (st := s) Cx (mb_runS0 (As := [.long v2]) (rest := []) Cx (w_M_bits l D hv3 H.size) (mb_cwS 1 hts wd_740 wd_741 wd_7 wd_742 rfl rfl rfl (by decide +kernel) ⟨Nat.le_trans (by decide) hR.1, Nat.le_trans (by decide) hR.2⟩) rfl hl.1 rfl (Nat.le_of_ble_eq_true rfl) d_M_entries_25) hP hS (fun H locs hP hS => ?_)
      refine lv_aload_n hx hb d_M_entries_28 rfl (lv_at hl 0 rfl) ?_
      refine va_get (ci := 5) (C := cnM) (T := fTM) (N := 30) hx hb hts uwM hown hK hP 0 rfl rfl 16 (by decide) (hts _ wd_541) (fun _ h9 => h9) rfl d_M_entries_29 ?_
      refine lv_iload_n hx hb d_M_entries_32 rfl (lv_at hl 1 rfl) ?_
      refine mb_zald hx hb hK hP 15 1 rfl rfl h d_M_entries_33 (fun v4 h => ?_)
      refine lv_if_eq hx hb d_M_entries_34 rfl (fun hc => ?_) (fun hc => ?_)
      · have h := mb_t hc h
        refine lv_iconst (v := (0 : Int32)) hx hb d_M_entries_41 (by decide) ?_
        exact zM_entries_b42 Cx hR hret  (0 : Int32) v3 s h ls H locs (lv_sub hl [] rfl) hP hS
      · have h := mb_f hc h
        refine lv_iconst (v := (1 : Int32)) hx hb d_M_entries_37 (by decide) ?_
        refine lv_goto hx hb d_M_entries_38 rfl ?_
        exact zM_entries_b42 Cx hR hret  (1 : Int32) v3 s h ls H locs (lv_sub hl [] rfl) hP hS
    · have h := mb_t hc h
      exact zM_entries_b17 Cx hR hret  s h ls H locs (lv_sub hl [] rfl) hP hS
set_option maxRecDepth 100000 in
set_option maxHeartbeats 4000000 in
theorem zM_points_b40 {p : Program} {l : Launch} {e : Env} {R : Room} {s0 : State} {m : MethodId} {args : Array Value} {below : List Frame} {meth : Method} {c : Code} {Q : State → Prop} {A : Nat → Prop} {D : va_G} {X : Nat → Nat} {cI cZ cJ : ClassId} {rv : Int32} {rs : mb_S}
    (Cx : mb_C p s0 m args meth c c_M_points 3 lw_w cnM (fun _ _ => True) vwCl D [(cI, .int), (cZ, .boolean), (cJ, .long)] A (WM X cI cZ cJ)) (hR : 1 ≤ R.frames ∧ 22 ≤ R.locals)
    (hret : mb_R p l e R s0 m args below meth c Q vwCl D A (WM X cI cZ cJ) c_M_points .ireturn [.int rv] rs)  (y0 : Int32) (s : mb_S)
    (h : mM_points_b40  y0 s = some (rv, rs)) : mb_B p l e R s0 m args below meth c Q vwCl D A (WM X cI cZ cJ) 3 [] [.int y0] 40 s := by
  unfold mM_points_b40 at h
  intro ls H locs hl hP hS
  have Cx0 := Cx
  obtain ⟨⟨hx, hb, hml, hown, hts⟩, hK, hD, hA, hZ⟩ := Cx0
  exact mb_eI hret h d_M_points_40 hP hS
set_option maxRecDepth 100000 in
set_option maxHeartbeats 4000000 in
theorem zM_points_b39 {p : Program} {l : Launch} {e : Env} {R : Room} {s0 : State} {m : MethodId} {args : Array Value} {below : List Frame} {meth : Method} {c : Code} {Q : State → Prop} {A : Nat → Prop} {D : va_G} {X : Nat → Nat} {cI cZ cJ : ClassId} {rv : Int32} {rs : mb_S}
    (Cx : mb_C p s0 m args meth c c_M_points 3 lw_w cnM (fun _ _ => True) vwCl D [(cI, .int), (cZ, .boolean), (cJ, .long)] A (WM X cI cZ cJ)) (hR : 1 ≤ R.frames ∧ 22 ≤ R.locals)
    (hret : mb_R p l e R s0 m args below meth c Q vwCl D A (WM X cI cZ cJ) c_M_points .ireturn [.int rv] rs)   (s : mb_S)
    (h : mM_points_b39  s = some (rv, rs)) : mb_B p l e R s0 m args below meth c Q vwCl D A (WM X cI cZ cJ) 3 [] [] 39 s := by
  unfold mM_points_b39 at h
  intro ls H locs hl hP hS
  have Cx0 := Cx
  obtain ⟨⟨hx, hb, hml, hown, hts⟩, hK, hD, hA, hZ⟩ := Cx0
  refine lv_iconst (v := (-1 : Int32)) hx hb d_M_points_39 (by decide) ?_
  exact zM_points_b40 Cx hR hret  (-1 : Int32) s h ls H locs (lv_sub hl [] rfl) hP hS
set_option maxRecDepth 100000 in
set_option maxHeartbeats 4000000 in
theorem w_M_points (l : Launch) (D : va_G) (X : Nat → Nat) (cI cZ cJ : ClassId) {x1 : Int32} {x2 : Int32} {s : mb_S} {rv : Int32} {rs : mb_S}
    (h : mM_points x1 x2 s = some (rv, rs)) : mb_MI l y_M_points ws_M_points rm_M_points (fun _ _ => True) vwCl D [(cI, .int), (cZ, .boolean), (cJ, .long)] (WM X cI cZ cJ) [.ref (X 0), .int x1, .int x2] s rv rs := by
  refine mb_ofI mb_Z0ok (by decide) rfl (Nat.le_of_ble_eq_true rfl) mb_DMok ?_
  intro p e s0 m args below meth c Q A Cx hret
  have hR : 1 ≤ (rm_M_points).frames ∧ 22 ≤ (rm_M_points).locals := ⟨Nat.le_refl _, Nat.le_refl _⟩
  intro ls H locs hl hP hS
  have Cx0 := Cx
  obtain ⟨⟨hx, hb, hml, hown, hts⟩, hK, hD, hA, hZ⟩ := Cx0
  have hl : lv_has ls 3 [(0, .ref (X 0)), (1, .int x1), (2, .int x2)] := hl
  unfold mM_points at h
  refine lv_aload_n hx hb d_M_points_0 rfl (lv_at hl 0 rfl) ?_
  refine va_get (ci := 5) (C := cnM) (T := fTM) (N := 30) hx hb hts uwM hown hK hP 0 rfl rfl 7 (by decide) (hts _ wd_532) (fun _ h9 => h9) rfl d_M_points_1 ?_
  refine lv_iconst (v := (1 : Int32)) hx hb d_M_points_4 (by decide) ?_
  refine lv_icmp_ne hx hb d_M_points_5 rfl (fun hc => ?_) (fun hc => ?_)
  · have h := mb_f hc h
    exact zM_points_b39 Cx hR hret  s h ls H locs (lv_sub hl [] rfl) hP hS
  · have h := mb_t hc h
    refine lv_iload_n hx hb d_M_points_8 rfl (lv_at hl 1 rfl) ?_
    refine lv_iconst (v := (0 : Int32)) hx hb d_M_points_9 (by decide) ?_
    refine lv_iconst (v := (5 : Int32)) hx hb d_M_points_10 (by decide) ?_
    obtain ⟨v1, hv1, h⟩ := mb_cal0_ex h
    refine mb_go0I (st := s) Cx (mb_runS0 (As := [.int x1, .int (0 : Int32), .int (5 : Int32)]) (rest := []) Cx (w_M_within l D hv1 H.size) (mb_cwS 3 hts wd_622 wd_623 wd_7 wd_624 rfl rfl rfl (by decide +kernel) ⟨Nat.le_trans (by decide) hR.1, Nat.le_trans (by decide) hR.2⟩) rfl hl.1 rfl (Nat.le_of_ble_eq_true rfl) d_M_points_11) hP hS (fun H locs hP hS => ?_)
    refine lv_if_eq hx hb d_M_points_14 rfl (fun hc => ?_) (fun hc => ?_)
    · have h := mb_t hc h
      exact zM_points_b39 Cx hR hret  s h ls H locs (lv_sub hl [] rfl) hP hS
    · have h := mb_f hc h
      refine lv_iload_n hx hb d_M_points_17 rfl (lv_at hl 2 rfl) ?_
      refine lv_iconst (v := (0 : Int32)) hx hb d_M_points_18 (by decide) ?_
      refine lv_iconst (v := (3 : Int32)) hx hb d_M_points_19 (by decide) ?_
      obtain ⟨v2, hv2, h⟩ := mb_cal0_ex h
      refine mb_go0I (st := s) Cx (mb_runS0 (As := [.int x2, .int (0 : Int32), .int (3 : Int32)]) (rest := []) Cx (w_M_within l D hv2 H.size) (mb_cwS 3 hts wd_622 wd_623 wd_7 wd_624 rfl rfl rfl (by decide +kernel) ⟨Nat.le_trans (by decide) hR.1, Nat.le_trans (by decide) hR.2⟩) rfl hl.1 rfl (Nat.le_of_ble_eq_true rfl) d_M_points_20) hP hS (fun H locs hP hS => ?_)
      refine lv_if_eq hx hb d_M_points_23 rfl (fun hc => ?_) (fun hc => ?_)
      · have h := mb_t hc h
        exact zM_points_b39 Cx hR hret  s h ls H locs (lv_sub hl [] rfl) hP hS
      · have h := mb_f hc h
        refine lv_aload_n hx hb d_M_points_26 rfl (lv_at hl 0 rfl) ?_
        refine va_get (ci := 5) (C := cnM) (T := fTM) (N := 30) hx hb hts uwM hown hK hP 0 rfl rfl 9 (by decide) (hts _ wd_534) (fun _ h9 => h9) rfl d_M_points_27 ?_
        refine lv_iconst (v := (4 : Int32)) hx hb d_M_points_30 (by decide) ?_
        refine lv_iload_n hx hb d_M_points_31 rfl (lv_at hl 1 rfl) ?_
        refine lv_imul hx hb d_M_points_32 ?_
        refine lv_iload_n hx hb d_M_points_33 rfl (lv_at hl 2 rfl) ?_
        refine lv_iadd hx hb d_M_points_34 ?_
        refine mb_iald hx hb hK hP 8 0 rfl rfl h d_M_points_35 (fun v3 h => ?_)
        refine lv_goto hx hb d_M_points_36 rfl ?_
        exact zM_points_b40 Cx hR hret  v3 s h ls H locs (lv_sub hl [] rfl) hP hS
set_option maxRecDepth 100000 in
set_option maxHeartbeats 4000000 in
theorem zM_cell_b40 {p : Program} {l : Launch} {e : Env} {R : Room} {s0 : State} {m : MethodId} {args : Array Value} {below : List Frame} {meth : Method} {c : Code} {Q : State → Prop} {A : Nat → Prop} {D : va_G} {X : Nat → Nat} {cI cZ cJ : ClassId} {rv : Int32} {rs : mb_S}
    (Cx : mb_C p s0 m args meth c c_M_cell 3 lw_w cnM (fun _ _ => True) vwCl D [(cI, .int), (cZ, .boolean), (cJ, .long)] A (WM X cI cZ cJ)) (hR : 1 ≤ R.frames ∧ 22 ≤ R.locals)
    (hret : mb_R p l e R s0 m args below meth c Q vwCl D A (WM X cI cZ cJ) c_M_cell .ireturn [.int rv] rs)  (y0 : Int32) (s : mb_S)
    (h : mM_cell_b40  y0 s = some (rv, rs)) : mb_B p l e R s0 m args below meth c Q vwCl D A (WM X cI cZ cJ) 3 [] [.int y0] 40 s := by
  unfold mM_cell_b40 at h
  intro ls H locs hl hP hS
  have Cx0 := Cx
  obtain ⟨⟨hx, hb, hml, hown, hts⟩, hK, hD, hA, hZ⟩ := Cx0
  exact mb_eI hret h d_M_cell_40 hP hS
set_option maxRecDepth 100000 in
set_option maxHeartbeats 4000000 in
theorem zM_cell_b39 {p : Program} {l : Launch} {e : Env} {R : Room} {s0 : State} {m : MethodId} {args : Array Value} {below : List Frame} {meth : Method} {c : Code} {Q : State → Prop} {A : Nat → Prop} {D : va_G} {X : Nat → Nat} {cI cZ cJ : ClassId} {rv : Int32} {rs : mb_S}
    (Cx : mb_C p s0 m args meth c c_M_cell 3 lw_w cnM (fun _ _ => True) vwCl D [(cI, .int), (cZ, .boolean), (cJ, .long)] A (WM X cI cZ cJ)) (hR : 1 ≤ R.frames ∧ 22 ≤ R.locals)
    (hret : mb_R p l e R s0 m args below meth c Q vwCl D A (WM X cI cZ cJ) c_M_cell .ireturn [.int rv] rs)   (s : mb_S)
    (h : mM_cell_b39  s = some (rv, rs)) : mb_B p l e R s0 m args below meth c Q vwCl D A (WM X cI cZ cJ) 3 [] [] 39 s := by
  unfold mM_cell_b39 at h
  intro ls H locs hl hP hS
  have Cx0 := Cx
  obtain ⟨⟨hx, hb, hml, hown, hts⟩, hK, hD, hA, hZ⟩ := Cx0
  refine lv_iconst (v := (-1 : Int32)) hx hb d_M_cell_39 (by decide) ?_
  exact zM_cell_b40 Cx hR hret  (-1 : Int32) s h ls H locs (lv_sub hl [] rfl) hP hS
set_option maxRecDepth 100000 in
set_option maxHeartbeats 4000000 in
theorem w_M_cell (l : Launch) (D : va_G) (X : Nat → Nat) (cI cZ cJ : ClassId) {x1 : Int32} {x2 : Int32} {s : mb_S} {rv : Int32} {rs : mb_S}
    (h : mM_cell x1 x2 s = some (rv, rs)) : mb_MI l y_M_cell ws_M_cell rm_M_cell (fun _ _ => True) vwCl D [(cI, .int), (cZ, .boolean), (cJ, .long)] (WM X cI cZ cJ) [.ref (X 0), .int x1, .int x2] s rv rs := by
  refine mb_ofI mb_Z0ok (by decide) rfl (Nat.le_of_ble_eq_true rfl) mb_DMok ?_
  intro p e s0 m args below meth c Q A Cx hret
  have hR : 1 ≤ (rm_M_cell).frames ∧ 22 ≤ (rm_M_cell).locals := ⟨Nat.le_refl _, Nat.le_refl _⟩
  intro ls H locs hl hP hS
  have Cx0 := Cx
  obtain ⟨⟨hx, hb, hml, hown, hts⟩, hK, hD, hA, hZ⟩ := Cx0
  have hl : lv_has ls 3 [(0, .ref (X 0)), (1, .int x1), (2, .int x2)] := hl
  unfold mM_cell at h
  refine lv_aload_n hx hb d_M_cell_0 rfl (lv_at hl 0 rfl) ?_
  refine va_get (ci := 5) (C := cnM) (T := fTM) (N := 30) hx hb hts uwM hown hK hP 0 rfl rfl 7 (by decide) (hts _ wd_532) (fun _ h9 => h9) rfl d_M_cell_1 ?_
  refine lv_iconst (v := (1 : Int32)) hx hb d_M_cell_4 (by decide) ?_
  refine lv_icmp_ne hx hb d_M_cell_5 rfl (fun hc => ?_) (fun hc => ?_)
  · have h := mb_f hc h
    exact zM_cell_b39 Cx hR hret  s h ls H locs (lv_sub hl [] rfl) hP hS
  · have h := mb_t hc h
    refine lv_iload_n hx hb d_M_cell_8 rfl (lv_at hl 1 rfl) ?_
    refine lv_iconst (v := (0 : Int32)) hx hb d_M_cell_9 (by decide) ?_
    refine lv_iconst (v := (5 : Int32)) hx hb d_M_cell_10 (by decide) ?_
    obtain ⟨v1, hv1, h⟩ := mb_cal0_ex h
    refine mb_go0I (st := s) Cx (mb_runS0 (As := [.int x1, .int (0 : Int32), .int (5 : Int32)]) (rest := []) Cx (w_M_within l D hv1 H.size) (mb_cwS 3 hts wd_622 wd_623 wd_7 wd_624 rfl rfl rfl (by decide +kernel) ⟨Nat.le_trans (by decide) hR.1, Nat.le_trans (by decide) hR.2⟩) rfl hl.1 rfl (Nat.le_of_ble_eq_true rfl) d_M_cell_11) hP hS (fun H locs hP hS => ?_)
    refine lv_if_eq hx hb d_M_cell_14 rfl (fun hc => ?_) (fun hc => ?_)
    · have h := mb_t hc h
      exact zM_cell_b39 Cx hR hret  s h ls H locs (lv_sub hl [] rfl) hP hS
    · have h := mb_f hc h
      refine lv_iload_n hx hb d_M_cell_17 rfl (lv_at hl 2 rfl) ?_
      refine lv_iconst (v := (0 : Int32)) hx hb d_M_cell_18 (by decide) ?_
      refine lv_iconst (v := (1 : Int32)) hx hb d_M_cell_19 (by decide) ?_
      obtain ⟨v2, hv2, h⟩ := mb_cal0_ex h
      refine mb_go0I (st := s) Cx (mb_runS0 (As := [.int x2, .int (0 : Int32), .int (1 : Int32)]) (rest := []) Cx (w_M_within l D hv2 H.size) (mb_cwS 3 hts wd_622 wd_623 wd_7 wd_624 rfl rfl rfl (by decide +kernel) ⟨Nat.le_trans (by decide) hR.1, Nat.le_trans (by decide) hR.2⟩) rfl hl.1 rfl (Nat.le_of_ble_eq_true rfl) d_M_cell_20) hP hS (fun H locs hP hS => ?_)
      refine lv_if_eq hx hb d_M_cell_23 rfl (fun hc => ?_) (fun hc => ?_)
      · have h := mb_t hc h
        exact zM_cell_b39 Cx hR hret  s h ls H locs (lv_sub hl [] rfl) hP hS
      · have h := mb_f hc h
        refine lv_aload_n hx hb d_M_cell_26 rfl (lv_at hl 0 rfl) ?_
        refine va_get (ci := 5) (C := cnM) (T := fTM) (N := 30) hx hb hts uwM hown hK hP 0 rfl rfl 10 (by decide) (hts _ wd_535) (fun _ h9 => h9) rfl d_M_cell_27 ?_
        refine lv_iconst (v := (2 : Int32)) hx hb d_M_cell_30 (by decide) ?_
        refine lv_iload_n hx hb d_M_cell_31 rfl (lv_at hl 1 rfl) ?_
        refine lv_imul hx hb d_M_cell_32 ?_
        refine lv_iload_n hx hb d_M_cell_33 rfl (lv_at hl 2 rfl) ?_
        refine lv_iadd hx hb d_M_cell_34 ?_
        refine mb_iald hx hb hK hP 9 0 rfl rfl h d_M_cell_35 (fun v3 h => ?_)
        refine lv_goto hx hb d_M_cell_36 rfl ?_
        exact zM_cell_b40 Cx hR hret  v3 s h ls H locs (lv_sub hl [] rfl) hP hS
set_option maxRecDepth 100000 in
set_option maxHeartbeats 4000000 in
theorem w_M_assign (l : Launch) (D : va_G) (X : Nat → Nat) (cI cZ cJ : ClassId) {x1 : Int32} {x2 : Int32} {x3 : Int32} {s : mb_S} {rv : Unit} {rs : mb_S}
    (h : mM_assign x1 x2 x3 s = some (rv, rs)) : mb_MV l y_M_assign ws_M_assign rm_M_assign (fun _ _ => True) vwCl D [(cI, .int), (cZ, .boolean), (cJ, .long)] (WM X cI cZ cJ) [.ref (X 0), .int x1, .int x2, .int x3] s rs := by
  refine mb_ofV mb_Z0ok (by decide) rfl (Nat.le_of_ble_eq_true rfl) mb_DMok ?_
  intro p e s0 m args below meth c Q A Cx hret
  have hR : 0 ≤ (rm_M_assign).frames ∧ 0 ≤ (rm_M_assign).locals := ⟨Nat.le_refl _, Nat.le_refl _⟩
  intro ls H locs hl hP hS
  have Cx0 := Cx
  obtain ⟨⟨hx, hb, hml, hown, hts⟩, hK, hD, hA, hZ⟩ := Cx0
  have hl : lv_has ls 4 [(0, .ref (X 0)), (1, .int x1), (2, .int x2), (3, .int x3)] := hl
  unfold mM_assign at h
  refine lv_aload_n hx hb d_M_assign_0 rfl (lv_at hl 0 rfl) ?_
  refine va_get (ci := 5) (C := cnM) (T := fTM) (N := 30) hx hb hts uwM hown hK hP 0 rfl rfl 25 (by decide) (hts _ wd_550) (fun _ h9 => h9) rfl d_M_assign_1 ?_
  refine lv_iconst (v := (4 : Int32)) hx hb d_M_assign_4 (by decide) ?_
  refine lv_aload_n hx hb d_M_assign_5 rfl (lv_at hl 0 rfl) ?_
  refine va_get (ci := 5) (C := cnM) (T := fTM) (N := 30) hx hb hts uwM hown hK hP 0 rfl rfl 22 (by decide) (hts _ wd_547) (fun _ h9 => h9) rfl d_M_assign_6 ?_
  refine lv_iconst (v := (1 : Int32)) hx hb d_M_assign_9 (by decide) ?_
  refine lv_isub hx hb d_M_assign_10 ?_
  refine lv_imul hx hb d_M_assign_11 ?_
  refine lv_iload_n hx hb d_M_assign_12 rfl (lv_at hl 1 rfl) ?_
  refine lv_iadd hx hb d_M_assign_13 ?_
  refine lv_iload_n hx hb d_M_assign_14 rfl (lv_at hl 2 rfl) ?_
  refine mb_iast (WS := WM X cI cZ cJ) hx hb hK hP hD hS 19 0 rfl rfl h d_M_assign_15 rfl (fun H locs s1 hP hS h => ?_)
  refine lv_aload_n hx hb d_M_assign_16 rfl (lv_at hl 0 rfl) ?_
  refine va_get (ci := 5) (C := cnM) (T := fTM) (N := 30) hx hb hts uwM hown hK hP 0 rfl rfl 26 (by decide) (hts _ wd_551) (fun _ h9 => h9) rfl d_M_assign_17 ?_
  refine lv_iconst (v := (4 : Int32)) hx hb d_M_assign_20 (by decide) ?_
  refine lv_aload_n hx hb d_M_assign_21 rfl (lv_at hl 0 rfl) ?_
  refine va_get (ci := 5) (C := cnM) (T := fTM) (N := 30) hx hb hts uwM hown hK hP 0 rfl rfl 22 (by decide) (hts _ wd_547) (fun _ h9 => h9) rfl d_M_assign_22 ?_
  refine lv_iconst (v := (1 : Int32)) hx hb d_M_assign_25 (by decide) ?_
  refine lv_isub hx hb d_M_assign_26 ?_
  refine lv_imul hx hb d_M_assign_27 ?_
  refine lv_iload_n hx hb d_M_assign_28 rfl (lv_at hl 1 rfl) ?_
  refine lv_iadd hx hb d_M_assign_29 ?_
  refine lv_iload_n hx hb d_M_assign_30 rfl (lv_at hl 3 rfl) ?_
  refine mb_iast (WS := WM X cI cZ cJ) hx hb hK hP hD hS 20 0 rfl rfl h d_M_assign_31 rfl (fun H locs s2 hP hS h => ?_)
  exact mb_eV hret h d_M_assign_32 hP hS
set_option maxRecDepth 100000 in
set_option maxHeartbeats 4000000 in
theorem zM_enter_b62 {p : Program} {l : Launch} {e : Env} {R : Room} {s0 : State} {m : MethodId} {args : Array Value} {below : List Frame} {meth : Method} {c : Code} {Q : State → Prop} {A : Nat → Prop} {D : va_G} {X : Nat → Nat} {cI cZ cJ : ClassId} {rv : Unit} {rs : mb_S}
    (Cx : mb_C p s0 m args meth c c_M_enter 8 lw_w cnM (fun _ _ => True) vwCl D [(cI, .int), (cZ, .boolean), (cJ, .long)] A (WM X cI cZ cJ)) (hR : 1 ≤ R.frames ∧ 23 ≤ R.locals)
    (hret : mb_R p l e R s0 m args below meth c Q vwCl D A (WM X cI cZ cJ) c_M_enter .return_ [] rs)  (x1 : Int32) (x4 : Int32) (x5 : Int32) (x6 : Int32) (y0 : Int32) (s : mb_S)
    (h : mM_enter_b62  x1 x4 x5 x6 y0 s = some (rv, rs)) : mb_B p l e R s0 m args below meth c Q vwCl D A (WM X cI cZ cJ) 8 [(0, .ref (X 0)), (1, .int x1), (4, .int x4), (5, .int x5), (6, .int x6)] [.int y0] 62 s := by
  unfold mM_enter_b62 at h
  intro ls H locs hl hP hS
  have Cx0 := Cx
  obtain ⟨⟨hx, hb, hml, hown, hts⟩, hK, hD, hA, hZ⟩ := Cx0
  refine lv_istore (lv' := [(7, .int y0), (0, .ref (X 0)), (1, .int x1), (4, .int x4), (5, .int x5), (6, .int x6)]) hx hb d_M_enter_62 hl (by decide) rfl (fun ls hl => ?_)
  refine lv_aload_n hx hb d_M_enter_64 rfl (lv_at hl 1 rfl) ?_
  refine va_get (ci := 5) (C := cnM) (T := fTM) (N := 30) hx hb hts uwM hown hK hP 0 rfl rfl 23 (by decide) (hts _ wd_548) (fun _ h9 => h9) rfl d_M_enter_65 ?_
  refine lv_aload_n hx hb d_M_enter_68 rfl (lv_at hl 1 rfl) ?_
  refine va_get (ci := 5) (C := cnM) (T := fTM) (N := 30) hx hb hts uwM hown hK hP 0 rfl rfl 22 (by decide) (hts _ wd_547) (fun _ h9 => h9) rfl d_M_enter_69 ?_
  refine lv_iload_n hx hb d_M_enter_72 rfl (lv_at hl 2 rfl) ?_
  refine mb_iast (WS := WM X cI cZ cJ) hx hb hK hP hD hS 17 0 rfl rfl h d_M_enter_73 rfl (fun H locs s1 hP hS h => ?_)
  refine lv_aload_n hx hb d_M_enter_74 rfl (lv_at hl 1 rfl) ?_
  refine va_get (ci := 5) (C := cnM) (T := fTM) (N := 30) hx hb hts uwM hown hK hP 0 rfl rfl 24 (by decide) (hts _ wd_549) (fun _ h9 => h9) rfl d_M_enter_75 ?_
  refine lv_aload_n hx hb d_M_enter_78 rfl (lv_at hl 1 rfl) ?_
  refine va_get (ci := 5) (C := cnM) (T := fTM) (N := 30) hx hb hts uwM hown hK hP 0 rfl rfl 22 (by decide) (hts _ wd_547) (fun _ h9 => h9) rfl d_M_enter_79 ?_
  refine lv_iconst (v := (0 : Int32)) hx hb d_M_enter_82 (by decide) ?_
  refine mb_iast (WS := WM X cI cZ cJ) hx hb hK hP hD hS 18 0 rfl rfl h d_M_enter_83 rfl (fun H locs s2 hP hS h => ?_)
  refine lv_aload_n hx hb d_M_enter_84 rfl (lv_at hl 1 rfl) ?_
  refine lv_dup hx hb d_M_enter_85 rfl ?_
  refine va_get (ci := 5) (C := cnM) (T := fTM) (N := 30) hx hb hts uwM hown hK hP 0 rfl rfl 22 (by decide) (hts _ wd_547) (fun _ h9 => h9) rfl d_M_enter_86 ?_
  refine lv_iconst (v := (1 : Int32)) hx hb d_M_enter_89 (by decide) ?_
  refine lv_iadd hx hb d_M_enter_90 ?_
  have h := mb_putF_ex h
  refine va_put (ci := 5) (v := .int ((mb_F s2 6) + (1 : Int32))) (ty := .int) (C := cnM) (T := fTM) (N := 30) hx hb hts uwM fyM fyM_ok fnM hown hK hP (hD _) hS 0 rfl rfl 22 (by decide) (hts _ wd_547) (fun _ h9 => h9) rfl (by decide +kernel) rfl rfl (Nat.le_of_ble_eq_true rfl) d_M_enter_91 (fun H locs hP _ hS => ?_)
  have hP : va_P D vwCl (WM X cI cZ cJ (mb_setF s2 6 ((mb_F s2 6) + (1 : Int32)))) H := hP
  generalize mb_setF s2 6 ((mb_F s2 6) + (1 : Int32)) = s3 at hP h
  refine lv_aload_n hx hb d_M_enter_94 rfl (lv_at hl 1 rfl) ?_
  refine lv_iconst (v := (0 : Int32)) hx hb d_M_enter_95 (by decide) ?_
  refine lv_iload hx hb d_M_enter_96 (lv_at hl 3 rfl) ?_
  refine lv_iload hx hb d_M_enter_98 (lv_at hl 4 rfl) ?_
  obtain ⟨_u, s4, hs4, h⟩ := mb_cal_ex h
  refine mb_goV Cx (mb_runV (As := [.int (0 : Int32), .int x4, .int x5]) (rest := []) mb_Z0ok Cx (w_M_assign l D X cI cZ cJ hs4 H.size) (mb_cwV 3 hts wd_776 wd_778 sel_61 wd_7 wd_779 rfl rfl rfl (by decide +kernel) ⟨Nat.le_trans (by decide) hR.1, Nat.le_trans (by decide) hR.2⟩) hP hS 0 rfl rfl rfl hl.1 rfl (Nat.le_of_ble_eq_true rfl) d_M_enter_100) hS (fun H locs hP hS => ?_)
  refine lv_aload_n hx hb d_M_enter_103 rfl (lv_at hl 1 rfl) ?_
  refine lv_iconst (v := (1 : Int32)) hx hb d_M_enter_104 (by decide) ?_
  refine lv_iload hx hb d_M_enter_105 (lv_at hl 5 rfl) ?_
  refine lv_iload hx hb d_M_enter_107 (lv_at hl 0 rfl) ?_
  obtain ⟨_u, s5, hs5, h⟩ := mb_cal_ex h
  refine mb_goV Cx (mb_runV (As := [.int (1 : Int32), .int x6, .int y0]) (rest := []) mb_Z0ok Cx (w_M_assign l D X cI cZ cJ hs5 H.size) (mb_cwV 3 hts wd_776 wd_778 sel_61 wd_7 wd_779 rfl rfl rfl (by decide +kernel) ⟨Nat.le_trans (by decide) hR.1, Nat.le_trans (by decide) hR.2⟩) hP hS 0 rfl rfl rfl hl.1 rfl (Nat.le_of_ble_eq_true rfl) d_M_enter_109) hS (fun H locs hP hS => ?_)
  refine lv_aload_n hx hb d_M_enter_112 rfl (lv_at hl 1 rfl) ?_
  refine lv_iconst (v := (2 : Int32)) hx hb d_M_enter_113 (by decide) ?_
  refine lv_iconst (v := (-1 : Int32)) hx hb d_M_enter_114 (by decide) ?_
  refine lv_iconst (v := (0 : Int32)) hx hb d_M_enter_115 (by decide) ?_
  obtain ⟨_u, s6, hs6, h⟩ := mb_cal_ex h
  refine mb_goV Cx (mb_runV (As := [.int (2 : Int32), .int (-1 : Int32), .int (0 : Int32)]) (rest := []) mb_Z0ok Cx (w_M_assign l D X cI cZ cJ hs6 H.size) (mb_cwV 3 hts wd_776 wd_778 sel_61 wd_7 wd_779 rfl rfl rfl (by decide +kernel) ⟨Nat.le_trans (by decide) hR.1, Nat.le_trans (by decide) hR.2⟩) hP hS 0 rfl rfl rfl hl.1 rfl (Nat.le_of_ble_eq_true rfl) d_M_enter_116) hS (fun H locs hP hS => ?_)
  refine lv_aload_n hx hb d_M_enter_119 rfl (lv_at hl 1 rfl) ?_
  refine lv_iconst (v := (3 : Int32)) hx hb d_M_enter_120 (by decide) ?_
  refine lv_iconst (v := (-1 : Int32)) hx hb d_M_enter_121 (by decide) ?_
  refine lv_iconst (v := (0 : Int32)) hx hb d_M_enter_122 (by decide) ?_
  obtain ⟨_u, s7, hs7, h⟩ := mb_cal_ex h
  refine mb_goV Cx (mb_runV (As := [.int (3 : Int32), .int (-1 : Int32), .int (0 : Int32)]) (rest := []) mb_Z0ok Cx (w_M_assign l D X cI cZ cJ hs7 H.size) (mb_cwV 3 hts wd_776 wd_778 sel_61 wd_7 wd_779 rfl rfl rfl (by decide +kernel) ⟨Nat.le_trans (by decide) hR.1, Nat.le_trans (by decide) hR.2⟩) hP hS 0 rfl rfl rfl hl.1 rfl (Nat.le_of_ble_eq_true rfl) d_M_enter_123) hS (fun H locs hP hS => ?_)
  exact mb_eV hret h d_M_enter_126 hP hS
set_option maxRecDepth 100000 in
set_option maxHeartbeats 4000000 in
theorem zM_enter_b46 {p : Program} {l : Launch} {e : Env} {R : Room} {s0 : State} {m : MethodId} {args : Array Value} {below : List Frame} {meth : Method} {c : Code} {Q : State → Prop} {A : Nat → Prop} {D : va_G} {X : Nat → Nat} {cI cZ cJ : ClassId} {rv : Unit} {rs : mb_S}
    (Cx : mb_C p s0 m args meth c c_M_enter 8 lw_w cnM (fun _ _ => True) vwCl D [(cI, .int), (cZ, .boolean), (cJ, .long)] A (WM X cI cZ cJ)) (hR : 1 ≤ R.frames ∧ 23 ≤ R.locals)
    (hret : mb_R p l e R s0 m args below meth c Q vwCl D A (WM X cI cZ cJ) c_M_enter .return_ [] rs)  (x1 : Int32) (x3 : Int32) (x4 : Int32) (x5 : Int32) (y0 : Int32) (s : mb_S)
    (h : mM_enter_b46  x1 x3 x4 x5 y0 s = some (rv, rs)) : mb_B p l e R s0 m args below meth c Q vwCl D A (WM X cI cZ cJ) 8 [(0, .ref (X 0)), (1, .int x1), (3, .int x3), (4, .int x4), (5, .int x5)] [.int y0] 46 s := by
  unfold mM_enter_b46 at h
  intro ls H locs hl hP hS
  have Cx0 := Cx
  obtain ⟨⟨hx, hb, hml, hown, hts⟩, hK, hD, hA, hZ⟩ := Cx0
  refine lv_istore (lv' := [(6, .int y0), (0, .ref (X 0)), (1, .int x1), (3, .int x3), (4, .int x4), (5, .int x5)]) hx hb d_M_enter_46 hl (by decide) rfl (fun ls hl => ?_)
  refine lv_iload_n hx hb d_M_enter_48 rfl (lv_at hl 3 rfl) ?_
  refine lv_if_ge hx hb d_M_enter_49 rfl (fun hc => ?_) (fun hc => ?_)
  · have h := mb_t hc h
    refine lv_aload_n hx hb d_M_enter_56 rfl (lv_at hl 1 rfl) ?_
    refine va_get (ci := 5) (C := cnM) (T := fTM) (N := 30) hx hb hts uwM hown hK hP 0 rfl rfl 26 (by decide) (hts _ wd_551) (fun _ h9 => h9) rfl d_M_enter_57 ?_
    refine lv_iload_n hx hb d_M_enter_60 rfl (lv_at hl 3 rfl) ?_
    refine mb_iald hx hb hK hP 20 0 rfl rfl h d_M_enter_61 (fun v8 h => ?_)
    exact zM_enter_b62 Cx hR hret  x1 x4 x5 y0 v8 s h ls H locs (lv_sub hl [1, 2, 4, 5, 0] rfl) hP hS
  · have h := mb_f hc h
    refine lv_iconst (v := (0 : Int32)) hx hb d_M_enter_52 (by decide) ?_
    refine lv_goto hx hb d_M_enter_53 rfl ?_
    exact zM_enter_b62 Cx hR hret  x1 x4 x5 y0 (0 : Int32) s h ls H locs (lv_sub hl [1, 2, 4, 5, 0] rfl) hP hS
set_option maxRecDepth 100000 in
set_option maxHeartbeats 4000000 in
theorem zM_enter_b30 {p : Program} {l : Launch} {e : Env} {R : Room} {s0 : State} {m : MethodId} {args : Array Value} {below : List Frame} {meth : Method} {c : Code} {Q : State → Prop} {A : Nat → Prop} {D : va_G} {X : Nat → Nat} {cI cZ cJ : ClassId} {rv : Unit} {rs : mb_S}
    (Cx : mb_C p s0 m args meth c c_M_enter 8 lw_w cnM (fun _ _ => True) vwCl D [(cI, .int), (cZ, .boolean), (cJ, .long)] A (WM X cI cZ cJ)) (hR : 1 ≤ R.frames ∧ 23 ≤ R.locals)
    (hret : mb_R p l e R s0 m args below meth c Q vwCl D A (WM X cI cZ cJ) c_M_enter .return_ [] rs)  (x1 : Int32) (x3 : Int32) (x4 : Int32) (y0 : Int32) (s : mb_S)
    (h : mM_enter_b30  x1 x3 x4 y0 s = some (rv, rs)) : mb_B p l e R s0 m args below meth c Q vwCl D A (WM X cI cZ cJ) 8 [(0, .ref (X 0)), (1, .int x1), (3, .int x3), (4, .int x4)] [.int y0] 30 s := by
  unfold mM_enter_b30 at h
  intro ls H locs hl hP hS
  have Cx0 := Cx
  obtain ⟨⟨hx, hb, hml, hown, hts⟩, hK, hD, hA, hZ⟩ := Cx0
  refine lv_istore (lv' := [(5, .int y0), (0, .ref (X 0)), (1, .int x1), (3, .int x3), (4, .int x4)]) hx hb d_M_enter_30 hl (by decide) rfl (fun ls hl => ?_)
  refine lv_iload_n hx hb d_M_enter_32 rfl (lv_at hl 3 rfl) ?_
  refine lv_if_ge hx hb d_M_enter_33 rfl (fun hc => ?_) (fun hc => ?_)
  · have h := mb_t hc h
    refine lv_aload_n hx hb d_M_enter_40 rfl (lv_at hl 1 rfl) ?_
    refine va_get (ci := 5) (C := cnM) (T := fTM) (N := 30) hx hb hts uwM hown hK hP 0 rfl rfl 25 (by decide) (hts _ wd_550) (fun _ h9 => h9) rfl d_M_enter_41 ?_
    refine lv_iload_n hx hb d_M_enter_44 rfl (lv_at hl 3 rfl) ?_
    refine mb_iald hx hb hK hP 19 0 rfl rfl h d_M_enter_45 (fun v9 h => ?_)
    exact zM_enter_b46 Cx hR hret  x1 x3 x4 y0 v9 s h ls H locs (lv_sub hl [1, 2, 3, 4, 0] rfl) hP hS
  · have h := mb_f hc h
    refine lv_iconst (v := (-1 : Int32)) hx hb d_M_enter_36 (by decide) ?_
    refine lv_goto hx hb d_M_enter_37 rfl ?_
    exact zM_enter_b46 Cx hR hret  x1 x3 x4 y0 (-1 : Int32) s h ls H locs (lv_sub hl [1, 2, 3, 4, 0] rfl) hP hS
set_option maxRecDepth 100000 in
set_option maxHeartbeats 4000000 in
theorem zM_enter_b14 {p : Program} {l : Launch} {e : Env} {R : Room} {s0 : State} {m : MethodId} {args : Array Value} {below : List Frame} {meth : Method} {c : Code} {Q : State → Prop} {A : Nat → Prop} {D : va_G} {X : Nat → Nat} {cI cZ cJ : ClassId} {rv : Unit} {rs : mb_S}
    (Cx : mb_C p s0 m args meth c c_M_enter 8 lw_w cnM (fun _ _ => True) vwCl D [(cI, .int), (cZ, .boolean), (cJ, .long)] A (WM X cI cZ cJ)) (hR : 1 ≤ R.frames ∧ 23 ≤ R.locals)
    (hret : mb_R p l e R s0 m args below meth c Q vwCl D A (WM X cI cZ cJ) c_M_enter .return_ [] rs)  (x1 : Int32) (x2 : Int32) (x3 : Int32) (y0 : Int32) (s : mb_S)
    (h : mM_enter_b14  x1 x2 x3 y0 s = some (rv, rs)) : mb_B p l e R s0 m args below meth c Q vwCl D A (WM X cI cZ cJ) 8 [(0, .ref (X 0)), (1, .int x1), (2, .int x2), (3, .int x3)] [.int y0] 14 s := by
  unfold mM_enter_b14 at h
  intro ls H locs hl hP hS
  have Cx0 := Cx
  obtain ⟨⟨hx, hb, hml, hown, hts⟩, hK, hD, hA, hZ⟩ := Cx0
  refine lv_istore (lv' := [(4, .int y0), (0, .ref (X 0)), (1, .int x1), (2, .int x2), (3, .int x3)]) hx hb d_M_enter_14 hl (by decide) rfl (fun ls hl => ?_)
  refine lv_iload_n hx hb d_M_enter_16 rfl (lv_at hl 3 rfl) ?_
  refine lv_if_ge hx hb d_M_enter_17 rfl (fun hc => ?_) (fun hc => ?_)
  · have h := mb_t hc h
    refine lv_aload_n hx hb d_M_enter_24 rfl (lv_at hl 1 rfl) ?_
    refine va_get (ci := 5) (C := cnM) (T := fTM) (N := 30) hx hb hts uwM hown hK hP 0 rfl rfl 26 (by decide) (hts _ wd_551) (fun _ h9 => h9) rfl d_M_enter_25 ?_
    refine lv_iload_n hx hb d_M_enter_28 rfl (lv_at hl 3 rfl) ?_
    refine mb_iald hx hb hK hP 20 0 rfl rfl h d_M_enter_29 (fun v10 h => ?_)
    exact zM_enter_b30 Cx hR hret  x1 x3 y0 v10 s h ls H locs (lv_sub hl [1, 2, 4, 0] rfl) hP hS
  · have h := mb_f hc h
    refine lv_iconst (v := (0 : Int32)) hx hb d_M_enter_20 (by decide) ?_
    refine lv_goto hx hb d_M_enter_21 rfl ?_
    exact zM_enter_b30 Cx hR hret  x1 x3 y0 (0 : Int32) s h ls H locs (lv_sub hl [1, 2, 4, 0] rfl) hP hS
set_option maxRecDepth 100000 in
set_option maxHeartbeats 4000000 in
theorem w_M_enter (l : Launch) (D : va_G) (X : Nat → Nat) (cI cZ cJ : ClassId) {x1 : Int32} {x2 : Int32} {x3 : Int32} {s : mb_S} {rv : Unit} {rs : mb_S}
    (h : mM_enter x1 x2 x3 s = some (rv, rs)) : mb_MV l y_M_enter ws_M_enter rm_M_enter (fun _ _ => True) vwCl D [(cI, .int), (cZ, .boolean), (cJ, .long)] (WM X cI cZ cJ) [.ref (X 0), .int x1, .int x2, .int x3] s rs := by
  refine mb_ofV mb_Z0ok (by decide) rfl (Nat.le_of_ble_eq_true rfl) mb_DMok ?_
  intro p e s0 m args below meth c Q A Cx hret
  have hR : 1 ≤ (rm_M_enter).frames ∧ 23 ≤ (rm_M_enter).locals := ⟨Nat.le_refl _, Nat.le_refl _⟩
  intro ls H locs hl hP hS
  have Cx0 := Cx
  obtain ⟨⟨hx, hb, hml, hown, hts⟩, hK, hD, hA, hZ⟩ := Cx0
  have hl : lv_has ls 8 [(0, .ref (X 0)), (1, .int x1), (2, .int x2), (3, .int x3)] := hl
  unfold mM_enter at h
  refine lv_iload_n hx hb d_M_enter_0 rfl (lv_at hl 2 rfl) ?_
  refine lv_if_ge hx hb d_M_enter_1 rfl (fun hc => ?_) (fun hc => ?_)
  · have h := mb_t hc h
    refine lv_aload_n hx hb d_M_enter_8 rfl (lv_at hl 0 rfl) ?_
    refine va_get (ci := 5) (C := cnM) (T := fTM) (N := 30) hx hb hts uwM hown hK hP 0 rfl rfl 25 (by decide) (hts _ wd_550) (fun _ h9 => h9) rfl d_M_enter_9 ?_
    refine lv_iload_n hx hb d_M_enter_12 rfl (lv_at hl 2 rfl) ?_
    refine mb_iald hx hb hK hP 19 0 rfl rfl h d_M_enter_13 (fun v11 h => ?_)
    exact zM_enter_b14 Cx hR hret  x1 x2 x3 v11 s h ls H locs (lv_sub hl [0, 1, 2, 3] rfl) hP hS
  · have h := mb_f hc h
    refine lv_iconst (v := (-1 : Int32)) hx hb d_M_enter_4 (by decide) ?_
    refine lv_goto hx hb d_M_enter_5 rfl ?_
    exact zM_enter_b14 Cx hR hret  x1 x2 x3 (-1 : Int32) s h ls H locs (lv_sub hl [0, 1, 2, 3] rfl) hP hS
set_option maxRecDepth 100000 in
set_option maxHeartbeats 4000000 in
theorem zM_leave_b121 {p : Program} {l : Launch} {e : Env} {R : Room} {s0 : State} {m : MethodId} {args : Array Value} {below : List Frame} {meth : Method} {c : Code} {Q : State → Prop} {A : Nat → Prop} {D : va_G} {X : Nat → Nat} {cI cZ cJ : ClassId} {rv : Unit} {rs : mb_S}
    (Cx : mb_C p s0 m args meth c c_M_leave 5 lw_w cnM (fun _ _ => True) vwCl D [(cI, .int), (cZ, .boolean), (cJ, .long)] A (WM X cI cZ cJ)) (hR : 1 ≤ R.frames ∧ 23 ≤ R.locals)
    (hret : mb_R p l e R s0 m args below meth c Q vwCl D A (WM X cI cZ cJ) c_M_leave .return_ [] rs)   (s : mb_S)
    (h : mM_leave_b121  s = some (rv, rs)) : mb_B p l e R s0 m args below meth c Q vwCl D A (WM X cI cZ cJ) 5 [] [] 121 s := by
  unfold mM_leave_b121 at h
  intro ls H locs hl hP hS
  have Cx0 := Cx
  obtain ⟨⟨hx, hb, hml, hown, hts⟩, hK, hD, hA, hZ⟩ := Cx0
  exact mb_eV hret h d_M_leave_121 hP hS
set_option maxRecDepth 100000 in
set_option maxHeartbeats 4000000 in
theorem zM_leave_b47 {p : Program} {l : Launch} {e : Env} {R : Room} {s0 : State} {m : MethodId} {args : Array Value} {below : List Frame} {meth : Method} {c : Code} {Q : State → Prop} {A : Nat → Prop} {D : va_G} {X : Nat → Nat} {cI cZ cJ : ClassId} {rv : Unit} {rs : mb_S}
    (Cx : mb_C p s0 m args meth c c_M_leave 5 lw_w cnM (fun _ _ => True) vwCl D [(cI, .int), (cZ, .boolean), (cJ, .long)] A (WM X cI cZ cJ)) (hR : 1 ≤ R.frames ∧ 23 ≤ R.locals)
    (hret : mb_R p l e R s0 m args below meth c Q vwCl D A (WM X cI cZ cJ) c_M_leave .return_ [] rs)  (x2 : Int32) (y0 : Int32) (s : mb_S)
    (h : mM_leave_b47  x2 y0 s = some (rv, rs)) : mb_B p l e R s0 m args below meth c Q vwCl D A (WM X cI cZ cJ) 5 [(0, .ref (X 0)), (2, .int x2)] [.int y0] 47 s := by
  unfold mM_leave_b47 at h
  intro ls H locs hl hP hS
  have Cx0 := Cx
  obtain ⟨⟨hx, hb, hml, hown, hts⟩, hK, hD, hA, hZ⟩ := Cx0
  refine lv_istore_n (lv' := [(3, .int y0), (0, .ref (X 0)), (2, .int x2)]) hx hb d_M_leave_47 rfl hl (by decide) rfl (fun ls hl => ?_)
  refine lv_aload_n hx hb d_M_leave_48 rfl (lv_at hl 1 rfl) ?_
  refine lv_dup hx hb d_M_leave_49 rfl ?_
  refine va_get (ci := 5) (C := cnM) (T := fTM) (N := 30) hx hb hts uwM hown hK hP 0 rfl rfl 22 (by decide) (hts _ wd_547) (fun _ h9 => h9) rfl d_M_leave_50 ?_
  refine lv_iconst (v := (1 : Int32)) hx hb d_M_leave_53 (by decide) ?_
  refine lv_isub hx hb d_M_leave_54 ?_
  have h := mb_putF_ex h
  refine va_put (ci := 5) (v := .int ((mb_F s 6) - (1 : Int32))) (ty := .int) (C := cnM) (T := fTM) (N := 30) hx hb hts uwM fyM fyM_ok fnM hown hK hP (hD _) hS 0 rfl rfl 22 (by decide) (hts _ wd_547) (fun _ h9 => h9) rfl (by decide +kernel) rfl rfl (Nat.le_of_ble_eq_true rfl) d_M_leave_55 (fun H locs hP _ hS => ?_)
  have hP : va_P D vwCl (WM X cI cZ cJ (mb_setF s 6 ((mb_F s 6) - (1 : Int32)))) H := hP
  generalize mb_setF s 6 ((mb_F s 6) - (1 : Int32)) = s1 at hP h
  refine lv_aload_n hx hb d_M_leave_58 rfl (lv_at hl 1 rfl) ?_
  refine va_get (ci := 5) (C := cnM) (T := fTM) (N := 30) hx hb hts uwM hown hK hP 0 rfl rfl 22 (by decide) (hts _ wd_547) (fun _ h9 => h9) rfl d_M_leave_59 ?_
  refine lv_if_le hx hb d_M_leave_62 rfl (fun hc => ?_) (fun hc => ?_)
  · have h := mb_t hc h
    exact zM_leave_b121 Cx hR hret  s1 h ls H locs (lv_sub hl [] rfl) hP hS
  · have h := mb_f hc h
    refine lv_bipush (v := (12 : Int32)) hx hb d_M_leave_65 (by decide) ?_
    refine lv_aload_n hx hb d_M_leave_67 rfl (lv_at hl 1 rfl) ?_
    refine va_get (ci := 5) (C := cnM) (T := fTM) (N := 30) hx hb hts uwM hown hK hP 0 rfl rfl 23 (by decide) (hts _ wd_548) (fun _ h9 => h9) rfl d_M_leave_68 ?_
    refine lv_aload_n hx hb d_M_leave_71 rfl (lv_at hl 1 rfl) ?_
    refine va_get (ci := 5) (C := cnM) (T := fTM) (N := 30) hx hb hts uwM hown hK hP 0 rfl rfl 22 (by decide) (hts _ wd_547) (fun _ h9 => h9) rfl d_M_leave_72 ?_
    refine lv_iconst (v := (1 : Int32)) hx hb d_M_leave_75 (by decide) ?_
    refine lv_isub hx hb d_M_leave_76 ?_
    refine mb_iald hx hb hK hP 17 0 rfl rfl h d_M_leave_77 (fun v2 h => ?_)
    refine lv_imul hx hb d_M_leave_78 ?_
    refine lv_aload_n hx hb d_M_leave_79 rfl (lv_at hl 1 rfl) ?_
    refine va_get (ci := 5) (C := cnM) (T := fTM) (N := 30) hx hb hts uwM hown hK hP 0 rfl rfl 24 (by decide) (hts _ wd_549) (fun _ h9 => h9) rfl d_M_leave_80 ?_
    refine lv_aload_n hx hb d_M_leave_83 rfl (lv_at hl 1 rfl) ?_
    refine va_get (ci := 5) (C := cnM) (T := fTM) (N := 30) hx hb hts uwM hown hK hP 0 rfl rfl 22 (by decide) (hts _ wd_547) (fun _ h9 => h9) rfl d_M_leave_84 ?_
    refine lv_iconst (v := (1 : Int32)) hx hb d_M_leave_87 (by decide) ?_
    refine lv_isub hx hb d_M_leave_88 ?_
    refine mb_iald hx hb hK hP 18 0 rfl rfl h d_M_leave_89 (fun v3 h => ?_)
    refine lv_iadd hx hb d_M_leave_90 ?_
    refine lv_topi (fun v4 ev4 => ?_)
    have h := mb_at ev4 h
    refine lv_istore (lv' := [(4, .int v4), (3, .int y0), (0, .ref (X 0)), (2, .int x2)]) hx hb d_M_leave_91 hl (by decide) rfl (fun ls hl => ?_)
    refine lv_aload_n hx hb d_M_leave_93 rfl (lv_at hl 2 rfl) ?_
    refine lv_aload_n hx hb d_M_leave_94 rfl (lv_at hl 2 rfl) ?_
    refine va_get (ci := 5) (C := cnM) (T := fTM) (N := 30) hx hb hts uwM hown hK hP 0 rfl rfl 2 (by decide) (hts _ wd_527) (fun _ h9 => h9) rfl d_M_leave_95 ?_
    refine lv_iload hx hb d_M_leave_98 (lv_at hl 0 rfl) ?_
    refine mb_iald hx hb hK hP 3 0 rfl rfl h d_M_leave_100 (fun v5 h => ?_)
    refine lv_iload_n hx hb d_M_leave_101 rfl (lv_at hl 3 rfl) ?_
    refine lv_iload_n hx hb d_M_leave_102 rfl (lv_at hl 1 rfl) ?_
    obtain ⟨_u, s6, hs6, h⟩ := mb_cal_ex h
    refine mb_goV Cx (mb_runV (As := [.int v5, .int x2, .int y0]) (rest := []) mb_Z0ok Cx (w_M_assign l D X cI cZ cJ hs6 H.size) (mb_cwV 3 hts wd_776 wd_778 sel_61 wd_7 wd_779 rfl rfl rfl (by decide +kernel) ⟨Nat.le_trans (by decide) hR.1, Nat.le_trans (by decide) hR.2⟩) hP hS 0 rfl rfl rfl hl.1 rfl (Nat.le_of_ble_eq_true rfl) d_M_leave_103) hS (fun H locs hP hS => ?_)
    refine lv_aload_n hx hb d_M_leave_106 rfl (lv_at hl 2 rfl) ?_
    refine va_get (ci := 5) (C := cnM) (T := fTM) (N := 30) hx hb hts uwM hown hK hP 0 rfl rfl 24 (by decide) (hts _ wd_549) (fun _ h9 => h9) rfl d_M_leave_107 ?_
    refine lv_aload_n hx hb d_M_leave_110 rfl (lv_at hl 2 rfl) ?_
    refine va_get (ci := 5) (C := cnM) (T := fTM) (N := 30) hx hb hts uwM hown hK hP 0 rfl rfl 22 (by decide) (hts _ wd_547) (fun _ h9 => h9) rfl d_M_leave_111 ?_
    refine lv_iconst (v := (1 : Int32)) hx hb d_M_leave_114 (by decide) ?_
    refine lv_isub hx hb d_M_leave_115 ?_
    refine lv_dup2_11 hx hb d_M_leave_116 rfl rfl ?_
    refine mb_iald hx hb hK hP 18 0 rfl rfl h d_M_leave_117 (fun v7 h => ?_)
    refine lv_iconst (v := (1 : Int32)) hx hb d_M_leave_118 (by decide) ?_
    refine lv_iadd hx hb d_M_leave_119 ?_
    refine mb_iast (WS := WM X cI cZ cJ) hx hb hK hP hD hS 18 0 rfl rfl h d_M_leave_120 rfl (fun H locs s8 hP hS h => ?_)
    exact zM_leave_b121 Cx hR hret  s8 h ls H locs (lv_sub hl [] rfl) hP hS
set_option maxRecDepth 100000 in
set_option maxHeartbeats 4000000 in
theorem zM_leave_b23 {p : Program} {l : Launch} {e : Env} {R : Room} {s0 : State} {m : MethodId} {args : Array Value} {below : List Frame} {meth : Method} {c : Code} {Q : State → Prop} {A : Nat → Prop} {D : va_G} {X : Nat → Nat} {cI cZ cJ : ClassId} {rv : Unit} {rs : mb_S}
    (Cx : mb_C p s0 m args meth c c_M_leave 5 lw_w cnM (fun _ _ => True) vwCl D [(cI, .int), (cZ, .boolean), (cJ, .long)] A (WM X cI cZ cJ)) (hR : 1 ≤ R.frames ∧ 23 ≤ R.locals)
    (hret : mb_R p l e R s0 m args below meth c Q vwCl D A (WM X cI cZ cJ) c_M_leave .return_ [] rs)  (x1 : Int32) (y0 : Int32) (s : mb_S)
    (h : mM_leave_b23  x1 y0 s = some (rv, rs)) : mb_B p l e R s0 m args below meth c Q vwCl D A (WM X cI cZ cJ) 5 [(0, .ref (X 0)), (1, .int x1)] [.int y0] 23 s := by
  unfold mM_leave_b23 at h
  intro ls H locs hl hP hS
  have Cx0 := Cx
  obtain ⟨⟨hx, hb, hml, hown, hts⟩, hK, hD, hA, hZ⟩ := Cx0
  refine lv_istore_n (lv' := [(2, .int y0), (0, .ref (X 0)), (1, .int x1)]) hx hb d_M_leave_23 rfl hl (by decide) rfl (fun ls hl => ?_)
  refine lv_iload_n hx hb d_M_leave_24 rfl (lv_at hl 2 rfl) ?_
  refine lv_if_ge hx hb d_M_leave_25 rfl (fun hc => ?_) (fun hc => ?_)
  · have h := mb_t hc h
    refine lv_aload_n hx hb d_M_leave_32 rfl (lv_at hl 1 rfl) ?_
    refine va_get (ci := 5) (C := cnM) (T := fTM) (N := 30) hx hb hts uwM hown hK hP 0 rfl rfl 26 (by decide) (hts _ wd_551) (fun _ h9 => h9) rfl d_M_leave_33 ?_
    refine lv_iconst (v := (4 : Int32)) hx hb d_M_leave_36 (by decide) ?_
    refine lv_aload_n hx hb d_M_leave_37 rfl (lv_at hl 1 rfl) ?_
    refine va_get (ci := 5) (C := cnM) (T := fTM) (N := 30) hx hb hts uwM hown hK hP 0 rfl rfl 22 (by decide) (hts _ wd_547) (fun _ h9 => h9) rfl d_M_leave_38 ?_
    refine lv_iconst (v := (1 : Int32)) hx hb d_M_leave_41 (by decide) ?_
    refine lv_isub hx hb d_M_leave_42 ?_
    refine lv_imul hx hb d_M_leave_43 ?_
    refine lv_iload_n hx hb d_M_leave_44 rfl (lv_at hl 2 rfl) ?_
    refine lv_iadd hx hb d_M_leave_45 ?_
    refine mb_iald hx hb hK hP 20 0 rfl rfl h d_M_leave_46 (fun v9 h => ?_)
    exact zM_leave_b47 Cx hR hret  y0 v9 s h ls H locs (lv_sub hl [1, 0] rfl) hP hS
  · have h := mb_f hc h
    refine lv_iconst (v := (0 : Int32)) hx hb d_M_leave_28 (by decide) ?_
    refine lv_goto hx hb d_M_leave_29 rfl ?_
    exact zM_leave_b47 Cx hR hret  y0 (0 : Int32) s h ls H locs (lv_sub hl [1, 0] rfl) hP hS
set_option maxRecDepth 100000 in
set_option maxHeartbeats 4000000 in
theorem w_M_leave (l : Launch) (D : va_G) (X : Nat → Nat) (cI cZ cJ : ClassId) {x1 : Int32} {s : mb_S} {rv : Unit} {rs : mb_S}
    (h : mM_leave x1 s = some (rv, rs)) : mb_MV l y_M_leave ws_M_leave rm_M_leave (fun _ _ => True) vwCl D [(cI, .int), (cZ, .boolean), (cJ, .long)] (WM X cI cZ cJ) [.ref (X 0), .int x1] s rs := by
  refine mb_ofV mb_Z0ok (by decide) rfl (Nat.le_of_ble_eq_true rfl) mb_DMok ?_
  intro p e s0 m args below meth c Q A Cx hret
  have hR : 1 ≤ (rm_M_leave).frames ∧ 23 ≤ (rm_M_leave).locals := ⟨Nat.le_refl _, Nat.le_refl _⟩
  intro ls H locs hl hP hS
  have Cx0 := Cx
  obtain ⟨⟨hx, hb, hml, hown, hts⟩, hK, hD, hA, hZ⟩ := Cx0
  have hl : lv_has ls 5 [(0, .ref (X 0)), (1, .int x1)] := hl
  unfold mM_leave at h
  refine lv_iload_n hx hb d_M_leave_0 rfl (lv_at hl 1 rfl) ?_
  refine lv_if_ge hx hb d_M_leave_1 rfl (fun hc => ?_) (fun hc => ?_)
  · have h := mb_t hc h
    refine lv_aload_n hx hb d_M_leave_8 rfl (lv_at hl 0 rfl) ?_
    refine va_get (ci := 5) (C := cnM) (T := fTM) (N := 30) hx hb hts uwM hown hK hP 0 rfl rfl 25 (by decide) (hts _ wd_550) (fun _ h9 => h9) rfl d_M_leave_9 ?_
    refine lv_iconst (v := (4 : Int32)) hx hb d_M_leave_12 (by decide) ?_
    refine lv_aload_n hx hb d_M_leave_13 rfl (lv_at hl 0 rfl) ?_
    refine va_get (ci := 5) (C := cnM) (T := fTM) (N := 30) hx hb hts uwM hown hK hP 0 rfl rfl 22 (by decide) (hts _ wd_547) (fun _ h9 => h9) rfl d_M_leave_14 ?_
    refine lv_iconst (v := (1 : Int32)) hx hb d_M_leave_17 (by decide) ?_
    refine lv_isub hx hb d_M_leave_18 ?_
    refine lv_imul hx hb d_M_leave_19 ?_
    refine lv_iload_n hx hb d_M_leave_20 rfl (lv_at hl 1 rfl) ?_
    refine lv_iadd hx hb d_M_leave_21 ?_
    refine mb_iald hx hb hK hP 19 0 rfl rfl h d_M_leave_22 (fun v10 h => ?_)
    exact zM_leave_b23 Cx hR hret  x1 v10 s h ls H locs (lv_sub hl [0, 1] rfl) hP hS
  · have h := mb_f hc h
    refine lv_iconst (v := (-1 : Int32)) hx hb d_M_leave_4 (by decide) ?_
    refine lv_goto hx hb d_M_leave_5 rfl ?_
    exact zM_leave_b23 Cx hR hret  x1 (-1 : Int32) s h ls H locs (lv_sub hl [0, 1] rfl) hP hS
set_option maxRecDepth 100000 in
set_option maxHeartbeats 4000000 in
theorem zM_hindrance_b160 {p : Program} {l : Launch} {e : Env} {R : Room} {s0 : State} {m : MethodId} {args : Array Value} {below : List Frame} {meth : Method} {c : Code} {Q : State → Prop} {A : Nat → Prop} {D : va_G} {X : Nat → Nat} {cI cZ cJ : ClassId} {rv : Int32} {rs : mb_S}
    (Cx : mb_C p s0 m args meth c c_M_hindrance 5 lw_w cnM (fun _ _ => True) vwCl D [(cI, .int), (cZ, .boolean), (cJ, .long)] A (WM X cI cZ cJ)) (hR : 2 ≤ R.frames ∧ 46 ≤ R.locals)
    (hret : mb_R p l e R s0 m args below meth c Q vwCl D A (WM X cI cZ cJ) c_M_hindrance .ireturn [.int rv] rs)  (y0 : Int32) (s : mb_S)
    (h : mM_hindrance_b160  y0 s = some (rv, rs)) : mb_B p l e R s0 m args below meth c Q vwCl D A (WM X cI cZ cJ) 5 [] [.int y0] 160 s := by
  unfold mM_hindrance_b160 at h
  intro ls H locs hl hP hS
  have Cx0 := Cx
  obtain ⟨⟨hx, hb, hml, hown, hts⟩, hK, hD, hA, hZ⟩ := Cx0
  exact mb_eI hret h d_M_hindrance_160 hP hS
set_option maxRecDepth 100000 in
set_option maxHeartbeats 4000000 in
theorem zM_hindrance_b159 {p : Program} {l : Launch} {e : Env} {R : Room} {s0 : State} {m : MethodId} {args : Array Value} {below : List Frame} {meth : Method} {c : Code} {Q : State → Prop} {A : Nat → Prop} {D : va_G} {X : Nat → Nat} {cI cZ cJ : ClassId} {rv : Int32} {rs : mb_S}
    (Cx : mb_C p s0 m args meth c c_M_hindrance 5 lw_w cnM (fun _ _ => True) vwCl D [(cI, .int), (cZ, .boolean), (cJ, .long)] A (WM X cI cZ cJ)) (hR : 2 ≤ R.frames ∧ 46 ≤ R.locals)
    (hret : mb_R p l e R s0 m args below meth c Q vwCl D A (WM X cI cZ cJ) c_M_hindrance .ireturn [.int rv] rs)   (s : mb_S)
    (h : mM_hindrance_b159  s = some (rv, rs)) : mb_B p l e R s0 m args below meth c Q vwCl D A (WM X cI cZ cJ) 5 [] [] 159 s := by
  unfold mM_hindrance_b159 at h
  intro ls H locs hl hP hS
  have Cx0 := Cx
  obtain ⟨⟨hx, hb, hml, hown, hts⟩, hK, hD, hA, hZ⟩ := Cx0
  refine lv_iconst (v := (0 : Int32)) hx hb d_M_hindrance_159 (by decide) ?_
  exact zM_hindrance_b160 Cx hR hret  (0 : Int32) s h ls H locs (lv_sub hl [] rfl) hP hS
set_option maxRecDepth 100000 in
set_option maxHeartbeats 4000000 in
theorem zM_hindrance_b140 {p : Program} {l : Launch} {e : Env} {R : Room} {s0 : State} {m : MethodId} {args : Array Value} {below : List Frame} {meth : Method} {c : Code} {Q : State → Prop} {A : Nat → Prop} {D : va_G} {X : Nat → Nat} {cI cZ cJ : ClassId} {rv : Int32} {rs : mb_S}
    (Cx : mb_C p s0 m args meth c c_M_hindrance 5 lw_w cnM (fun _ _ => True) vwCl D [(cI, .int), (cZ, .boolean), (cJ, .long)] A (WM X cI cZ cJ)) (hR : 2 ≤ R.frames ∧ 46 ≤ R.locals)
    (hret : mb_R p l e R s0 m args below meth c Q vwCl D A (WM X cI cZ cJ) c_M_hindrance .ireturn [.int rv] rs)  (x2 : Int32) (s : mb_S)
    (h : mM_hindrance_b140  x2 s = some (rv, rs)) : mb_B p l e R s0 m args below meth c Q vwCl D A (WM X cI cZ cJ) 5 [(0, .ref (X 0)), (2, .int x2)] [] 140 s := by
  unfold mM_hindrance_b140 at h
  intro ls H locs hl hP hS
  have Cx0 := Cx
  obtain ⟨⟨hx, hb, hml, hown, hts⟩, hK, hD, hA, hZ⟩ := Cx0
  refine lv_iload_n hx hb d_M_hindrance_140 rfl (lv_at hl 1 rfl) ?_
  refine lv_bipush (v := (7 : Int32)) hx hb d_M_hindrance_141 (by decide) ?_
  refine lv_icmp_ne hx hb d_M_hindrance_143 rfl (fun hc => ?_) (fun hc => ?_)
  · have h := mb_f hc h
    exact zM_hindrance_b159 Cx hR hret  s h ls H locs (lv_sub hl [] rfl) hP hS
  · have h := mb_t hc h
    refine lv_aload_n hx hb d_M_hindrance_146 rfl (lv_at hl 0 rfl) ?_
    refine va_get (ci := 5) (C := cnM) (T := fTM) (N := 30) hx hb hts uwM hown hK hP 0 rfl rfl 22 (by decide) (hts _ wd_547) (fun _ h9 => h9) rfl d_M_hindrance_147 ?_
    refine lv_bipush (v := (6 : Int32)) hx hb d_M_hindrance_150 (by decide) ?_
    refine lv_icmp_ne hx hb d_M_hindrance_152 rfl (fun hc => ?_) (fun hc => ?_)
    · have h := mb_f hc h
      exact zM_hindrance_b159 Cx hR hret  s h ls H locs (lv_sub hl [] rfl) hP hS
    · have h := mb_t hc h
      refine lv_iconst (v := (4 : Int32)) hx hb d_M_hindrance_155 (by decide) ?_
      refine lv_goto hx hb d_M_hindrance_156 rfl ?_
      exact zM_hindrance_b160 Cx hR hret  (4 : Int32) s h ls H locs (lv_sub hl [] rfl) hP hS
set_option maxRecDepth 100000 in
set_option maxHeartbeats 4000000 in
theorem zM_hindrance_b138 {p : Program} {l : Launch} {e : Env} {R : Room} {s0 : State} {m : MethodId} {args : Array Value} {below : List Frame} {meth : Method} {c : Code} {Q : State → Prop} {A : Nat → Prop} {D : va_G} {X : Nat → Nat} {cI cZ cJ : ClassId} {rv : Int32} {rs : mb_S}
    (Cx : mb_C p s0 m args meth c c_M_hindrance 5 lw_w cnM (fun _ _ => True) vwCl D [(cI, .int), (cZ, .boolean), (cJ, .long)] A (WM X cI cZ cJ)) (hR : 2 ≤ R.frames ∧ 46 ≤ R.locals)
    (hret : mb_R p l e R s0 m args below meth c Q vwCl D A (WM X cI cZ cJ) c_M_hindrance .ireturn [.int rv] rs)   (s : mb_S)
    (h : mM_hindrance_b138  s = some (rv, rs)) : mb_B p l e R s0 m args below meth c Q vwCl D A (WM X cI cZ cJ) 5 [] [] 138 s := by
  unfold mM_hindrance_b138 at h
  intro ls H locs hl hP hS
  have Cx0 := Cx
  obtain ⟨⟨hx, hb, hml, hown, hts⟩, hK, hD, hA, hZ⟩ := Cx0
  refine lv_iconst (v := (3 : Int32)) hx hb d_M_hindrance_138 (by decide) ?_
  exact mb_eI hret h d_M_hindrance_139 hP hS
set_option maxRecDepth 100000 in
set_option maxHeartbeats 4000000 in
theorem zM_hindrance_b101 {p : Program} {l : Launch} {e : Env} {R : Room} {s0 : State} {m : MethodId} {args : Array Value} {below : List Frame} {meth : Method} {c : Code} {Q : State → Prop} {A : Nat → Prop} {D : va_G} {X : Nat → Nat} {cI cZ cJ : ClassId} {rv : Int32} {rs : mb_S}
    (Cx : mb_C p s0 m args meth c c_M_hindrance 5 lw_w cnM (fun _ _ => True) vwCl D [(cI, .int), (cZ, .boolean), (cJ, .long)] A (WM X cI cZ cJ)) (hR : 2 ≤ R.frames ∧ 46 ≤ R.locals)
    (hret : mb_R p l e R s0 m args below meth c Q vwCl D A (WM X cI cZ cJ) c_M_hindrance .ireturn [.int rv] rs)  (x1 : Int32) (x2 : Int32) (y0 : Int32) (y1 : Int32) (s : mb_S)
    (h : mM_hindrance_b101  x1 x2 y0 y1 s = some (rv, rs)) : mb_B p l e R s0 m args below meth c Q vwCl D A (WM X cI cZ cJ) 5 [(0, .ref (X 0)), (1, .int x1), (2, .int x2)] [.int y0, .int y1, .ref (X 19)] 101 s := by
  unfold mM_hindrance_b101 at h
  intro ls H locs hl hP hS
  have Cx0 := Cx
  obtain ⟨⟨hx, hb, hml, hown, hts⟩, hK, hD, hA, hZ⟩ := Cx0
  refine lv_iadd hx hb d_M_hindrance_101 ?_
  refine mb_iald hx hb hK hP 19 0 rfl rfl h d_M_hindrance_102 (fun v1 h => ?_)
  refine lv_istore (lv' := [(4, .int v1), (0, .ref (X 0)), (1, .int x1), (2, .int x2)]) hx hb d_M_hindrance_103 hl (by decide) rfl (fun ls hl => ?_)
  refine lv_iload hx hb d_M_hindrance_105 (lv_at hl 0 rfl) ?_
  refine lv_if_lt hx hb d_M_hindrance_107 rfl (fun hc => ?_) (fun hc => ?_)
  · have h := mb_t hc h
    exact zM_hindrance_b138 Cx hR hret  s h ls H locs (lv_sub hl [] rfl) hP hS
  · have h := mb_f hc h
    refine lv_iload_n hx hb d_M_hindrance_110 rfl (lv_at hl 3 rfl) ?_
    refine lv_bipush (v := (7 : Int32)) hx hb d_M_hindrance_111 (by decide) ?_
    refine lv_icmp_ne hx hb d_M_hindrance_113 rfl (fun hc => ?_) (fun hc => ?_)
    · have h := mb_f hc h
      exact zM_hindrance_b140 Cx hR hret  x2 s h ls H locs (lv_sub hl [1, 3] rfl) hP hS
    · have h := mb_t hc h
      refine lv_aload_n hx hb d_M_hindrance_116 rfl (lv_at hl 1 rfl) ?_
      refine lv_aload_n hx hb d_M_hindrance_117 rfl (lv_at hl 1 rfl) ?_
      refine va_get (ci := 5) (C := cnM) (T := fTM) (N := 30) hx hb hts uwM hown hK hP 0 rfl rfl 27 (by decide) (hts _ wd_552) (fun _ h9 => h9) rfl d_M_hindrance_118 ?_
      refine lv_iload hx hb d_M_hindrance_121 (lv_at hl 0 rfl) ?_
      refine mb_iald hx hb hK hP 21 0 rfl rfl h d_M_hindrance_123 (fun v2 h => ?_)
      refine lv_aload_n hx hb d_M_hindrance_124 rfl (lv_at hl 1 rfl) ?_
      refine va_get (ci := 5) (C := cnM) (T := fTM) (N := 30) hx hb hts uwM hown hK hP 0 rfl rfl 4 (by decide) (hts _ wd_529) (fun _ h9 => h9) rfl d_M_hindrance_125 ?_
      refine lv_iload_n hx hb d_M_hindrance_128 rfl (lv_at hl 2 rfl) ?_
      refine mb_iald hx hb hK hP 5 0 rfl rfl h d_M_hindrance_129 (fun v3 h => ?_)
      refine lv_iconst (v := (4 : Int32)) hx hb d_M_hindrance_130 (by decide) ?_
      refine lv_idiv hx hb d_M_hindrance_131 (by decide) ?_
      obtain ⟨v4, s5, hs5, h⟩ := mb_cal_ex h
      refine mb_goI Cx (mb_runV (As := [.int v2, .int (v3 / (4 : Int32))]) (rest := []) mb_Z0ok Cx (w_M_target l D X cI cZ cJ hs5 H.size) (mb_cwV 2 hts wd_685 wd_649 wd_650 wd_7 wd_651 rfl rfl rfl (by decide +kernel) ⟨Nat.le_trans (by decide) hR.1, Nat.le_trans (by decide) hR.2⟩) hP hS 0 rfl rfl rfl hl.1 rfl (Nat.le_of_ble_eq_true rfl) d_M_hindrance_132) hS (fun H locs hP hS => ?_)
      refine lv_if_ge hx hb d_M_hindrance_135 rfl (fun hc => ?_) (fun hc => ?_)
      · have h := mb_t hc h
        exact zM_hindrance_b140 Cx hR hret  x2 s5 h ls H locs (lv_sub hl [1, 3] rfl) hP hS
      · have h := mb_f hc h
        exact zM_hindrance_b138 Cx hR hret  s5 h ls H locs (lv_sub hl [] rfl) hP hS
set_option maxRecDepth 100000 in
set_option maxHeartbeats 4000000 in
theorem zM_hindrance_b73 {p : Program} {l : Launch} {e : Env} {R : Room} {s0 : State} {m : MethodId} {args : Array Value} {below : List Frame} {meth : Method} {c : Code} {Q : State → Prop} {A : Nat → Prop} {D : va_G} {X : Nat → Nat} {cI cZ cJ : ClassId} {rv : Int32} {rs : mb_S}
    (Cx : mb_C p s0 m args meth c c_M_hindrance 5 lw_w cnM (fun _ _ => True) vwCl D [(cI, .int), (cZ, .boolean), (cJ, .long)] A (WM X cI cZ cJ)) (hR : 2 ≤ R.frames ∧ 46 ≤ R.locals)
    (hret : mb_R p l e R s0 m args below meth c Q vwCl D A (WM X cI cZ cJ) c_M_hindrance .ireturn [.int rv] rs)   (s : mb_S)
    (h : mM_hindrance_b73  s = some (rv, rs)) : mb_B p l e R s0 m args below meth c Q vwCl D A (WM X cI cZ cJ) 5 [] [] 73 s := by
  unfold mM_hindrance_b73 at h
  intro ls H locs hl hP hS
  have Cx0 := Cx
  obtain ⟨⟨hx, hb, hml, hown, hts⟩, hK, hD, hA, hZ⟩ := Cx0
  refine lv_iconst (v := (0 : Int32)) hx hb d_M_hindrance_73 (by decide) ?_
  exact mb_eI hret h d_M_hindrance_74 hP hS
set_option maxRecDepth 100000 in
set_option maxHeartbeats 4000000 in
theorem zM_hindrance_b61 {p : Program} {l : Launch} {e : Env} {R : Room} {s0 : State} {m : MethodId} {args : Array Value} {below : List Frame} {meth : Method} {c : Code} {Q : State → Prop} {A : Nat → Prop} {D : va_G} {X : Nat → Nat} {cI cZ cJ : ClassId} {rv : Int32} {rs : mb_S}
    (Cx : mb_C p s0 m args meth c c_M_hindrance 5 lw_w cnM (fun _ _ => True) vwCl D [(cI, .int), (cZ, .boolean), (cJ, .long)] A (WM X cI cZ cJ)) (hR : 2 ≤ R.frames ∧ 46 ≤ R.locals)
    (hret : mb_R p l e R s0 m args below meth c Q vwCl D A (WM X cI cZ cJ) c_M_hindrance .ireturn [.int rv] rs)  (y0 : Int32) (s : mb_S)
    (h : mM_hindrance_b61  y0 s = some (rv, rs)) : mb_B p l e R s0 m args below meth c Q vwCl D A (WM X cI cZ cJ) 5 [] [.int y0] 61 s := by
  unfold mM_hindrance_b61 at h
  intro ls H locs hl hP hS
  have Cx0 := Cx
  obtain ⟨⟨hx, hb, hml, hown, hts⟩, hK, hD, hA, hZ⟩ := Cx0
  exact mb_eI hret h d_M_hindrance_61 hP hS
set_option maxRecDepth 100000 in
set_option maxHeartbeats 4000000 in
theorem w_M_hindrance (l : Launch) (D : va_G) (X : Nat → Nat) (cI cZ cJ : ClassId)  {s : mb_S} {rv : Int32} {rs : mb_S}
    (h : mM_hindrance  s = some (rv, rs)) : mb_MI l y_M_hindrance ws_M_hindrance rm_M_hindrance (fun _ _ => True) vwCl D [(cI, .int), (cZ, .boolean), (cJ, .long)] (WM X cI cZ cJ) [.ref (X 0)] s rv rs := by
  refine mb_ofI mb_Z0ok (by decide) rfl (Nat.le_of_ble_eq_true rfl) mb_DMok ?_
  intro p e s0 m args below meth c Q A Cx hret
  have hR : 2 ≤ (rm_M_hindrance).frames ∧ 46 ≤ (rm_M_hindrance).locals := ⟨Nat.le_refl _, Nat.le_refl _⟩
  intro ls H locs hl hP hS
  have Cx0 := Cx
  obtain ⟨⟨hx, hb, hml, hown, hts⟩, hK, hD, hA, hZ⟩ := Cx0
  have hl : lv_has ls 5 [(0, .ref (X 0))] := hl
  unfold mM_hindrance at h
  refine lv_bipush (v := (12 : Int32)) hx hb d_M_hindrance_0 (by decide) ?_
  refine lv_aload_n hx hb d_M_hindrance_2 rfl (lv_at hl 0 rfl) ?_
  refine va_get (ci := 5) (C := cnM) (T := fTM) (N := 30) hx hb hts uwM hown hK hP 0 rfl rfl 23 (by decide) (hts _ wd_548) (fun _ h9 => h9) rfl d_M_hindrance_3 ?_
  refine lv_aload_n hx hb d_M_hindrance_6 rfl (lv_at hl 0 rfl) ?_
  refine va_get (ci := 5) (C := cnM) (T := fTM) (N := 30) hx hb hts uwM hown hK hP 0 rfl rfl 22 (by decide) (hts _ wd_547) (fun _ h9 => h9) rfl d_M_hindrance_7 ?_
  refine lv_iconst (v := (1 : Int32)) hx hb d_M_hindrance_10 (by decide) ?_
  refine lv_isub hx hb d_M_hindrance_11 ?_
  refine mb_iald hx hb hK hP 17 0 rfl rfl h d_M_hindrance_12 (fun v6 h => ?_)
  refine lv_imul hx hb d_M_hindrance_13 ?_
  refine lv_aload_n hx hb d_M_hindrance_14 rfl (lv_at hl 0 rfl) ?_
  refine va_get (ci := 5) (C := cnM) (T := fTM) (N := 30) hx hb hts uwM hown hK hP 0 rfl rfl 24 (by decide) (hts _ wd_549) (fun _ h9 => h9) rfl d_M_hindrance_15 ?_
  refine lv_aload_n hx hb d_M_hindrance_18 rfl (lv_at hl 0 rfl) ?_
  refine va_get (ci := 5) (C := cnM) (T := fTM) (N := 30) hx hb hts uwM hown hK hP 0 rfl rfl 22 (by decide) (hts _ wd_547) (fun _ h9 => h9) rfl d_M_hindrance_19 ?_
  refine lv_iconst (v := (1 : Int32)) hx hb d_M_hindrance_22 (by decide) ?_
  refine lv_isub hx hb d_M_hindrance_23 ?_
  refine mb_iald hx hb hK hP 18 0 rfl rfl h d_M_hindrance_24 (fun v7 h => ?_)
  refine lv_iadd hx hb d_M_hindrance_25 ?_
  refine lv_topi (fun v8 ev8 => ?_)
  have h := mb_at ev8 h
  refine lv_istore_n (lv' := [(1, .int v8), (0, .ref (X 0))]) hx hb d_M_hindrance_26 rfl hl (by decide) rfl (fun ls hl => ?_)
  refine lv_aload_n hx hb d_M_hindrance_27 rfl (lv_at hl 1 rfl) ?_
  refine va_get (ci := 5) (C := cnM) (T := fTM) (N := 30) hx hb hts uwM hown hK hP 0 rfl rfl 1 (by decide) (hts _ wd_526) (fun _ h9 => h9) rfl d_M_hindrance_28 ?_
  refine lv_iload_n hx hb d_M_hindrance_31 rfl (lv_at hl 0 rfl) ?_
  refine mb_iald hx hb hK hP 2 0 rfl rfl h d_M_hindrance_32 (fun v9 h => ?_)
  refine lv_istore_n (lv' := [(2, .int v9), (1, .int v8), (0, .ref (X 0))]) hx hb d_M_hindrance_33 rfl hl (by decide) rfl (fun ls hl => ?_)
  refine lv_iconst (v := (4 : Int32)) hx hb d_M_hindrance_34 (by decide) ?_
  refine lv_aload_n hx hb d_M_hindrance_35 rfl (lv_at hl 2 rfl) ?_
  refine va_get (ci := 5) (C := cnM) (T := fTM) (N := 30) hx hb hts uwM hown hK hP 0 rfl rfl 22 (by decide) (hts _ wd_547) (fun _ h9 => h9) rfl d_M_hindrance_36 ?_
  refine lv_iconst (v := (1 : Int32)) hx hb d_M_hindrance_39 (by decide) ?_
  refine lv_isub hx hb d_M_hindrance_40 ?_
  refine lv_imul hx hb d_M_hindrance_41 ?_
  refine lv_topi (fun v10 ev10 => ?_)
  have h := mb_at ev10 h
  refine lv_istore_n (lv' := [(3, .int v10), (2, .int v9), (1, .int v8), (0, .ref (X 0))]) hx hb d_M_hindrance_42 rfl hl (by decide) rfl (fun ls hl => ?_)
  refine lv_iload_n hx hb d_M_hindrance_43 rfl (lv_at hl 1 rfl) ?_
  refine lv_if_ne hx hb d_M_hindrance_44 rfl (fun hc => ?_) (fun hc => ?_)
  · have h := mb_f hc h
    refine lv_iload_n hx hb d_M_hindrance_62 rfl (lv_at hl 1 rfl) ?_
    refine lv_iconst (v := (5 : Int32)) hx hb d_M_hindrance_63 (by decide) ?_
    refine lv_icmp_lt hx hb d_M_hindrance_64 rfl (fun hc => ?_) (fun hc => ?_)
    · have h := mb_t hc h
      exact zM_hindrance_b73 Cx hR hret  s h ls H locs (lv_sub hl [] rfl) hP hS
    · have h := mb_f hc h
      refine lv_iload_n hx hb d_M_hindrance_67 rfl (lv_at hl 1 rfl) ?_
      refine lv_bipush (v := (7 : Int32)) hx hb d_M_hindrance_68 (by decide) ?_
      refine lv_icmp_le hx hb d_M_hindrance_70 rfl (fun hc => ?_) (fun hc => ?_)
      · have h := mb_t hc h
        refine lv_aload_n hx hb d_M_hindrance_75 rfl (lv_at hl 3 rfl) ?_
        refine va_get (ci := 5) (C := cnM) (T := fTM) (N := 30) hx hb hts uwM hown hK hP 0 rfl rfl 25 (by decide) (hts _ wd_550) (fun _ h9 => h9) rfl d_M_hindrance_76 ?_
        refine lv_iload_n hx hb d_M_hindrance_79 rfl (lv_at hl 0 rfl) ?_
        refine lv_iload_n hx hb d_M_hindrance_80 rfl (lv_at hl 1 rfl) ?_
        refine lv_bipush (v := (6 : Int32)) hx hb d_M_hindrance_81 (by decide) ?_
        refine lv_icmp_ne hx hb d_M_hindrance_83 rfl (fun hc => ?_) (fun hc => ?_)
        · have h := mb_f hc h
          refine lv_aload_n hx hb d_M_hindrance_95 rfl (lv_at hl 3 rfl) ?_
          refine va_get (ci := 5) (C := cnM) (T := fTM) (N := 30) hx hb hts uwM hown hK hP 0 rfl rfl 3 (by decide) (hts _ wd_528) (fun _ h9 => h9) rfl d_M_hindrance_96 ?_
          refine lv_iload_n hx hb d_M_hindrance_99 rfl (lv_at hl 2 rfl) ?_
          refine mb_iald hx hb hK hP 4 0 rfl rfl h d_M_hindrance_100 (fun v11 h => ?_)
          exact zM_hindrance_b101 Cx hR hret  v8 v9 v11 v10 s h ls H locs (lv_sub hl [3, 2, 1] rfl) hP hS
        · have h := mb_t hc h
          refine lv_aload_n hx hb d_M_hindrance_86 rfl (lv_at hl 3 rfl) ?_
          refine va_get (ci := 5) (C := cnM) (T := fTM) (N := 30) hx hb hts uwM hown hK hP 0 rfl rfl 2 (by decide) (hts _ wd_527) (fun _ h9 => h9) rfl d_M_hindrance_87 ?_
          refine lv_iload_n hx hb d_M_hindrance_90 rfl (lv_at hl 2 rfl) ?_
          refine mb_iald hx hb hK hP 3 0 rfl rfl h d_M_hindrance_91 (fun v12 h => ?_)
          refine lv_goto hx hb d_M_hindrance_92 rfl ?_
          exact zM_hindrance_b101 Cx hR hret  v8 v9 v12 v10 s h ls H locs (lv_sub hl [3, 2, 1] rfl) hP hS
      · have h := mb_f hc h
        exact zM_hindrance_b73 Cx hR hret  s h ls H locs (lv_sub hl [] rfl) hP hS
  · have h := mb_t hc h
    refine lv_aload_n hx hb d_M_hindrance_47 rfl (lv_at hl 3 rfl) ?_
    refine va_get (ci := 5) (C := cnM) (T := fTM) (N := 30) hx hb hts uwM hown hK hP 0 rfl rfl 18 (by decide) (hts _ wd_543) (fun _ h9 => h9) rfl d_M_hindrance_48 ?_
    refine lv_bipush (v := (12 : Int32)) hx hb d_M_hindrance_51 (by decide) ?_
    refine lv_icmp_ne hx hb d_M_hindrance_53 rfl (fun hc => ?_) (fun hc => ?_)
    · have h := mb_f hc h
      refine lv_iconst (v := (0 : Int32)) hx hb d_M_hindrance_60 (by decide) ?_
      exact zM_hindrance_b61 Cx hR hret  (0 : Int32) s h ls H locs (lv_sub hl [] rfl) hP hS
    · have h := mb_t hc h
      refine lv_iconst (v := (5 : Int32)) hx hb d_M_hindrance_56 (by decide) ?_
      refine lv_goto hx hb d_M_hindrance_57 rfl ?_
      exact zM_hindrance_b61 Cx hR hret  (5 : Int32) s h ls H locs (lv_sub hl [] rfl) hP hS
